/-! walks. Written by wip/whole/genall.py -/
set_option maxRecDepth 100000 in
set_option maxHeartbeats 4000000 in
theorem c_X10_thrown {l : Launch} {D : va_G} {ad : Nat → Nat} {ty : Nat → ClassId} (hl : l.stackTraces = false) (hj : ∀ i j, i < 68 → j < 68 → ad i = ad j → i = j) {σ : Dz} {post : Int32 → Prop} (hp : P_X10_thrown σ post) : Mz l D ad ty yX10_thrown cX10_thrown 1 (some .int) r_X10_thrown nI0 σ [.ref (ad 43)] (fun r τ => σ = τ ∧ post r) (fun _ _ => False) := by
  refine mz_of (by decide) hl hj (Nat.le_of_ble_eq_true rfl) ?_
  intro p e s m args below meth c K hex hr
  unfold P_X10_thrown at hp
  show Gz p l e r_X10_thrown s m args below meth c D ad ty 1 0 0 (Ez below D ad ty nI0 (fun r τ => σ = τ ∧ post r) (fun _ _ => False) args s 0 0) σ 0 [(0, .ref (ad 43))] []
  refine gz_aload_n K dX10_thrown_0 0 rfl ?_
  refine gz_get K (v := .int (gz_i σ 43 0)) (by decide) (ce_43 _ _ _ _ _ _) rfl inz_X10 0 (by decide) zq5_31 rfl dX10_thrown_1 ?_
  exact gz_iret K hr ⟨rfl, hp⟩ dX10_thrown_4 (Nat.le_of_ble_eq_true rfl) (Nat.le_of_ble_eq_true rfl)
set_option maxRecDepth 100000 in
set_option maxHeartbeats 4000000 in
theorem c_X10_in {l : Launch} {D : va_G} {ad : Nat → Nat} {ty : Nat → ClassId} (hl : l.stackTraces = false) (hj : ∀ i j, i < 68 → j < 68 → ad i = ad j → i = j) {σ : Dz} {x0 : Int32} {x1 : Int32} {x2 : Int32} {post : Int32 → Prop} (hp : P_X10_in x0 x1 x2 post) : Mz l D ad ty yX10_in cX10_in 3 (some .boolean) r_X10_in nI0 σ [.int x0, .int x1, .int x2] (fun r τ => σ = τ ∧ post r) (fun _ _ => False) := by
  refine mz_of (by decide) hl hj (Nat.le_of_ble_eq_true rfl) ?_
  intro p e s m args below meth c K hex hr
  unfold P_X10_in at hp
  show Gz p l e r_X10_in s m args below meth c D ad ty 3 0 0 (Ez below D ad ty nI0 (fun r τ => σ = τ ∧ post r) (fun _ _ => False) args s 0 0) σ 0 [(0, .int x0), (1, .int x1), (2, .int x2)] []
  refine gz_iload_n K dX10_in_0 0 rfl ?_
  refine gz_iload_n K dX10_in_1 1 rfl ?_
  refine gz_icmp_lt K 14 dX10_in_2 (by decide) (fun h => ?_) (fun h => ?_)
  · have hp := hp.1 h
    refine gz_iconst K (v := (0 : Int32)) dX10_in_14 (by decide) ?_
    exact gz_zret K hr (by decide) ⟨rfl, hp⟩ dX10_in_15 (Nat.le_of_ble_eq_true rfl) (Nat.le_of_ble_eq_true rfl)
  · have hp := hp.2 h
    refine gz_iload_n K dX10_in_5 0 rfl ?_
    refine gz_iload_n K dX10_in_6 2 rfl ?_
    refine gz_icmp_gt K 14 dX10_in_7 (by decide) (fun h => ?_) (fun h => ?_)
    · have hp := hp.1 h
      refine gz_iconst K (v := (0 : Int32)) dX10_in_14 (by decide) ?_
      exact gz_zret K hr (by decide) ⟨rfl, hp⟩ dX10_in_15 (Nat.le_of_ble_eq_true rfl) (Nat.le_of_ble_eq_true rfl)
    · have hp := hp.2 h
      refine gz_iconst K (v := (1 : Int32)) dX10_in_10 (by decide) ?_
      refine gz_goto K 15 dX10_in_11 (by decide) ?_
      exact gz_zret K hr (by decide) ⟨rfl, hp⟩ dX10_in_15 (Nat.le_of_ble_eq_true rfl) (Nat.le_of_ble_eq_true rfl)
set_option maxRecDepth 100000 in
set_option maxHeartbeats 4000000 in
theorem c_X10_fails {l : Launch} {D : va_G} {ad : Nat → Nat} {ty : Nat → ClassId} (hl : l.stackTraces = false) (hj : ∀ i j, i < 68 → j < 68 → ad i = ad j → i = j) {σ : Dz} {x1 : Int32} {post : Int32 → Dz → Prop} (hp : P_X10_fails σ x1 post) : Mz l D ad ty yX10_fails cX10_fails 2 (some .int) r_X10_fails nI0 σ [.ref (ad 43), .int x1] post (fun _ _ => False) := by
  refine mz_of (by decide) hl hj (Nat.le_of_ble_eq_true rfl) ?_
  intro p e s m args below meth c K hex hr
  unfold P_X10_fails at hp
  show Gz p l e r_X10_fails s m args below meth c D ad ty 2 0 0 (Ez below D ad ty nI0 post (fun _ _ => False) args s 0 0) σ 0 [(0, .ref (ad 43)), (1, .int x1)] []
  refine gz_aload_n K dX10_fails_0 0 rfl ?_
  refine gz_iload_n K dX10_fails_1 1 rfl ?_
  refine gz_put K (x := x1) (by decide) (ce_43 _ _ _ _ _ _) rfl inz_X10 tyX10 tyX10_ok nmX10 0 (by decide) zq5_31 rfl (tyX10_ok _ (by decide)) rfl rfl (Nat.le_of_ble_eq_true rfl) peX10_0 dX10_fails_2 ?_
  refine gz_iconst K (v := (0 : Int32)) dX10_fails_5 (by decide) ?_
  exact gz_iret K hr hp dX10_fails_6 (Nat.le_of_ble_eq_true rfl) (Nat.le_of_ble_eq_true rfl)
set_option maxRecDepth 100000 in
set_option maxHeartbeats 4000000 in
theorem c_X10_done {l : Launch} {D : va_G} {ad : Nat → Nat} {ty : Nat → ClassId} (hl : l.stackTraces = false) (hj : ∀ i j, i < 68 → j < 68 → ad i = ad j → i = j) {σ : Dz} {x1 : Int32} {post : Int32 → Dz → Prop} (hp : P_X10_done σ x1 post) : Mz l D ad ty yX10_done cX10_done 2 (some .int) r_X10_done nI0 σ [.ref (ad 43), .int x1] post (fun _ _ => False) := by
  refine mz_of (by decide) hl hj (Nat.le_of_ble_eq_true rfl) ?_
  intro p e s m args below meth c K hex hr
  unfold P_X10_done at hp
  show Gz p l e r_X10_done s m args below meth c D ad ty 2 0 0 (Ez below D ad ty nI0 post (fun _ _ => False) args s 0 0) σ 0 [(0, .ref (ad 43)), (1, .int x1)] []
  refine gz_aload_n K dX10_done_0 0 rfl ?_
  refine gz_iconst K (v := (0 : Int32)) dX10_done_1 (by decide) ?_
  refine gz_put K (x := (0 : Int32)) (by decide) (ce_43 _ _ _ _ _ _) rfl inz_X10 tyX10 tyX10_ok nmX10 0 (by decide) zq5_31 rfl (tyX10_ok _ (by decide)) rfl rfl (Nat.le_of_ble_eq_true rfl) peX10_0 dX10_done_2 ?_
  refine gz_iload_n K dX10_done_5 1 rfl ?_
  exact gz_iret K hr hp dX10_done_6 (Nat.le_of_ble_eq_true rfl) (Nat.le_of_ble_eq_true rfl)
set_option maxRecDepth 100000 in
set_option maxHeartbeats 4000000 in
theorem c_X10_so {l : Launch} {D : va_G} {ad : Nat → Nat} {ty : Nat → ClassId} (hl : l.stackTraces = false) (hj : ∀ i j, i < 68 → j < 68 → ad i = ad j → i = j) {σ : Dz} {x1 : Int32} {post : Int32 → Dz → Prop} (hp : P_X10_so σ x1 post) : Mz l D ad ty yX10_so cX10_so 2 (some .boolean) r_X10_so nI0 σ [.ref (ad 43), .int x1] post (fun _ _ => False) := by
  refine mz_of (by decide) hl hj (Nat.le_of_ble_eq_true rfl) ?_
  intro p e s m args below meth c K hex hr
  unfold P_X10_so at hp
  show Gz p l e r_X10_so s m args below meth c D ad ty 2 0 0 (Ez below D ad ty nI0 post (fun _ _ => False) args s 0 0) σ 0 [(0, .ref (ad 43)), (1, .int x1)] []
  refine gz_aload_n K dX10_so_0 0 rfl ?_
  refine gz_iconst K (v := (0 : Int32)) dX10_so_1 (by decide) ?_
  refine gz_put K (x := (0 : Int32)) (by decide) (ce_43 _ _ _ _ _ _) rfl inz_X10 tyX10 tyX10_ok nmX10 0 (by decide) zq5_31 rfl (tyX10_ok _ (by decide)) rfl rfl (Nat.le_of_ble_eq_true rfl) peX10_0 dX10_so_2 ?_
  refine gz_iload_n K dX10_so_5 1 rfl ?_
  exact gz_zret K hr (nB hp.1) hp.2 dX10_so_6 (Nat.le_of_ble_eq_true rfl) (Nat.le_of_ble_eq_true rfl)
set_option maxRecDepth 100000 in
set_option maxHeartbeats 4000000 in
theorem c_X10_not {l : Launch} {D : va_G} {ad : Nat → Nat} {ty : Nat → ClassId} (hl : l.stackTraces = false) (hj : ∀ i j, i < 68 → j < 68 → ad i = ad j → i = j) {σ : Dz} {x1 : Int32} {post : Int32 → Dz → Prop} (hp : P_X10_not σ x1 post) : Mz l D ad ty yX10_not cX10_not 2 (some .boolean) r_X10_not nI0 σ [.ref (ad 43), .int x1] post (fun _ _ => False) := by
  refine mz_of (by decide) hl hj (Nat.le_of_ble_eq_true rfl) ?_
  intro p e s m args below meth c K hex hr
  unfold P_X10_not at hp
  show Gz p l e r_X10_not s m args below meth c D ad ty 2 0 0 (Ez below D ad ty nI0 post (fun _ _ => False) args s 0 0) σ 0 [(0, .ref (ad 43)), (1, .int x1)] []
  refine gz_aload_n K dX10_not_0 0 rfl ?_
  refine gz_iload_n K dX10_not_1 1 rfl ?_
  refine gz_put K (x := x1) (by decide) (ce_43 _ _ _ _ _ _) rfl inz_X10 tyX10 tyX10_ok nmX10 0 (by decide) zq5_31 rfl (tyX10_ok _ (by decide)) rfl rfl (Nat.le_of_ble_eq_true rfl) peX10_0 dX10_not_2 ?_
  refine gz_iconst K (v := (0 : Int32)) dX10_not_5 (by decide) ?_
  exact gz_zret K hr (by decide) hp dX10_not_6 (Nat.le_of_ble_eq_true rfl) (Nat.le_of_ble_eq_true rfl)
set_option maxRecDepth 100000 in
set_option maxHeartbeats 4000000 in
theorem c_X10_isSlot {l : Launch} {D : va_G} {ad : Nat → Nat} {ty : Nat → ClassId} (hl : l.stackTraces = false) (hj : ∀ i j, i < 68 → j < 68 → ad i = ad j → i = j) {σ : Dz} {x0 : Int32} {post : Int32 → Prop} (hp : P_X10_isSlot x0 post) : Mz l D ad ty yX10_isSlot cX10_isSlot 1 (some .boolean) r_X10_isSlot nI0 σ [.int x0] (fun r τ => σ = τ ∧ post r) (fun _ _ => False) := by
  refine mz_of (by decide) hl hj (Nat.le_of_ble_eq_true rfl) ?_
  intro p e s m args below meth c K hex hr
  unfold P_X10_isSlot at hp
  show Gz p l e r_X10_isSlot s m args below meth c D ad ty 1 0 0 (Ez below D ad ty nI0 (fun r τ => σ = τ ∧ post r) (fun _ _ => False) args s 0 0) σ 0 [(0, .int x0)] []
  refine gz_iload_n K dX10_isSlot_0 0 rfl ?_
  refine gz_iconst K (v := (0 : Int32)) dX10_isSlot_1 (by decide) ?_
  refine gz_iconst K (v := (3 : Int32)) dX10_isSlot_2 (by decide) ?_
  refine gz_callS K hex (c_X10_in K.2.2.2.2.2 K.2.2.1 hp) cf_X10_in zq5_146 dX10_isSlot_3 rfl rfl (Nat.le_of_ble_eq_true rfl) ⟨Nat.le_of_ble_eq_true rfl, Nat.le_of_ble_eq_true rfl⟩ ⟨Nat.le_of_ble_eq_true rfl, Nat.le_of_ble_eq_true rfl⟩ (Nat.le_of_ble_eq_true rfl) (Nat.le_of_ble_eq_true rfl) (fun _ _ h => h.elim) (fun r3 τ hp => ?_)
  obtain ⟨rfl, hp⟩ := hp
  refine gz_norm (st' := [.int r3]) (cells' := 0) (slots' := 0) rfl rfl rfl ?_
  exact gz_zret K hr (nB hp.1) ⟨rfl, hp.2⟩ dX10_isSlot_6 (Nat.le_of_ble_eq_true rfl) (Nat.le_of_ble_eq_true rfl)
set_option maxRecDepth 100000 in
set_option maxHeartbeats 4000000 in
theorem c_X10_isPosition {l : Launch} {D : va_G} {ad : Nat → Nat} {ty : Nat → ClassId} (hl : l.stackTraces = false) (hj : ∀ i j, i < 68 → j < 68 → ad i = ad j → i = j) {σ : Dz} {x1 : Int32} {post : Int32 → Prop} (hp : P_X10_isPosition σ x1 post) : Mz l D ad ty yX10_isPosition cX10_isPosition 2 (some .boolean) r_X10_isPosition nI0 σ [.ref (ad 43), .int x1] (fun r τ => σ = τ ∧ post r) (fun _ _ => False) := by
  refine mz_of (by decide) hl hj (Nat.le_of_ble_eq_true rfl) ?_
  intro p e s m args below meth c K hex hr
  unfold P_X10_isPosition at hp
  show Gz p l e r_X10_isPosition s m args below meth c D ad ty 2 0 0 (Ez below D ad ty nI0 (fun r τ => σ = τ ∧ post r) (fun _ _ => False) args s 0 0) σ 0 [(0, .ref (ad 43)), (1, .int x1)] []
  refine gz_iload_n K dX10_isPosition_0 1 rfl ?_
  refine gz_iconst K (v := (1 : Int32)) dX10_isPosition_1 (by decide) ?_
  refine gz_aload_n K dX10_isPosition_2 0 rfl ?_
  refine gz_get K (v := .int (gz_i σ 43 1)) (by decide) (ce_43 _ _ _ _ _ _) rfl inz_X10 1 (by decide) zq5_32 rfl dX10_isPosition_3 ?_
  refine gz_callS K hex (c_X10_in K.2.2.2.2.2 K.2.2.1 hp) cf_X10_in zq5_146 dX10_isPosition_6 rfl rfl (Nat.le_of_ble_eq_true rfl) ⟨Nat.le_of_ble_eq_true rfl, Nat.le_of_ble_eq_true rfl⟩ ⟨Nat.le_of_ble_eq_true rfl, Nat.le_of_ble_eq_true rfl⟩ (Nat.le_of_ble_eq_true rfl) (Nat.le_of_ble_eq_true rfl) (fun _ _ h => h.elim) (fun r6 τ hp => ?_)
  obtain ⟨rfl, hp⟩ := hp
  refine gz_norm (st' := [.int r6]) (cells' := 0) (slots' := 0) rfl rfl rfl ?_
  exact gz_zret K hr (nB hp.1) ⟨rfl, hp.2⟩ dX10_isPosition_9 (Nat.le_of_ble_eq_true rfl) (Nat.le_of_ble_eq_true rfl)
set_option maxRecDepth 100000 in
set_option maxHeartbeats 4000000 in
theorem c_X10_reset {l : Launch} {D : va_G} {ad : Nat → Nat} {ty : Nat → ClassId} (hl : l.stackTraces = false) (hj : ∀ i j, i < 68 → j < 68 → ad i = ad j → i = j) {σ : Dz} {x1 : Int32} {post : Int32 → Dz → Prop} (hp : P_X10_reset σ x1 post) : Mz l D ad ty yX10_reset cX10_reset 4 (some .int) r_X10_reset nI0 σ [.ref (ad 43), .int x1] post (fun _ _ => False) := by
  refine mz_of (by decide) hl hj (Nat.le_of_ble_eq_true rfl) ?_
  intro p e s m args below meth c K hex hr
  unfold P_X10_reset at hp
  show Gz p l e r_X10_reset s m args below meth c D ad ty 4 0 0 (Ez below D ad ty nI0 post (fun _ _ => False) args s 0 0) σ 0 [(0, .ref (ad 43)), (1, .int x1)] []
  refine gz_iload_n K dX10_reset_0 1 rfl ?_
  refine gz_iconst K (v := (2 : Int32)) dX10_reset_1 (by decide) ?_
  refine gz_bipush K (v := (7 : Int32)) dX10_reset_2 (by decide) ?_
  refine gz_callS K hex (c_X10_in K.2.2.2.2.2 K.2.2.1 hp) cf_X10_in zq5_146 dX10_reset_4 rfl rfl (Nat.le_of_ble_eq_true rfl) ⟨Nat.le_of_ble_eq_true rfl, Nat.le_of_ble_eq_true rfl⟩ ⟨Nat.le_of_ble_eq_true rfl, Nat.le_of_ble_eq_true rfl⟩ (Nat.le_of_ble_eq_true rfl) (Nat.le_of_ble_eq_true rfl) (fun _ _ h => h.elim) (fun r4 τ hp => ?_)
  obtain ⟨rfl, hp⟩ := hp
  refine gz_norm (st' := [.int r4]) (cells' := 0) (slots' := 0) rfl rfl rfl ?_
  refine gz_if_ne K 16 dX10_reset_7 (by decide) (fun h => ?_) (fun h => ?_)
  · have hp := hp.1 h
    refine gz_aload_n K dX10_reset_16 0 rfl ?_
    refine gz_get K (v := .int (gz_i σ 43 1)) (by decide) (ce_43 _ _ _ _ _ _) rfl inz_X10 1 (by decide) zq5_32 rfl dX10_reset_17 ?_
    refine gz_istore_n K [(2, .int (gz_i σ 43 1)), (0, .ref (ad 43)), (1, .int x1)] dX10_reset_20 (by decide) rfl ?_
    refine gz_aload_n K dX10_reset_21 1 rfl ?_
    refine gz_iload_n K dX10_reset_22 2 rfl ?_
    refine gz_put K (x := x1) (by decide) (ce_43 _ _ _ _ _ _) rfl inz_X10 tyX10 tyX10_ok nmX10 1 (by decide) zq5_32 rfl (tyX10_ok _ (by decide)) rfl rfl (Nat.le_of_ble_eq_true rfl) peX10_1 dX10_reset_23 ?_
    refine gz_iconst K (v := (1 : Int32)) dX10_reset_26 (by decide) ?_
    refine gz_istore_n K [(3, .int (1 : Int32)), (2, .int (gz_i σ 43 1)), (0, .ref (ad 43)), (1, .int x1)] dX10_reset_27 (by decide) rfl ?_
    refine gz_sub [2, 1, 0] rfl ?_
    have ll_28 : ∀ (n_28 : Nat) (σ : Dz) (y2 : Int32) (y3 : Int32) , L_X10_reset_28 post  n_28 σ y2 y3 → Gz p l e r_X10_reset s m args below meth c D ad ty 4 0 0 (Ez below D ad ty nI0 post (fun _ _ => False) args s 0 0) σ 28 [(0, .ref (ad 43)), (2, .int y2), (3, .int y3)] [] := by
      intro n_28; induction n_28 with
      | zero => intro σ y2 y3 hp; exact False.elim hp
      | succ n_28 ih_28 =>
        intro σ y2 y3 hp
        have hp : B_X10_reset_28 post  (L_X10_reset_28 post  n_28) σ y2 y3 := hp
        unfold B_X10_reset_28 at hp
        refine gz_iload_n K dX10_reset_28 2 rfl ?_
        refine gz_bipush K (v := (8 : Int32)) dX10_reset_29 (by decide) ?_
        refine gz_icmp_ge K 47 dX10_reset_31 (by decide) (fun h => ?_) (fun h => ?_)
        · have hp := hp.1 h
          refine gz_iconst K (v := (0 : Int32)) dX10_reset_47 (by decide) ?_
          refine gz_istore_n K [(3, .int (0 : Int32)), (0, .ref (ad 43)), (2, .int y2)] dX10_reset_48 (by decide) rfl ?_
          refine gz_sub [1, 2, 0] rfl ?_
          have ll_49 : ∀ (n_49 : Nat) (σ : Dz) (y2 : Int32) (y3 : Int32) , L_X10_reset_49 post  n_49 σ y2 y3 → Gz p l e r_X10_reset s m args below meth c D ad ty 4 0 0 (Ez below D ad ty nI0 post (fun _ _ => False) args s 0 0) σ 49 [(0, .ref (ad 43)), (2, .int y2), (3, .int y3)] [] := by
            intro n_49; induction n_49 with
            | zero => intro σ y2 y3 hp; exact False.elim hp
            | succ n_49 ih_49 =>
              intro σ y2 y3 hp
              have hp : B_X10_reset_49 post  (L_X10_reset_49 post  n_49) σ y2 y3 := hp
              unfold B_X10_reset_49 at hp
              refine gz_iload_n K dX10_reset_49 2 rfl ?_
              refine gz_iconst K (v := (5 : Int32)) dX10_reset_50 (by decide) ?_
              refine gz_icmp_ge K 67 dX10_reset_51 (by decide) (fun h => ?_) (fun h => ?_)
              · have hp := hp.1 h
                refine gz_iconst K (v := (0 : Int32)) dX10_reset_67 (by decide) ?_
                refine gz_istore_n K [(3, .int (0 : Int32)), (0, .ref (ad 43)), (2, .int y2)] dX10_reset_68 (by decide) rfl ?_
                refine gz_sub [1, 2, 0] rfl ?_
                have ll_69 : ∀ (n_69 : Nat) (σ : Dz) (y2 : Int32) (y3 : Int32) , L_X10_reset_69 post  n_69 σ y2 y3 → Gz p l e r_X10_reset s m args below meth c D ad ty 4 0 0 (Ez below D ad ty nI0 post (fun _ _ => False) args s 0 0) σ 69 [(0, .ref (ad 43)), (2, .int y2), (3, .int y3)] [] := by
                  intro n_69; induction n_69 with
                  | zero => intro σ y2 y3 hp; exact False.elim hp
                  | succ n_69 ih_69 =>
                    intro σ y2 y3 hp
                    have hp : B_X10_reset_69 post  (L_X10_reset_69 post  n_69) σ y2 y3 := hp
                    unfold B_X10_reset_69 at hp
                    refine gz_iload_n K dX10_reset_69 2 rfl ?_
                    refine gz_iconst K (v := (4 : Int32)) dX10_reset_70 (by decide) ?_
                    refine gz_icmp_ge K 87 dX10_reset_71 (by decide) (fun h => ?_) (fun h => ?_)
                    · have hp := hp.1 h
                      refine gz_aload_n K dX10_reset_87 0 rfl ?_
                      refine gz_iconst K (v := (0 : Int32)) dX10_reset_88 (by decide) ?_
                      refine gz_put K (x := (0 : Int32)) (by decide) (ce_43 _ _ _ _ _ _) rfl inz_X10 tyX10 tyX10_ok nmX10 12 (by decide) zq5_43 rfl (tyX10_ok _ (by decide)) rfl rfl (Nat.le_of_ble_eq_true rfl) peX10_12 dX10_reset_89 ?_
                      refine gz_aload_n K dX10_reset_92 0 rfl ?_
                      refine gz_iconst K (v := (0 : Int32)) dX10_reset_93 (by decide) ?_
                      refine gz_put K (x := (0 : Int32)) (by decide) (ce_43 _ _ _ _ _ _) rfl inz_X10 tyX10 tyX10_ok nmX10 27 (by decide) zq5_58 rfl (tyX10_ok _ (by decide)) rfl rfl (Nat.le_of_ble_eq_true rfl) peX10_27 dX10_reset_94 ?_
                      refine gz_aload_n K dX10_reset_97 0 rfl ?_
                      refine gz_iload_n K dX10_reset_98 1 rfl ?_
                      refine gz_callV K hex (c_X10_done K.2.2.2.2.2 K.2.2.1 hp) cf_X10_done zq5_153 (by decide) (ce_43 _ _ _ _ _ _) rfl dX10_reset_99 rfl rfl (Nat.le_of_ble_eq_true rfl) ⟨Nat.le_of_ble_eq_true rfl, Nat.le_of_ble_eq_true rfl⟩ ⟨Nat.le_of_ble_eq_true rfl, Nat.le_of_ble_eq_true rfl⟩ (Nat.le_of_ble_eq_true rfl) (Nat.le_of_ble_eq_true rfl) (fun _ _ h => h.elim) (fun r99 τ99 hp => ?_)
                      refine gz_norm (st' := [.int r99]) (cells' := 0) (slots' := 0) rfl rfl rfl ?_
                      exact gz_iret K hr hp dX10_reset_102 (Nat.le_of_ble_eq_true rfl) (Nat.le_of_ble_eq_true rfl)
                    · have hp := hp.2 h
                      refine gz_aload_n K dX10_reset_74 0 rfl ?_
                      refine gz_get K (v := .ref (ad 47)) (by decide) (ce_43 _ _ _ _ _ _) rfl inz_X10 5 (by decide) zq5_36 rfl dX10_reset_75 ?_
                      refine gz_iload_n K dX10_reset_78 2 rfl ?_
                      refine gz_iconst K (v := (0 : Int32)) dX10_reset_79 (by decide) ?_
                      obtain ⟨h, hp⟩ := hp
                      refine gz_iast K (x := (0 : Int32)) (by decide) (ce_47 ad ty) h dX10_reset_80 ?_
                      refine gz_iinc K (v := (y3 + 1)) [(3, .int (y3 + 1)), (0, .ref (ad 43)), (2, .int y2)] dX10_reset_81 2 rfl (by first | rfl | decide) (by decide) rfl ?_
                      refine gz_goto K 69 dX10_reset_84 (by decide) ?_
                      refine gz_sub [1, 2, 0] rfl ?_
                      exact ih_69 (sz_i σ 47 (y3).toNatClampNeg (0 : Int32)) y2 (y3 + 1)  hp
                obtain ⟨n, hp⟩ := hp
                exact ll_69 n σ y2 (0 : Int32)  hp
              · have hp := hp.2 h
                refine gz_aload_n K dX10_reset_54 0 rfl ?_
                refine gz_get K (v := .ref (ad 45)) (by decide) (ce_43 _ _ _ _ _ _) rfl inz_X10 3 (by decide) zq5_34 rfl dX10_reset_55 ?_
                refine gz_iload_n K dX10_reset_58 2 rfl ?_
                refine gz_iconst K (v := (0 : Int32)) dX10_reset_59 (by decide) ?_
                obtain ⟨h, hp⟩ := hp
                refine gz_zastB K (x := (0 : Int32)) (by decide) (ce_45 ad ty) h (by decide) dX10_reset_60 ?_
                refine gz_iinc K (v := (y3 + 1)) [(3, .int (y3 + 1)), (0, .ref (ad 43)), (2, .int y2)] dX10_reset_61 2 rfl (by first | rfl | decide) (by decide) rfl ?_
                refine gz_goto K 49 dX10_reset_64 (by decide) ?_
                refine gz_sub [1, 2, 0] rfl ?_
                exact ih_49 (sz_i σ 45 (y3).toNatClampNeg (0 : Int32)) y2 (y3 + 1)  hp
          obtain ⟨n, hp⟩ := hp
          exact ll_49 n σ y2 (0 : Int32)  hp
        · have hp := hp.2 h
          refine gz_aload_n K dX10_reset_34 0 rfl ?_
          refine gz_get K (v := .ref (ad 44)) (by decide) (ce_43 _ _ _ _ _ _) rfl inz_X10 2 (by decide) zq5_33 rfl dX10_reset_35 ?_
          refine gz_iload_n K dX10_reset_38 2 rfl ?_
          refine gz_iload_n K dX10_reset_39 2 rfl ?_
          obtain ⟨h, hp⟩ := hp
          refine gz_iast K (x := y3) (by decide) (ce_44 ad ty) h dX10_reset_40 ?_
          refine gz_iinc K (v := (y3 + 1)) [(3, .int (y3 + 1)), (0, .ref (ad 43)), (2, .int y2)] dX10_reset_41 2 rfl (by first | rfl | decide) (by decide) rfl ?_
          refine gz_goto K 28 dX10_reset_44 (by decide) ?_
          refine gz_sub [1, 2, 0] rfl ?_
          exact ih_28 (sz_i σ 44 (y3).toNatClampNeg y3) y2 (y3 + 1)  hp
    obtain ⟨n, hp⟩ := hp
    exact ll_28 n (sz_i σ 43 1 x1) (gz_i σ 43 1) (1 : Int32)  hp
  · have hp := hp.2 h
    refine gz_aload_n K dX10_reset_10 0 rfl ?_
    refine gz_iconst K (v := (1 : Int32)) dX10_reset_11 (by decide) ?_
    refine gz_callV K hex (c_X10_fails K.2.2.2.2.2 K.2.2.1 hp) cf_X10_fails zq5_149 (by decide) (ce_43 _ _ _ _ _ _) rfl dX10_reset_12 rfl rfl (Nat.le_of_ble_eq_true rfl) ⟨Nat.le_of_ble_eq_true rfl, Nat.le_of_ble_eq_true rfl⟩ ⟨Nat.le_of_ble_eq_true rfl, Nat.le_of_ble_eq_true rfl⟩ (Nat.le_of_ble_eq_true rfl) (Nat.le_of_ble_eq_true rfl) (fun _ _ h => h.elim) (fun r12 τ12 hp => ?_)
    refine gz_norm (st' := [.int r12]) (cells' := 0) (slots' := 0) rfl rfl rfl ?_
    exact gz_iret K hr hp dX10_reset_15 (Nat.le_of_ble_eq_true rfl) (Nat.le_of_ble_eq_true rfl)
set_option maxRecDepth 100000 in
set_option maxHeartbeats 4000000 in
theorem c_X10_positions {l : Launch} {D : va_G} {ad : Nat → Nat} {ty : Nat → ClassId} (hl : l.stackTraces = false) (hj : ∀ i j, i < 68 → j < 68 → ad i = ad j → i = j) {σ : Dz} {post : Int32 → Dz → Prop} (hp : P_X10_positions σ post) : Mz l D ad ty yX10_positions cX10_positions 1 (some .int) r_X10_positions nI0 σ [.ref (ad 43)] post (fun _ _ => False) := by
  refine mz_of (by decide) hl hj (Nat.le_of_ble_eq_true rfl) ?_
  intro p e s m args below meth c K hex hr
  unfold P_X10_positions at hp
  show Gz p l e r_X10_positions s m args below meth c D ad ty 1 0 0 (Ez below D ad ty nI0 post (fun _ _ => False) args s 0 0) σ 0 [(0, .ref (ad 43))] []
  refine gz_aload_n K dX10_positions_0 0 rfl ?_
  refine gz_aload_n K dX10_positions_1 0 rfl ?_
  refine gz_get K (v := .int (gz_i σ 43 1)) (by decide) (ce_43 _ _ _ _ _ _) rfl inz_X10 1 (by decide) zq5_32 rfl dX10_positions_2 ?_
  refine gz_callV K hex (c_X10_done K.2.2.2.2.2 K.2.2.1 hp) cf_X10_done zq5_153 (by decide) (ce_43 _ _ _ _ _ _) rfl dX10_positions_5 rfl rfl (Nat.le_of_ble_eq_true rfl) ⟨Nat.le_of_ble_eq_true rfl, Nat.le_of_ble_eq_true rfl⟩ ⟨Nat.le_of_ble_eq_true rfl, Nat.le_of_ble_eq_true rfl⟩ (Nat.le_of_ble_eq_true rfl) (Nat.le_of_ble_eq_true rfl) (fun _ _ h => h.elim) (fun r5 τ5 hp => ?_)
  refine gz_norm (st' := [.int r5]) (cells' := 0) (slots' := 0) rfl rfl rfl ?_
  exact gz_iret K hr hp dX10_positions_8 (Nat.le_of_ble_eq_true rfl) (Nat.le_of_ble_eq_true rfl)
set_option maxRecDepth 100000 in
set_option maxHeartbeats 4000000 in
theorem c_X10_append {l : Launch} {D : va_G} {ad : Nat → Nat} {ty : Nat → ClassId} (hl : l.stackTraces = false) (hj : ∀ i j, i < 68 → j < 68 → ad i = ad j → i = j) {σ : Dz} {x1 : Int32} {post : Int32 → Dz → Prop} (hp : P_X10_append σ x1 post) : Mz l D ad ty yX10_append cX10_append 2 (some .int) r_X10_append nI0 σ [.ref (ad 43), .int x1] post (fun _ _ => False) := by
  refine mz_of (by decide) hl hj (Nat.le_of_ble_eq_true rfl) ?_
  intro p e s m args below meth c K hex hr
  unfold P_X10_append at hp
  show Gz p l e r_X10_append s m args below meth c D ad ty 2 0 0 (Ez below D ad ty nI0 post (fun _ _ => False) args s 0 0) σ 0 [(0, .ref (ad 43)), (1, .int x1)] []
  refine gz_iload_n K dX10_append_0 1 rfl ?_
  refine gz_bipush K (v := (32 : Int32)) dX10_append_1 (by decide) ?_
  refine gz_bipush K (v := (126 : Int32)) dX10_append_3 (by decide) ?_
  refine gz_callS K hex (c_X10_in K.2.2.2.2.2 K.2.2.1 hp) cf_X10_in zq5_146 dX10_append_5 rfl rfl (Nat.le_of_ble_eq_true rfl) ⟨Nat.le_of_ble_eq_true rfl, Nat.le_of_ble_eq_true rfl⟩ ⟨Nat.le_of_ble_eq_true rfl, Nat.le_of_ble_eq_true rfl⟩ (Nat.le_of_ble_eq_true rfl) (Nat.le_of_ble_eq_true rfl) (fun _ _ h => h.elim) (fun r5 τ hp => ?_)
  obtain ⟨rfl, hp⟩ := hp
  refine gz_norm (st' := [.int r5]) (cells' := 0) (slots' := 0) rfl rfl rfl ?_
  refine gz_if_ne K 17 dX10_append_8 (by decide) (fun h => ?_) (fun h => ?_)
  · have hp := hp.1 h
    refine gz_aload_n K dX10_append_17 0 rfl ?_
    refine gz_get K (v := .int (gz_i σ 43 8)) (by decide) (ce_43 _ _ _ _ _ _) rfl inz_X10 8 (by decide) zq5_39 rfl dX10_append_18 ?_
    refine gz_bipush K (v := (40 : Int32)) dX10_append_21 (by decide) ?_
    refine gz_icmp_ne K 32 dX10_append_23 (by decide) (fun h => ?_) (fun h => ?_)
    · have hp := hp.1 h
      refine gz_aload_n K dX10_append_32 0 rfl ?_
      refine gz_get K (v := .ref (ad 49)) (by decide) (ce_43 _ _ _ _ _ _) rfl inz_X10 7 (by decide) zq5_38 rfl dX10_append_33 ?_
      refine gz_aload_n K dX10_append_36 0 rfl ?_
      refine gz_get K (v := .int (gz_i σ 43 8)) (by decide) (ce_43 _ _ _ _ _ _) rfl inz_X10 8 (by decide) zq5_39 rfl dX10_append_37 ?_
      refine gz_iload_n K dX10_append_40 1 rfl ?_
      obtain ⟨hb41, hp⟩ := hp
      obtain ⟨h, hp⟩ := hp
      refine gz_castC K (x := x1) (by decide) (ce_49 ad ty) h hb41 dX10_append_41 ?_
      refine gz_aload_n K dX10_append_42 0 rfl ?_
      refine gz_dup K dX10_append_43 rfl ?_
      refine gz_get K (v := .int (gz_i (sz_i σ 49 ((gz_i σ 43 8)).toNatClampNeg x1) 43 8)) (by decide) (ce_43 _ _ _ _ _ _) rfl inz_X10 8 (by decide) zq5_39 rfl dX10_append_44 ?_
      refine gz_iconst K (v := (1 : Int32)) dX10_append_47 (by decide) ?_
      refine gz_iadd K dX10_append_48 ?_
      refine gz_put K (x := ((gz_i (sz_i σ 49 ((gz_i σ 43 8)).toNatClampNeg x1) 43 8) + (1 : Int32))) (by decide) (ce_43 _ _ _ _ _ _) rfl inz_X10 tyX10 tyX10_ok nmX10 8 (by decide) zq5_39 rfl (tyX10_ok _ (by decide)) rfl rfl (Nat.le_of_ble_eq_true rfl) peX10_8 dX10_append_49 ?_
      refine gz_aload_n K dX10_append_52 0 rfl ?_
      refine gz_aload_n K dX10_append_53 0 rfl ?_
      refine gz_get K (v := .int (gz_i (sz_i (sz_i σ 49 ((gz_i σ 43 8)).toNatClampNeg x1) 43 8 ((gz_i (sz_i σ 49 ((gz_i σ 43 8)).toNatClampNeg x1) 43 8) + (1 : Int32))) 43 8)) (by decide) (ce_43 _ _ _ _ _ _) rfl inz_X10 8 (by decide) zq5_39 rfl dX10_append_54 ?_
      refine gz_callV K hex (c_X10_done K.2.2.2.2.2 K.2.2.1 hp) cf_X10_done zq5_153 (by decide) (ce_43 _ _ _ _ _ _) rfl dX10_append_57 rfl rfl (Nat.le_of_ble_eq_true rfl) ⟨Nat.le_of_ble_eq_true rfl, Nat.le_of_ble_eq_true rfl⟩ ⟨Nat.le_of_ble_eq_true rfl, Nat.le_of_ble_eq_true rfl⟩ (Nat.le_of_ble_eq_true rfl) (Nat.le_of_ble_eq_true rfl) (fun _ _ h => h.elim) (fun r57 τ57 hp => ?_)
      refine gz_norm (st' := [.int r57]) (cells' := 0) (slots' := 0) rfl rfl rfl ?_
      exact gz_iret K hr hp dX10_append_60 (Nat.le_of_ble_eq_true rfl) (Nat.le_of_ble_eq_true rfl)
    · have hp := hp.2 h
      refine gz_aload_n K dX10_append_26 0 rfl ?_
      refine gz_iconst K (v := (2 : Int32)) dX10_append_27 (by decide) ?_
      refine gz_callV K hex (c_X10_fails K.2.2.2.2.2 K.2.2.1 hp) cf_X10_fails zq5_149 (by decide) (ce_43 _ _ _ _ _ _) rfl dX10_append_28 rfl rfl (Nat.le_of_ble_eq_true rfl) ⟨Nat.le_of_ble_eq_true rfl, Nat.le_of_ble_eq_true rfl⟩ ⟨Nat.le_of_ble_eq_true rfl, Nat.le_of_ble_eq_true rfl⟩ (Nat.le_of_ble_eq_true rfl) (Nat.le_of_ble_eq_true rfl) (fun _ _ h => h.elim) (fun r28 τ28 hp => ?_)
      refine gz_norm (st' := [.int r28]) (cells' := 0) (slots' := 0) rfl rfl rfl ?_
      exact gz_iret K hr hp dX10_append_31 (Nat.le_of_ble_eq_true rfl) (Nat.le_of_ble_eq_true rfl)
  · have hp := hp.2 h
    refine gz_aload_n K dX10_append_11 0 rfl ?_
    refine gz_iconst K (v := (1 : Int32)) dX10_append_12 (by decide) ?_
    refine gz_callV K hex (c_X10_fails K.2.2.2.2.2 K.2.2.1 hp) cf_X10_fails zq5_149 (by decide) (ce_43 _ _ _ _ _ _) rfl dX10_append_13 rfl rfl (Nat.le_of_ble_eq_true rfl) ⟨Nat.le_of_ble_eq_true rfl, Nat.le_of_ble_eq_true rfl⟩ ⟨Nat.le_of_ble_eq_true rfl, Nat.le_of_ble_eq_true rfl⟩ (Nat.le_of_ble_eq_true rfl) (Nat.le_of_ble_eq_true rfl) (fun _ _ h => h.elim) (fun r13 τ13 hp => ?_)
    refine gz_norm (st' := [.int r13]) (cells' := 0) (slots' := 0) rfl rfl rfl ?_
    exact gz_iret K hr hp dX10_append_16 (Nat.le_of_ble_eq_true rfl) (Nat.le_of_ble_eq_true rfl)
set_option maxRecDepth 100000 in
set_option maxHeartbeats 4000000 in
theorem c_X10_here {l : Launch} {D : va_G} {ad : Nat → Nat} {ty : Nat → ClassId} (hl : l.stackTraces = false) (hj : ∀ i j, i < 68 → j < 68 → ad i = ad j → i = j) {σ : Dz} {post : Int32 → Prop} (hp : P_X10_here σ post) : Mz l D ad ty yX10_here cX10_here 1 (some .int) r_X10_here nI0 σ [.ref (ad 43)] (fun r τ => σ = τ ∧ post r) (fun _ _ => False) := by
  refine mz_of (by decide) hl hj (Nat.le_of_ble_eq_true rfl) ?_
  intro p e s m args below meth c K hex hr
  unfold P_X10_here at hp
  show Gz p l e r_X10_here s m args below meth c D ad ty 1 0 0 (Ez below D ad ty nI0 (fun r τ => σ = τ ∧ post r) (fun _ _ => False) args s 0 0) σ 0 [(0, .ref (ad 43))] []
  refine gz_aload_n K dX10_here_0 0 rfl ?_
  refine gz_get K (v := .int (gz_i σ 43 18)) (by decide) (ce_43 _ _ _ _ _ _) rfl inz_X10 18 (by decide) zq5_49 rfl dX10_here_1 ?_
  refine gz_aload_n K dX10_here_4 0 rfl ?_
  refine gz_get K (v := .int (gz_i σ 43 8)) (by decide) (ce_43 _ _ _ _ _ _) rfl inz_X10 8 (by decide) zq5_39 rfl dX10_here_5 ?_
  refine gz_icmp_ge K 23 dX10_here_8 (by decide) (fun h => ?_) (fun h => ?_)
  · have hp := hp.1 h
    refine gz_iconst K (v := (0 : Int32)) dX10_here_23 (by decide) ?_
    exact gz_iret K hr ⟨rfl, hp⟩ dX10_here_24 (Nat.le_of_ble_eq_true rfl) (Nat.le_of_ble_eq_true rfl)
  · have hp := hp.2 h
    refine gz_aload_n K dX10_here_11 0 rfl ?_
    refine gz_get K (v := .ref (ad 49)) (by decide) (ce_43 _ _ _ _ _ _) rfl inz_X10 7 (by decide) zq5_38 rfl dX10_here_12 ?_
    refine gz_aload_n K dX10_here_15 0 rfl ?_
    refine gz_get K (v := .int (gz_i σ 43 18)) (by decide) (ce_43 _ _ _ _ _ _) rfl inz_X10 18 (by decide) zq5_49 rfl dX10_here_16 ?_
    obtain ⟨h, hp⟩ := hp
    refine gz_cald K (by decide) (ce_49 _ _ _ _ _ _) h dX10_here_19 ?_
    refine gz_goto K 24 dX10_here_20 (by decide) ?_
    exact gz_iret K hr ⟨rfl, hp⟩ dX10_here_24 (Nat.le_of_ble_eq_true rfl) (Nat.le_of_ble_eq_true rfl)
set_option maxRecDepth 100000 in
set_option maxHeartbeats 4000000 in
theorem c_X10_readsCycle {l : Launch} {D : va_G} {ad : Nat → Nat} {ty : Nat → ClassId} (hl : l.stackTraces = false) (hj : ∀ i j, i < 68 → j < 68 → ad i = ad j → i = j) {σ : Dz} {post : Int32 → Dz → Prop} (hp : P_X10_readsCycle σ post) : Mz l D ad ty yX10_readsCycle cX10_readsCycle 5 (some .boolean) r_X10_readsCycle nI0 σ [.ref (ad 43)] post (fun _ _ => False) := by
  refine mz_of (by decide) hl hj (Nat.le_of_ble_eq_true rfl) ?_
  intro p e s m args below meth c K hex hr
  unfold P_X10_readsCycle at hp
  have bb_99 : ∀ (σ : Dz) (y1 : Int32) (y2 : Int32) (y3 : Int32) , B_X10_readsCycle_99 post  σ y1 y2 y3 → Gz p l e r_X10_readsCycle s m args below meth c D ad ty 5 0 0 (Ez below D ad ty nI0 post (fun _ _ => False) args s 0 0) σ 99 [(0, .ref (ad 43)), (1, .int y1), (2, .int y2), (3, .int y3)] [] := by
    intro σ y1 y2 y3 hp
    unfold B_X10_readsCycle_99 at hp
    refine gz_iload_n K dX10_readsCycle_99 3 rfl ?_
    refine gz_iconst K (v := (2 : Int32)) dX10_readsCycle_100 (by decide) ?_
    refine gz_icmp_lt K 113 dX10_readsCycle_101 (by decide) (fun h => ?_) (fun h => ?_)
    · have hp := hp.1 h
      refine gz_iconst K (v := (0 : Int32)) dX10_readsCycle_113 (by decide) ?_
      exact gz_zret K hr (by decide) hp dX10_readsCycle_114 (Nat.le_of_ble_eq_true rfl) (Nat.le_of_ble_eq_true rfl)
    · have hp := hp.2 h
      refine gz_aload_n K dX10_readsCycle_104 0 rfl ?_
      refine gz_callV K hex (c_X10_here K.2.2.2.2.2 K.2.2.1 hp) cf_X10_here zq5_173 (by decide) (ce_43 _ _ _ _ _ _) rfl dX10_readsCycle_105 rfl rfl (Nat.le_of_ble_eq_true rfl) ⟨Nat.le_of_ble_eq_true rfl, Nat.le_of_ble_eq_true rfl⟩ ⟨Nat.le_of_ble_eq_true rfl, Nat.le_of_ble_eq_true rfl⟩ (Nat.le_of_ble_eq_true rfl) (Nat.le_of_ble_eq_true rfl) (fun _ _ h => h.elim) (fun r105 τ hp => ?_)
      obtain ⟨rfl, hp⟩ := hp
      refine gz_norm (st' := [.int r105]) (cells' := 0) (slots' := 0) rfl rfl rfl ?_
      refine gz_bipush K (v := (41 : Int32)) dX10_readsCycle_108 (by decide) ?_
      refine gz_icmp_eq K 115 dX10_readsCycle_110 (by decide) (fun h => ?_) (fun h => ?_)
      · have hp := hp.1 h
        refine gz_aload_n K dX10_readsCycle_115 0 rfl ?_
        refine gz_get K (v := .ref (ad 57)) (by decide) (ce_43 _ _ _ _ _ _) rfl inz_X10 19 (by decide) zq5_50 rfl dX10_readsCycle_116 ?_
        refine gz_iload_n K dX10_readsCycle_119 2 rfl ?_
        refine gz_iload_n K dX10_readsCycle_120 1 rfl ?_
        obtain ⟨h, hp⟩ := hp
        refine gz_iast K (x := y1) (by decide) (ce_57 ad ty) h dX10_readsCycle_121 ?_
        refine gz_aload_n K dX10_readsCycle_122 0 rfl ?_
        refine gz_dup K dX10_readsCycle_123 rfl ?_
        refine gz_get K (v := .int (gz_i (sz_i σ 57 (y2).toNatClampNeg y1) 43 18)) (by decide) (ce_43 _ _ _ _ _ _) rfl inz_X10 18 (by decide) zq5_49 rfl dX10_readsCycle_124 ?_
        refine gz_iconst K (v := (1 : Int32)) dX10_readsCycle_127 (by decide) ?_
        refine gz_iadd K dX10_readsCycle_128 ?_
        refine gz_put K (x := ((gz_i (sz_i σ 57 (y2).toNatClampNeg y1) 43 18) + (1 : Int32))) (by decide) (ce_43 _ _ _ _ _ _) rfl inz_X10 tyX10 tyX10_ok nmX10 18 (by decide) zq5_49 rfl (tyX10_ok _ (by decide)) rfl rfl (Nat.le_of_ble_eq_true rfl) peX10_18 dX10_readsCycle_129 ?_
        refine gz_iconst K (v := (1 : Int32)) dX10_readsCycle_132 (by decide) ?_
        exact gz_zret K hr (by decide) hp dX10_readsCycle_133 (Nat.le_of_ble_eq_true rfl) (Nat.le_of_ble_eq_true rfl)
      · have hp := hp.2 h
        refine gz_iconst K (v := (0 : Int32)) dX10_readsCycle_113 (by decide) ?_
        exact gz_zret K hr (by decide) hp dX10_readsCycle_114 (Nat.le_of_ble_eq_true rfl) (Nat.le_of_ble_eq_true rfl)
  show Gz p l e r_X10_readsCycle s m args below meth c D ad ty 5 0 0 (Ez below D ad ty nI0 post (fun _ _ => False) args s 0 0) σ 0 [(0, .ref (ad 43))] []
  refine gz_aload_n K dX10_readsCycle_0 0 rfl ?_
  refine gz_dup K dX10_readsCycle_1 rfl ?_
  refine gz_get K (v := .int (gz_i σ 43 18)) (by decide) (ce_43 _ _ _ _ _ _) rfl inz_X10 18 (by decide) zq5_49 rfl dX10_readsCycle_2 ?_
  refine gz_iconst K (v := (1 : Int32)) dX10_readsCycle_5 (by decide) ?_
  refine gz_iadd K dX10_readsCycle_6 ?_
  refine gz_put K (x := ((gz_i σ 43 18) + (1 : Int32))) (by decide) (ce_43 _ _ _ _ _ _) rfl inz_X10 tyX10 tyX10_ok nmX10 18 (by decide) zq5_49 rfl (tyX10_ok _ (by decide)) rfl rfl (Nat.le_of_ble_eq_true rfl) peX10_18 dX10_readsCycle_7 ?_
  refine gz_iconst K (v := (0 : Int32)) dX10_readsCycle_10 (by decide) ?_
  refine gz_istore_n K [(1, .int (0 : Int32)), (0, .ref (ad 43))] dX10_readsCycle_11 (by decide) rfl ?_
  refine gz_iconst K (v := (0 : Int32)) dX10_readsCycle_12 (by decide) ?_
  refine gz_istore_n K [(2, .int (0 : Int32)), (1, .int (0 : Int32)), (0, .ref (ad 43))] dX10_readsCycle_13 (by decide) rfl ?_
  refine gz_iconst K (v := (0 : Int32)) dX10_readsCycle_14 (by decide) ?_
  refine gz_istore_n K [(3, .int (0 : Int32)), (2, .int (0 : Int32)), (1, .int (0 : Int32)), (0, .ref (ad 43))] dX10_readsCycle_15 (by decide) rfl ?_
  refine gz_sub [3, 2, 1, 0] rfl ?_
  have ll_16 : ∀ (n_16 : Nat) (σ : Dz) (y1 : Int32) (y2 : Int32) (y3 : Int32) , L_X10_readsCycle_16 post  n_16 σ y1 y2 y3 → Gz p l e r_X10_readsCycle s m args below meth c D ad ty 5 0 0 (Ez below D ad ty nI0 post (fun _ _ => False) args s 0 0) σ 16 [(0, .ref (ad 43)), (1, .int y1), (2, .int y2), (3, .int y3)] [] := by
    intro n_16; induction n_16 with
    | zero => intro σ y1 y2 y3 hp; exact False.elim hp
    | succ n_16 ih_16 =>
      intro σ y1 y2 y3 hp
      have hp : B_X10_readsCycle_16 post  (L_X10_readsCycle_16 post  n_16) σ y1 y2 y3 := hp
      unfold B_X10_readsCycle_16 at hp
      have bb_80 : ∀ (σ : Dz) (y1 : Int32) (y3 : Int32) (y4 : Int32) , B_X10_readsCycle_80 post (L_X10_readsCycle_16 post  n_16) σ y1 y3 y4 → Gz p l e r_X10_readsCycle s m args below meth c D ad ty 5 0 0 (Ez below D ad ty nI0 post (fun _ _ => False) args s 0 0) σ 80 [(0, .ref (ad 43)), (1, .int y1), (3, .int y3), (4, .int y4)] [] := by
        intro σ y1 y3 y4 hp
        unfold B_X10_readsCycle_80 at hp
        refine gz_iload K dX10_readsCycle_80 3 rfl ?_
        refine gz_istore_n K [(2, .int y4), (0, .ref (ad 43)), (1, .int y1), (3, .int y3), (4, .int y4)] dX10_readsCycle_82 (by decide) rfl ?_
        refine gz_iinc K (v := (y3 + 1)) [(3, .int (y3 + 1)), (2, .int y4), (0, .ref (ad 43)), (1, .int y1), (4, .int y4)] dX10_readsCycle_83 3 rfl (by first | rfl | decide) (by decide) rfl ?_
        refine gz_aload_n K dX10_readsCycle_86 2 rfl ?_
        refine gz_dup K dX10_readsCycle_87 rfl ?_
        refine gz_get K (v := .int (gz_i σ 43 18)) (by decide) (ce_43 _ _ _ _ _ _) rfl inz_X10 18 (by decide) zq5_49 rfl dX10_readsCycle_88 ?_
        refine gz_iconst K (v := (1 : Int32)) dX10_readsCycle_91 (by decide) ?_
        refine gz_iadd K dX10_readsCycle_92 ?_
        refine gz_put K (x := ((gz_i σ 43 18) + (1 : Int32))) (by decide) (ce_43 _ _ _ _ _ _) rfl inz_X10 tyX10 tyX10_ok nmX10 18 (by decide) zq5_49 rfl (tyX10_ok _ (by decide)) rfl rfl (Nat.le_of_ble_eq_true rfl) peX10_18 dX10_readsCycle_93 ?_
        refine gz_goto K 16 dX10_readsCycle_96 (by decide) ?_
        refine gz_sub [2, 3, 1, 0] rfl ?_
        exact ih_16 (sz_i σ 43 18 ((gz_i σ 43 18) + (1 : Int32))) y1 y4 (y3 + 1)  hp
      refine gz_aload_n K dX10_readsCycle_16 0 rfl ?_
      refine gz_aload_n K dX10_readsCycle_17 0 rfl ?_
      refine gz_callV K hex (c_X10_here K.2.2.2.2.2 K.2.2.1 hp) cf_X10_here zq5_173 (by decide) (ce_43 _ _ _ _ _ _) rfl dX10_readsCycle_18 rfl rfl (Nat.le_of_ble_eq_true rfl) ⟨Nat.le_of_ble_eq_true rfl, Nat.le_of_ble_eq_true rfl⟩ ⟨Nat.le_of_ble_eq_true rfl, Nat.le_of_ble_eq_true rfl⟩ (Nat.le_of_ble_eq_true rfl) (Nat.le_of_ble_eq_true rfl) (fun _ _ h => h.elim) (fun r18 τ hp => ?_)
      obtain ⟨rfl, hp⟩ := hp
      refine gz_norm (st' := [.int r18, .ref (ad 43)]) (cells' := 0) (slots' := 0) rfl rfl rfl ?_
      refine gz_bipush K (v := (48 : Int32)) dX10_readsCycle_21 (by decide) ?_
      refine gz_isub K dX10_readsCycle_23 ?_
      refine gz_callV K hex (c_X10_isPosition K.2.2.2.2.2 K.2.2.1 hp) cf_X10_isPosition zq5_181 (by decide) (ce_43 _ _ _ _ _ _) rfl dX10_readsCycle_24 rfl rfl (Nat.le_of_ble_eq_true rfl) ⟨Nat.le_of_ble_eq_true rfl, Nat.le_of_ble_eq_true rfl⟩ ⟨Nat.le_of_ble_eq_true rfl, Nat.le_of_ble_eq_true rfl⟩ (Nat.le_of_ble_eq_true rfl) (Nat.le_of_ble_eq_true rfl) (fun _ _ h => h.elim) (fun r24 τ hp => ?_)
      obtain ⟨rfl, hp⟩ := hp
      refine gz_norm (st' := [.int r24]) (cells' := 0) (slots' := 0) rfl rfl rfl ?_
      refine gz_if_eq K 99 dX10_readsCycle_27 (by decide) (fun h => ?_) (fun h => ?_)
      · have hp := hp.1 h
        exact bb_99 σ y1 y2 y3  hp
      · have hp := hp.2 h
        refine gz_aload_n K dX10_readsCycle_30 0 rfl ?_
        refine gz_get K (v := .ref (ad 58)) (by decide) (ce_43 _ _ _ _ _ _) rfl inz_X10 20 (by decide) zq5_51 rfl dX10_readsCycle_31 ?_
        refine gz_aload_n K dX10_readsCycle_34 0 rfl ?_
        refine gz_callV K hex (c_X10_here K.2.2.2.2.2 K.2.2.1 hp) cf_X10_here zq5_173 (by decide) (ce_43 _ _ _ _ _ _) rfl dX10_readsCycle_35 rfl rfl (Nat.le_of_ble_eq_true rfl) ⟨Nat.le_of_ble_eq_true rfl, Nat.le_of_ble_eq_true rfl⟩ ⟨Nat.le_of_ble_eq_true rfl, Nat.le_of_ble_eq_true rfl⟩ (Nat.le_of_ble_eq_true rfl) (Nat.le_of_ble_eq_true rfl) (fun _ _ h => h.elim) (fun r35 τ hp => ?_)
        obtain ⟨rfl, hp⟩ := hp
        refine gz_norm (st' := [.int r35, .ref (ad 58)]) (cells' := 0) (slots' := 0) rfl rfl rfl ?_
        refine gz_bipush K (v := (48 : Int32)) dX10_readsCycle_38 (by decide) ?_
        refine gz_isub K dX10_readsCycle_40 ?_
        obtain ⟨h, hp⟩ := hp
        refine gz_zald K (by decide) (ce_58 _ _ _ _ _ _) h dX10_readsCycle_41 ?_
        refine gz_if_ne K 99 dX10_readsCycle_42 (by decide) (fun h => ?_) (fun h => ?_)
        · have hp := hp.1 h
          exact bb_99 σ y1 y2 y3  hp
        · have hp := hp.2 h
          refine gz_aload_n K dX10_readsCycle_45 0 rfl ?_
          refine gz_callV K hex (c_X10_here K.2.2.2.2.2 K.2.2.1 hp) cf_X10_here zq5_173 (by decide) (ce_43 _ _ _ _ _ _) rfl dX10_readsCycle_46 rfl rfl (Nat.le_of_ble_eq_true rfl) ⟨Nat.le_of_ble_eq_true rfl, Nat.le_of_ble_eq_true rfl⟩ ⟨Nat.le_of_ble_eq_true rfl, Nat.le_of_ble_eq_true rfl⟩ (Nat.le_of_ble_eq_true rfl) (Nat.le_of_ble_eq_true rfl) (fun _ _ h => h.elim) (fun r46 τ hp => ?_)
          obtain ⟨rfl, hp⟩ := hp
          refine gz_norm (st' := [.int r46]) (cells' := 0) (slots' := 0) rfl rfl rfl ?_
          refine gz_bipush K (v := (48 : Int32)) dX10_readsCycle_49 (by decide) ?_
          refine gz_isub K dX10_readsCycle_51 ?_
          refine gz_istore K [(4, .int (r46 - (48 : Int32))), (0, .ref (ad 43)), (1, .int y1), (2, .int y2), (3, .int y3)] dX10_readsCycle_52 (by decide) rfl ?_
          refine gz_aload_n K dX10_readsCycle_54 1 rfl ?_
          refine gz_get K (v := .ref (ad 58)) (by decide) (ce_43 _ _ _ _ _ _) rfl inz_X10 20 (by decide) zq5_51 rfl dX10_readsCycle_55 ?_
          refine gz_iload K dX10_readsCycle_58 0 rfl ?_
          refine gz_iconst K (v := (1 : Int32)) dX10_readsCycle_60 (by decide) ?_
          obtain ⟨h, hp⟩ := hp
          refine gz_zastB K (x := (1 : Int32)) (by decide) (ce_58 ad ty) h (by decide) dX10_readsCycle_61 ?_
          refine gz_iload_n K dX10_readsCycle_62 4 rfl ?_
          refine gz_if_ne K 72 dX10_readsCycle_63 (by decide) (fun h => ?_) (fun h => ?_)
          · have hp := hp.1 h
            refine gz_aload_n K dX10_readsCycle_72 1 rfl ?_
            refine gz_get K (v := .ref (ad 57)) (by decide) (ce_43 _ _ _ _ _ _) rfl inz_X10 19 (by decide) zq5_50 rfl dX10_readsCycle_73 ?_
            refine gz_iload_n K dX10_readsCycle_76 3 rfl ?_
            refine gz_iload K dX10_readsCycle_77 0 rfl ?_
            obtain ⟨h, hp⟩ := hp
            refine gz_iast K (x := (r46 - (48 : Int32))) (by decide) (ce_57 ad ty) h dX10_readsCycle_79 ?_
            refine gz_sub [1, 2, 4, 0] rfl ?_
            exact bb_80 (sz_i (sz_i σ 58 ((r46 - (48 : Int32))).toNatClampNeg (1 : Int32)) 57 (y2).toNatClampNeg (r46 - (48 : Int32))) y1 y3 (r46 - (48 : Int32))  hp
          · have hp := hp.2 h
            refine gz_iload K dX10_readsCycle_66 0 rfl ?_
            refine gz_istore_n K [(1, .int (r46 - (48 : Int32))), (4, .int (r46 - (48 : Int32))), (0, .ref (ad 43)), (2, .int y2), (3, .int y3)] dX10_readsCycle_68 (by decide) rfl ?_
            refine gz_goto K 80 dX10_readsCycle_69 (by decide) ?_
            refine gz_sub [2, 0, 4, 1] rfl ?_
            exact bb_80 (sz_i σ 58 ((r46 - (48 : Int32))).toNatClampNeg (1 : Int32)) (r46 - (48 : Int32)) y3 (r46 - (48 : Int32))  hp
  obtain ⟨n, hp⟩ := hp
  exact ll_16 n (sz_i σ 43 18 ((gz_i σ 43 18) + (1 : Int32))) (0 : Int32) (0 : Int32) (0 : Int32)  hp
set_option maxRecDepth 100000 in
set_option maxHeartbeats 4000000 in
theorem c_X10_readsCycles {l : Launch} {D : va_G} {ad : Nat → Nat} {ty : Nat → ClassId} (hl : l.stackTraces = false) (hj : ∀ i j, i < 68 → j < 68 → ad i = ad j → i = j) {σ : Dz} {post : Int32 → Dz → Prop} (hp : P_X10_readsCycles σ post) : Mz l D ad ty yX10_readsCycles cX10_readsCycles 2 (some .boolean) r_X10_readsCycles nI0 σ [.ref (ad 43)] post (fun _ _ => False) := by
  refine mz_of (by decide) hl hj (Nat.le_of_ble_eq_true rfl) ?_
  intro p e s m args below meth c K hex hr
  unfold P_X10_readsCycles at hp
  have bb_56 : ∀ (σ : Dz) (y1 : Int32) , B_X10_readsCycles_56 post  σ y1 → Gz p l e r_X10_readsCycles s m args below meth c D ad ty 2 0 0 (Ez below D ad ty nI0 post (fun _ _ => False) args s 0 0) σ 56 [(0, .ref (ad 43)), (1, .int y1)] [] := by
    intro σ y1 hp
    unfold B_X10_readsCycles_56 at hp
    refine gz_iload_n K dX10_readsCycles_56 1 rfl ?_
    refine gz_if_eq K 75 dX10_readsCycles_57 (by decide) (fun h => ?_) (fun h => ?_)
    · have hp := hp.1 h
      refine gz_iconst K (v := (0 : Int32)) dX10_readsCycles_75 (by decide) ?_
      exact gz_zret K hr (by decide) hp dX10_readsCycles_76 (Nat.le_of_ble_eq_true rfl) (Nat.le_of_ble_eq_true rfl)
    · have hp := hp.2 h
      refine gz_aload_n K dX10_readsCycles_60 0 rfl ?_
      refine gz_get K (v := .int (gz_i σ 43 18)) (by decide) (ce_43 _ _ _ _ _ _) rfl inz_X10 18 (by decide) zq5_49 rfl dX10_readsCycles_61 ?_
      refine gz_aload_n K dX10_readsCycles_64 0 rfl ?_
      refine gz_get K (v := .int (gz_i σ 43 8)) (by decide) (ce_43 _ _ _ _ _ _) rfl inz_X10 8 (by decide) zq5_39 rfl dX10_readsCycles_65 ?_
      refine gz_icmp_ne K 75 dX10_readsCycles_68 (by decide) (fun h => ?_) (fun h => ?_)
      · have hp := hp.1 h
        refine gz_iconst K (v := (0 : Int32)) dX10_readsCycles_75 (by decide) ?_
        exact gz_zret K hr (by decide) hp dX10_readsCycles_76 (Nat.le_of_ble_eq_true rfl) (Nat.le_of_ble_eq_true rfl)
      · have hp := hp.2 h
        refine gz_iconst K (v := (1 : Int32)) dX10_readsCycles_71 (by decide) ?_
        refine gz_goto K 76 dX10_readsCycles_72 (by decide) ?_
        exact gz_zret K hr (by decide) hp dX10_readsCycles_76 (Nat.le_of_ble_eq_true rfl) (Nat.le_of_ble_eq_true rfl)
  show Gz p l e r_X10_readsCycles s m args below meth c D ad ty 2 0 0 (Ez below D ad ty nI0 post (fun _ _ => False) args s 0 0) σ 0 [(0, .ref (ad 43))] []
  refine gz_aload_n K dX10_readsCycles_0 0 rfl ?_
  refine gz_iconst K (v := (0 : Int32)) dX10_readsCycles_1 (by decide) ?_
  refine gz_put K (x := (0 : Int32)) (by decide) (ce_43 _ _ _ _ _ _) rfl inz_X10 tyX10 tyX10_ok nmX10 18 (by decide) zq5_49 rfl (tyX10_ok _ (by decide)) rfl rfl (Nat.le_of_ble_eq_true rfl) peX10_18 dX10_readsCycles_2 ?_
  refine gz_iconst K (v := (0 : Int32)) dX10_readsCycles_5 (by decide) ?_
  refine gz_istore_n K [(1, .int (0 : Int32)), (0, .ref (ad 43))] dX10_readsCycles_6 (by decide) rfl ?_
  refine gz_sub [1, 0] rfl ?_
  have ll_7 : ∀ (n_7 : Nat) (σ : Dz) (y1 : Int32) , L_X10_readsCycles_7 post  n_7 σ y1 → Gz p l e r_X10_readsCycles s m args below meth c D ad ty 2 0 0 (Ez below D ad ty nI0 post (fun _ _ => False) args s 0 0) σ 7 [(0, .ref (ad 43)), (1, .int y1)] [] := by
    intro n_7; induction n_7 with
    | zero => intro σ y1 hp; exact False.elim hp
    | succ n_7 ih_7 =>
      intro σ y1 hp
      have hp : B_X10_readsCycles_7 post  (L_X10_readsCycles_7 post  n_7) σ y1 := hp
      unfold B_X10_readsCycles_7 at hp
      refine gz_iload_n K dX10_readsCycles_7 1 rfl ?_
      refine gz_bipush K (v := (8 : Int32)) dX10_readsCycles_8 (by decide) ?_
      refine gz_icmp_ge K 33 dX10_readsCycles_10 (by decide) (fun h => ?_) (fun h => ?_)
      · have hp := hp.1 h
        refine gz_iconst K (v := (1 : Int32)) dX10_readsCycles_33 (by decide) ?_
        refine gz_istore_n K [(1, .int (1 : Int32)), (0, .ref (ad 43))] dX10_readsCycles_34 (by decide) rfl ?_
        refine gz_sub [1, 0] rfl ?_
        have ll_35 : ∀ (n_35 : Nat) (σ : Dz) (y1 : Int32) , L_X10_readsCycles_35 post  n_35 σ y1 → Gz p l e r_X10_readsCycles s m args below meth c D ad ty 2 0 0 (Ez below D ad ty nI0 post (fun _ _ => False) args s 0 0) σ 35 [(0, .ref (ad 43)), (1, .int y1)] [] := by
          intro n_35; induction n_35 with
          | zero => intro σ y1 hp; exact False.elim hp
          | succ n_35 ih_35 =>
            intro σ y1 hp
            have hp : B_X10_readsCycles_35 post  (L_X10_readsCycles_35 post  n_35) σ y1 := hp
            unfold B_X10_readsCycles_35 at hp
            refine gz_iload_n K dX10_readsCycles_35 1 rfl ?_
            refine gz_if_eq K 56 dX10_readsCycles_36 (by decide) (fun h => ?_) (fun h => ?_)
            · have hp := hp.1 h
              exact bb_56 σ y1  hp
            · have hp := hp.2 h
              refine gz_aload_n K dX10_readsCycles_39 0 rfl ?_
              refine gz_callV K hex (c_X10_here K.2.2.2.2.2 K.2.2.1 hp) cf_X10_here zq5_173 (by decide) (ce_43 _ _ _ _ _ _) rfl dX10_readsCycles_40 rfl rfl (Nat.le_of_ble_eq_true rfl) ⟨Nat.le_of_ble_eq_true rfl, Nat.le_of_ble_eq_true rfl⟩ ⟨Nat.le_of_ble_eq_true rfl, Nat.le_of_ble_eq_true rfl⟩ (Nat.le_of_ble_eq_true rfl) (Nat.le_of_ble_eq_true rfl) (fun _ _ h => h.elim) (fun r40 τ hp => ?_)
              obtain ⟨rfl, hp⟩ := hp
              refine gz_norm (st' := [.int r40]) (cells' := 0) (slots' := 0) rfl rfl rfl ?_
              refine gz_bipush K (v := (40 : Int32)) dX10_readsCycles_43 (by decide) ?_
              refine gz_icmp_ne K 56 dX10_readsCycles_45 (by decide) (fun h => ?_) (fun h => ?_)
              · have hp := hp.1 h
                exact bb_56 σ y1  hp
              · have hp := hp.2 h
                refine gz_aload_n K dX10_readsCycles_48 0 rfl ?_
                refine gz_callV K hex (c_X10_readsCycle K.2.2.2.2.2 K.2.2.1 hp) cf_X10_readsCycle zq5_177 (by decide) (ce_43 _ _ _ _ _ _) rfl dX10_readsCycles_49 rfl rfl (Nat.le_of_ble_eq_true rfl) ⟨Nat.le_of_ble_eq_true rfl, Nat.le_of_ble_eq_true rfl⟩ ⟨Nat.le_of_ble_eq_true rfl, Nat.le_of_ble_eq_true rfl⟩ (Nat.le_of_ble_eq_true rfl) (Nat.le_of_ble_eq_true rfl) (fun _ _ h => h.elim) (fun r49 τ49 hp => ?_)
                refine gz_norm (st' := [.int r49]) (cells' := 0) (slots' := 0) rfl rfl rfl ?_
                refine gz_istore_n K [(1, .int r49), (0, .ref (ad 43))] dX10_readsCycles_52 (by decide) rfl ?_
                refine gz_goto K 35 dX10_readsCycles_53 (by decide) ?_
                refine gz_sub [1, 0] rfl ?_
                exact ih_35 τ49 r49  hp
        obtain ⟨n, hp⟩ := hp
        exact ll_35 n σ (1 : Int32)  hp
      · have hp := hp.2 h
        refine gz_aload_n K dX10_readsCycles_13 0 rfl ?_
        refine gz_get K (v := .ref (ad 57)) (by decide) (ce_43 _ _ _ _ _ _) rfl inz_X10 19 (by decide) zq5_50 rfl dX10_readsCycles_14 ?_
        refine gz_iload_n K dX10_readsCycles_17 1 rfl ?_
        refine gz_iload_n K dX10_readsCycles_18 1 rfl ?_
        obtain ⟨h, hp⟩ := hp
        refine gz_iast K (x := y1) (by decide) (ce_57 ad ty) h dX10_readsCycles_19 ?_
        refine gz_aload_n K dX10_readsCycles_20 0 rfl ?_
        refine gz_get K (v := .ref (ad 58)) (by decide) (ce_43 _ _ _ _ _ _) rfl inz_X10 20 (by decide) zq5_51 rfl dX10_readsCycles_21 ?_
        refine gz_iload_n K dX10_readsCycles_24 1 rfl ?_
        refine gz_iconst K (v := (0 : Int32)) dX10_readsCycles_25 (by decide) ?_
        obtain ⟨h, hp⟩ := hp
        refine gz_zastB K (x := (0 : Int32)) (by decide) (ce_58 ad ty) h (by decide) dX10_readsCycles_26 ?_
        refine gz_iinc K (v := (y1 + 1)) [(1, .int (y1 + 1)), (0, .ref (ad 43))] dX10_readsCycles_27 1 rfl (by first | rfl | decide) (by decide) rfl ?_
        refine gz_goto K 7 dX10_readsCycles_30 (by decide) ?_
        refine gz_sub [1, 0] rfl ?_
        exact ih_7 (sz_i (sz_i σ 57 (y1).toNatClampNeg y1) 58 (y1).toNatClampNeg (0 : Int32)) (y1 + 1)  hp
  obtain ⟨n, hp⟩ := hp
  exact ll_7 n (sz_i σ 43 18 (0 : Int32)) (0 : Int32)  hp
set_option maxRecDepth 100000 in
set_option maxHeartbeats 4000000 in
theorem c_X10_define {l : Launch} {D : va_G} {ad : Nat → Nat} {ty : Nat → ClassId} (hl : l.stackTraces = false) (hj : ∀ i j, i < 68 → j < 68 → ad i = ad j → i = j) {σ : Dz} {x1 : Int32} {post : Int32 → Dz → Prop} (hp : P_X10_define σ x1 post) : Mz l D ad ty yX10_define cX10_define 5 (some .int) r_X10_define nI0 σ [.ref (ad 43), .int x1] post (fun _ _ => False) := by
  refine mz_of (by decide) hl hj (Nat.le_of_ble_eq_true rfl) ?_
  intro p e s m args below meth c K hex hr
  unfold P_X10_define at hp
  show Gz p l e r_X10_define s m args below meth c D ad ty 5 0 0 (Ez below D ad ty nI0 post (fun _ _ => False) args s 0 0) σ 0 [(0, .ref (ad 43)), (1, .int x1)] []
  refine gz_iload_n K dX10_define_0 1 rfl ?_
  refine gz_iconst K (v := (0 : Int32)) dX10_define_1 (by decide) ?_
  refine gz_iconst K (v := (4 : Int32)) dX10_define_2 (by decide) ?_
  refine gz_callS K hex (c_X10_in K.2.2.2.2.2 K.2.2.1 hp) cf_X10_in zq5_146 dX10_define_3 rfl rfl (Nat.le_of_ble_eq_true rfl) ⟨Nat.le_of_ble_eq_true rfl, Nat.le_of_ble_eq_true rfl⟩ ⟨Nat.le_of_ble_eq_true rfl, Nat.le_of_ble_eq_true rfl⟩ (Nat.le_of_ble_eq_true rfl) (Nat.le_of_ble_eq_true rfl) (fun _ _ h => h.elim) (fun r3 τ hp => ?_)
  obtain ⟨rfl, hp⟩ := hp
  refine gz_norm (st' := [.int r3]) (cells' := 0) (slots' := 0) rfl rfl rfl ?_
  refine gz_if_ne K 15 dX10_define_6 (by decide) (fun h => ?_) (fun h => ?_)
  · have hp := hp.1 h
    refine gz_aload_n K dX10_define_15 0 rfl ?_
    refine gz_callV K hex (c_X10_readsCycles K.2.2.2.2.2 K.2.2.1 hp) cf_X10_readsCycles zq5_169 (by decide) (ce_43 _ _ _ _ _ _) rfl dX10_define_16 rfl rfl (Nat.le_of_ble_eq_true rfl) ⟨Nat.le_of_ble_eq_true rfl, Nat.le_of_ble_eq_true rfl⟩ ⟨Nat.le_of_ble_eq_true rfl, Nat.le_of_ble_eq_true rfl⟩ (Nat.le_of_ble_eq_true rfl) (Nat.le_of_ble_eq_true rfl) (fun _ _ h => h.elim) (fun r16 τ16 hp => ?_)
    refine gz_norm (st' := [.int r16]) (cells' := 0) (slots' := 0) rfl rfl rfl ?_
    refine gz_istore_n K [(2, .int r16), (0, .ref (ad 43)), (1, .int x1)] dX10_define_19 (by decide) rfl ?_
    refine gz_aload_n K dX10_define_20 1 rfl ?_
    refine gz_iconst K (v := (0 : Int32)) dX10_define_21 (by decide) ?_
    refine gz_put K (x := (0 : Int32)) (by decide) (ce_43 _ _ _ _ _ _) rfl inz_X10 tyX10 tyX10_ok nmX10 8 (by decide) zq5_39 rfl (tyX10_ok _ (by decide)) rfl rfl (Nat.le_of_ble_eq_true rfl) peX10_8 dX10_define_22 ?_
    refine gz_iload_n K dX10_define_25 0 rfl ?_
    refine gz_if_ne K 43 dX10_define_26 (by decide) (fun h => ?_) (fun h => ?_)
    · have hp := hp.1 h
      refine gz_aload_n K dX10_define_43 1 rfl ?_
      refine gz_get K (v := .ref (ad 45)) (by decide) (ce_43 _ _ _ _ _ _) rfl inz_X10 3 (by decide) zq5_34 rfl dX10_define_44 ?_
      refine gz_iload_n K dX10_define_47 2 rfl ?_
      refine gz_iconst K (v := (1 : Int32)) dX10_define_48 (by decide) ?_
      obtain ⟨h, hp⟩ := hp
      refine gz_zastB K (x := (1 : Int32)) (by decide) (ce_45 ad ty) h (by decide) dX10_define_49 ?_
      refine gz_aload_n K dX10_define_50 1 rfl ?_
      refine gz_iconst K (v := (0 : Int32)) dX10_define_51 (by decide) ?_
      refine gz_put K (x := (0 : Int32)) (by decide) (ce_43 _ _ _ _ _ _) rfl inz_X10 tyX10 tyX10_ok nmX10 27 (by decide) zq5_58 rfl (tyX10_ok _ (by decide)) rfl rfl (Nat.le_of_ble_eq_true rfl) peX10_27 dX10_define_52 ?_
      refine gz_iconst K (v := (0 : Int32)) dX10_define_55 (by decide) ?_
      refine gz_istore_n K [(3, .int (0 : Int32)), (2, .int r16), (0, .ref (ad 43)), (1, .int x1)] dX10_define_56 (by decide) rfl ?_
      refine gz_iconst K (v := (0 : Int32)) dX10_define_57 (by decide) ?_
      refine gz_istore K [(4, .int (0 : Int32)), (3, .int (0 : Int32)), (2, .int r16), (0, .ref (ad 43)), (1, .int x1)] dX10_define_58 (by decide) rfl ?_
      refine gz_sub [3, 4, 1, 0] rfl ?_
      have ll_60 : ∀ (n_60 : Nat) (σ : Dz) (y1 : Int32) (y3 : Int32) (y4 : Int32) , L_X10_define_60 post  n_60 σ y1 y3 y4 → Gz p l e r_X10_define s m args below meth c D ad ty 5 0 0 (Ez below D ad ty nI0 post (fun _ _ => False) args s 0 0) σ 60 [(0, .ref (ad 43)), (1, .int y1), (3, .int y3), (4, .int y4)] [] := by
        intro n_60; induction n_60 with
        | zero => intro σ y1 y3 y4 hp; exact False.elim hp
        | succ n_60 ih_60 =>
          intro σ y1 y3 y4 hp
          have hp : B_X10_define_60 post  (L_X10_define_60 post  n_60) σ y1 y3 y4 := hp
          unfold B_X10_define_60 at hp
          have bb_126 : ∀ (σ : Dz) (y1 : Int32) (y4 : Int32) (z0 : Int32) (z1 : Int32) , B_X10_define_126 post (L_X10_define_60 post  n_60) σ y1 y4 z0 z1 → Gz p l e r_X10_define s m args below meth c D ad ty 5 0 0 (Ez below D ad ty nI0 post (fun _ _ => False) args s 0 0) σ 126 [(0, .ref (ad 43)), (1, .int y1), (4, .int y4)] [.int z0, .int z1] := by
            intro σ y1 y4 z0 z1 hp
            unfold B_X10_define_126 at hp
            refine gz_iadd K dX10_define_126 ?_
            refine gz_istore_n K [(3, .int (z1 + z0)), (0, .ref (ad 43)), (1, .int y1), (4, .int y4)] dX10_define_127 (by decide) rfl ?_
            refine gz_iinc K (v := (y4 + 1)) [(4, .int (y4 + 1)), (3, .int (z1 + z0)), (0, .ref (ad 43)), (1, .int y1)] dX10_define_128 3 rfl (by first | rfl | decide) (by decide) rfl ?_
            refine gz_goto K 60 dX10_define_131 (by decide) ?_
            refine gz_sub [2, 3, 1, 0] rfl ?_
            exact ih_60 σ y1 (z1 + z0) (y4 + 1)  hp
          refine gz_iload K dX10_define_60 3 rfl ?_
          refine gz_bipush K (v := (8 : Int32)) dX10_define_62 (by decide) ?_
          refine gz_icmp_ge K 134 dX10_define_64 (by decide) (fun h => ?_) (fun h => ?_)
          · have hp := hp.1 h
            refine gz_aload_n K dX10_define_134 0 rfl ?_
            refine gz_iload_n K dX10_define_135 2 rfl ?_
            refine gz_callV K hex (c_X10_done K.2.2.2.2.2 K.2.2.1 hp) cf_X10_done zq5_153 (by decide) (ce_43 _ _ _ _ _ _) rfl dX10_define_136 rfl rfl (Nat.le_of_ble_eq_true rfl) ⟨Nat.le_of_ble_eq_true rfl, Nat.le_of_ble_eq_true rfl⟩ ⟨Nat.le_of_ble_eq_true rfl, Nat.le_of_ble_eq_true rfl⟩ (Nat.le_of_ble_eq_true rfl) (Nat.le_of_ble_eq_true rfl) (fun _ _ h => h.elim) (fun r136 τ136 hp => ?_)
            refine gz_norm (st' := [.int r136]) (cells' := 0) (slots' := 0) rfl rfl rfl ?_
            exact gz_iret K hr hp dX10_define_139 (Nat.le_of_ble_eq_true rfl) (Nat.le_of_ble_eq_true rfl)
          · have hp := hp.2 h
            refine gz_aload_n K dX10_define_67 0 rfl ?_
            refine gz_get K (v := .ref (ad 46)) (by decide) (ce_43 _ _ _ _ _ _) rfl inz_X10 4 (by decide) zq5_35 rfl dX10_define_68 ?_
            refine gz_bipush K (v := (16 : Int32)) dX10_define_71 (by decide) ?_
            refine gz_iload_n K dX10_define_73 1 rfl ?_
            refine gz_imul K dX10_define_74 ?_
            refine gz_iload K dX10_define_75 3 rfl ?_
            refine gz_iadd K dX10_define_77 ?_
            refine gz_aload_n K dX10_define_78 0 rfl ?_
            refine gz_get K (v := .ref (ad 57)) (by decide) (ce_43 _ _ _ _ _ _) rfl inz_X10 19 (by decide) zq5_50 rfl dX10_define_79 ?_
            refine gz_iload K dX10_define_82 3 rfl ?_
            obtain ⟨h, hp⟩ := hp
            refine gz_iald K (by decide) (ce_57 _ _ _ _ _ _) h dX10_define_84 ?_
            obtain ⟨h, hp⟩ := hp
            refine gz_iast K (x := (gz_i σ 57 (y4).toNatClampNeg)) (by decide) (ce_46 ad ty) h dX10_define_85 ?_
            refine gz_aload_n K dX10_define_86 0 rfl ?_
            refine gz_get K (v := .ref (ad 46)) (by decide) (ce_43 _ _ _ _ _ _) rfl inz_X10 4 (by decide) zq5_35 rfl dX10_define_87 ?_
            refine gz_bipush K (v := (16 : Int32)) dX10_define_90 (by decide) ?_
            refine gz_iload_n K dX10_define_92 1 rfl ?_
            refine gz_imul K dX10_define_93 ?_
            refine gz_bipush K (v := (8 : Int32)) dX10_define_94 (by decide) ?_
            refine gz_iadd K dX10_define_96 ?_
            refine gz_aload_n K dX10_define_97 0 rfl ?_
            refine gz_get K (v := .ref (ad 57)) (by decide) (ce_43 _ _ _ _ _ _) rfl inz_X10 19 (by decide) zq5_50 rfl dX10_define_98 ?_
            refine gz_iload K dX10_define_101 3 rfl ?_
            obtain ⟨h, hp⟩ := hp
            refine gz_iald K (by decide) (ce_57 _ _ _ _ _ _) h dX10_define_103 ?_
            refine gz_iadd K dX10_define_104 ?_
            refine gz_iload K dX10_define_105 3 rfl ?_
            obtain ⟨h, hp⟩ := hp
            refine gz_iast K (x := y4) (by decide) (ce_46 ad ty) h dX10_define_107 ?_
            refine gz_iload_n K dX10_define_108 2 rfl ?_
            refine gz_aload_n K dX10_define_109 0 rfl ?_
            refine gz_get K (v := .ref (ad 57)) (by decide) (ce_43 _ _ _ _ _ _) rfl inz_X10 19 (by decide) zq5_50 rfl dX10_define_110 ?_
            refine gz_iload K dX10_define_113 3 rfl ?_
            obtain ⟨h, hp⟩ := hp
            refine gz_iald K (by decide) (ce_57 _ _ _ _ _ _) h dX10_define_115 ?_
            refine gz_iload K dX10_define_116 3 rfl ?_
            refine gz_icmp_eq K 125 dX10_define_118 (by decide) (fun h => ?_) (fun h => ?_)
            · have hp := hp.1 h
              refine gz_iconst K (v := (0 : Int32)) dX10_define_125 (by decide) ?_
              refine gz_sub [0, 1, 3] rfl ?_
              exact bb_126 (sz_i (sz_i σ 46 ((((16 : Int32) * y1) + y4)).toNatClampNeg (gz_i σ 57 (y4).toNatClampNeg)) 46 (((((16 : Int32) * y1) + (8 : Int32)) + (gz_i (sz_i σ 46 ((((16 : Int32) * y1) + y4)).toNatClampNeg (gz_i σ 57 (y4).toNatClampNeg)) 57 (y4).toNatClampNeg))).toNatClampNeg y4) y1 y4 (0 : Int32) y3  hp
            · have hp := hp.2 h
              refine gz_iconst K (v := (1 : Int32)) dX10_define_121 (by decide) ?_
              refine gz_goto K 126 dX10_define_122 (by decide) ?_
              refine gz_sub [0, 1, 3] rfl ?_
              exact bb_126 (sz_i (sz_i σ 46 ((((16 : Int32) * y1) + y4)).toNatClampNeg (gz_i σ 57 (y4).toNatClampNeg)) 46 (((((16 : Int32) * y1) + (8 : Int32)) + (gz_i (sz_i σ 46 ((((16 : Int32) * y1) + y4)).toNatClampNeg (gz_i σ 57 (y4).toNatClampNeg)) 57 (y4).toNatClampNeg))).toNatClampNeg y4) y1 y4 (1 : Int32) y3  hp
      obtain ⟨n, hp⟩ := hp
      exact ll_60 n (sz_i (sz_i (sz_i τ16 43 8 (0 : Int32)) 45 (x1).toNatClampNeg (1 : Int32)) 43 27 (0 : Int32)) x1 (0 : Int32) (0 : Int32)  hp
    · have hp := hp.2 h
      refine gz_aload_n K dX10_define_29 1 rfl ?_
      refine gz_aload_n K dX10_define_30 1 rfl ?_
      refine gz_get K (v := .int (gz_i (sz_i τ16 43 8 (0 : Int32)) 43 18)) (by decide) (ce_43 _ _ _ _ _ _) rfl inz_X10 18 (by decide) zq5_49 rfl dX10_define_31 ?_
      refine gz_put K (x := (gz_i (sz_i τ16 43 8 (0 : Int32)) 43 18)) (by decide) (ce_43 _ _ _ _ _ _) rfl inz_X10 tyX10 tyX10_ok nmX10 9 (by decide) zq5_40 rfl (tyX10_ok _ (by decide)) rfl rfl (Nat.le_of_ble_eq_true rfl) peX10_9 dX10_define_34 ?_
      refine gz_aload_n K dX10_define_37 1 rfl ?_
      refine gz_iconst K (v := (2 : Int32)) dX10_define_38 (by decide) ?_
      refine gz_callV K hex (c_X10_fails K.2.2.2.2.2 K.2.2.1 hp) cf_X10_fails zq5_149 (by decide) (ce_43 _ _ _ _ _ _) rfl dX10_define_39 rfl rfl (Nat.le_of_ble_eq_true rfl) ⟨Nat.le_of_ble_eq_true rfl, Nat.le_of_ble_eq_true rfl⟩ ⟨Nat.le_of_ble_eq_true rfl, Nat.le_of_ble_eq_true rfl⟩ (Nat.le_of_ble_eq_true rfl) (Nat.le_of_ble_eq_true rfl) (fun _ _ h => h.elim) (fun r39 τ39 hp => ?_)
      refine gz_norm (st' := [.int r39]) (cells' := 0) (slots' := 0) rfl rfl rfl ?_
      exact gz_iret K hr hp dX10_define_42 (Nat.le_of_ble_eq_true rfl) (Nat.le_of_ble_eq_true rfl)
  · have hp := hp.2 h
    refine gz_aload_n K dX10_define_9 0 rfl ?_
    refine gz_iconst K (v := (1 : Int32)) dX10_define_10 (by decide) ?_
    refine gz_callV K hex (c_X10_fails K.2.2.2.2.2 K.2.2.1 hp) cf_X10_fails zq5_149 (by decide) (ce_43 _ _ _ _ _ _) rfl dX10_define_11 rfl rfl (Nat.le_of_ble_eq_true rfl) ⟨Nat.le_of_ble_eq_true rfl, Nat.le_of_ble_eq_true rfl⟩ ⟨Nat.le_of_ble_eq_true rfl, Nat.le_of_ble_eq_true rfl⟩ (Nat.le_of_ble_eq_true rfl) (Nat.le_of_ble_eq_true rfl) (fun _ _ h => h.elim) (fun r11 τ11 hp => ?_)
    refine gz_norm (st' := [.int r11]) (cells' := 0) (slots' := 0) rfl rfl rfl ?_
    exact gz_iret K hr hp dX10_define_14 (Nat.le_of_ble_eq_true rfl) (Nat.le_of_ble_eq_true rfl)
set_option maxRecDepth 100000 in
set_option maxHeartbeats 4000000 in
theorem c_X10_comes {l : Launch} {D : va_G} {ad : Nat → Nat} {ty : Nat → ClassId} (hl : l.stackTraces = false) (hj : ∀ i j, i < 68 → j < 68 → ad i = ad j → i = j) {σ : Dz} {x1 : Int32} {post : Dz → Prop} (hp : P_X10_comes σ x1 post) : Mz l D ad ty yX10_comes cX10_comes 2 none r_X10_comes nV0 σ [.ref (ad 43), .int x1] (fun _ τ => post τ) (fun _ _ => False) := by
  refine mz_of (by decide) hl hj (Nat.le_of_ble_eq_true rfl) ?_
  intro p e s m args below meth c K hex hr
  unfold P_X10_comes at hp
  show Gz p l e r_X10_comes s m args below meth c D ad ty 2 0 0 (Ez below D ad ty nV0 (fun _ τ => post τ) (fun _ _ => False) args s 0 0) σ 0 [(0, .ref (ad 43)), (1, .int x1)] []
  refine gz_aload_n K dX10_comes_0 0 rfl ?_
  refine gz_get K (v := .int (gz_i σ 43 22)) (by decide) (ce_43 _ _ _ _ _ _) rfl inz_X10 22 (by decide) zq5_53 rfl dX10_comes_1 ?_
  refine gz_sipush K (v := (200 : Int32)) dX10_comes_4 (by decide) ?_
  refine gz_icmp_ne K 18 dX10_comes_7 (by decide) (fun h => ?_) (fun h => ?_)
  · have hp := hp.1 h
    refine gz_aload_n K dX10_comes_18 0 rfl ?_
    refine gz_get K (v := .ref (ad 59)) (by decide) (ce_43 _ _ _ _ _ _) rfl inz_X10 21 (by decide) zq5_52 rfl dX10_comes_19 ?_
    refine gz_aload_n K dX10_comes_22 0 rfl ?_
    refine gz_get K (v := .int (gz_i σ 43 22)) (by decide) (ce_43 _ _ _ _ _ _) rfl inz_X10 22 (by decide) zq5_53 rfl dX10_comes_23 ?_
    refine gz_iload_n K dX10_comes_26 1 rfl ?_
    obtain ⟨h, hp⟩ := hp
    refine gz_iast K (x := x1) (by decide) (ce_59 ad ty) h dX10_comes_27 ?_
    refine gz_aload_n K dX10_comes_28 0 rfl ?_
    refine gz_dup K dX10_comes_29 rfl ?_
    refine gz_get K (v := .int (gz_i (sz_i σ 59 ((gz_i σ 43 22)).toNatClampNeg x1) 43 22)) (by decide) (ce_43 _ _ _ _ _ _) rfl inz_X10 22 (by decide) zq5_53 rfl dX10_comes_30 ?_
    refine gz_iconst K (v := (1 : Int32)) dX10_comes_33 (by decide) ?_
    refine gz_iadd K dX10_comes_34 ?_
    refine gz_put K (x := ((gz_i (sz_i σ 59 ((gz_i σ 43 22)).toNatClampNeg x1) 43 22) + (1 : Int32))) (by decide) (ce_43 _ _ _ _ _ _) rfl inz_X10 tyX10 tyX10_ok nmX10 22 (by decide) zq5_53 rfl (tyX10_ok _ (by decide)) rfl rfl (Nat.le_of_ble_eq_true rfl) peX10_22 dX10_comes_35 ?_
    exact gz_vret K hr hp dX10_comes_38 (Nat.le_of_ble_eq_true rfl) (Nat.le_of_ble_eq_true rfl)
  · have hp := hp.2 h
    refine gz_aload_n K dX10_comes_10 0 rfl ?_
    refine gz_iconst K (v := (1 : Int32)) dX10_comes_11 (by decide) ?_
    refine gz_put K (x := (1 : Int32)) (by decide) (ce_43 _ _ _ _ _ _) rfl inz_X10 tyX10 tyX10_ok nmX10 23 (by decide) zq5_54 rfl (tyX10_ok _ (by decide)) rfl rfl (Nat.le_of_ble_eq_true rfl) peX10_23 dX10_comes_12 ?_
    refine gz_goto K 38 dX10_comes_15 (by decide) ?_
    exact gz_vret K hr hp dX10_comes_38 (Nat.le_of_ble_eq_true rfl) (Nat.le_of_ble_eq_true rfl)
set_option maxRecDepth 100000 in
set_option maxHeartbeats 4000000 in
theorem c_X10_comesBack {l : Launch} {D : va_G} {ad : Nat → Nat} {ty : Nat → ClassId} (hl : l.stackTraces = false) (hj : ∀ i j, i < 68 → j < 68 → ad i = ad j → i = j) {σ : Dz} {x1 : Int32} {x2 : Int32} {post : Dz → Prop} (hp : P_X10_comesBack σ x1 x2 post) : Mz l D ad ty yX10_comesBack cX10_comesBack 4 none r_X10_comesBack nV0 σ [.ref (ad 43), .int x1, .int x2] (fun _ τ => post τ) (fun _ _ => False) := by
  refine mz_of (by decide) hl hj (Nat.le_of_ble_eq_true rfl) ?_
  intro p e s m args below meth c K hex hr
  unfold P_X10_comesBack at hp
  show Gz p l e r_X10_comesBack s m args below meth c D ad ty 4 0 0 (Ez below D ad ty nV0 (fun _ τ => post τ) (fun _ _ => False) args s 0 0) σ 0 [(0, .ref (ad 43)), (1, .int x1), (2, .int x2)] []
  refine gz_iload_n K dX10_comesBack_0 2 rfl ?_
  refine gz_iconst K (v := (1 : Int32)) dX10_comesBack_1 (by decide) ?_
  refine gz_isub K dX10_comesBack_2 ?_
  refine gz_istore_n K [(3, .int (x2 - (1 : Int32))), (0, .ref (ad 43)), (1, .int x1), (2, .int x2)] dX10_comesBack_3 (by decide) rfl ?_
  refine gz_sub [1, 2, 0] rfl ?_
  have ll_4 : ∀ (n_4 : Nat) (σ : Dz) (y1 : Int32) (y3 : Int32) , L_X10_comesBack_4 post  n_4 σ y1 y3 → Gz p l e r_X10_comesBack s m args below meth c D ad ty 4 0 0 (Ez below D ad ty nV0 (fun _ τ => post τ) (fun _ _ => False) args s 0 0) σ 4 [(0, .ref (ad 43)), (1, .int y1), (3, .int y3)] [] := by
    intro n_4; induction n_4 with
    | zero => intro σ y1 y3 hp; exact False.elim hp
    | succ n_4 ih_4 =>
      intro σ y1 y3 hp
      have hp : B_X10_comesBack_4 post  (L_X10_comesBack_4 post  n_4) σ y1 y3 := hp
      unfold B_X10_comesBack_4 at hp
      refine gz_iload_n K dX10_comesBack_4 2 rfl ?_
      refine gz_iload_n K dX10_comesBack_5 1 rfl ?_
      refine gz_icmp_lt K 27 dX10_comesBack_6 (by decide) (fun h => ?_) (fun h => ?_)
      · have hp := hp.1 h
        exact gz_vret K hr hp dX10_comesBack_27 (Nat.le_of_ble_eq_true rfl) (Nat.le_of_ble_eq_true rfl)
      · have hp := hp.2 h
        refine gz_aload_n K dX10_comesBack_9 0 rfl ?_
        refine gz_aload_n K dX10_comesBack_10 0 rfl ?_
        refine gz_get K (v := .ref (ad 59)) (by decide) (ce_43 _ _ _ _ _ _) rfl inz_X10 21 (by decide) zq5_52 rfl dX10_comesBack_11 ?_
        refine gz_iload_n K dX10_comesBack_14 2 rfl ?_
        obtain ⟨h, hp⟩ := hp
        refine gz_iald K (by decide) (ce_59 _ _ _ _ _ _) h dX10_comesBack_15 ?_
        refine gz_iconst K (v := (1 : Int32)) dX10_comesBack_16 (by decide) ?_
        refine gz_ixor K dX10_comesBack_17 ?_
        refine gz_callV K hex (c_X10_comes K.2.2.2.2.2 K.2.2.1 hp) cf_X10_comes zq5_202 (by decide) (ce_43 _ _ _ _ _ _) rfl dX10_comesBack_18 rfl rfl (Nat.le_of_ble_eq_true rfl) ⟨Nat.le_of_ble_eq_true rfl, Nat.le_of_ble_eq_true rfl⟩ ⟨Nat.le_of_ble_eq_true rfl, Nat.le_of_ble_eq_true rfl⟩ (Nat.le_of_ble_eq_true rfl) (Nat.le_of_ble_eq_true rfl) (fun _ _ h => h.elim) (fun _ τ18 hp => ?_)
        refine gz_norm (st' := []) (cells' := 0) (slots' := 0) rfl rfl rfl ?_
        refine gz_iinc K (v := (y3 + (-1))) [(3, .int (y3 + (-1))), (0, .ref (ad 43)), (1, .int y1)] dX10_comesBack_21 2 rfl (by first | rfl | decide) (by decide) rfl ?_
        refine gz_goto K 4 dX10_comesBack_24 (by decide) ?_
        refine gz_sub [1, 2, 0] rfl ?_
        exact ih_4 τ18 y1 (y3 + (-1))  hp
  obtain ⟨n, hp⟩ := hp
  exact ll_4 n σ x1 (x2 - (1 : Int32))  hp
set_option maxRecDepth 100000 in
set_option maxHeartbeats 4000000 in
theorem c_X10_turns {l : Launch} {D : va_G} {ad : Nat → Nat} {ty : Nat → ClassId} (hl : l.stackTraces = false) (hj : ∀ i j, i < 68 → j < 68 → ad i = ad j → i = j) {σ : Dz} {x1 : Int32} {post : Dz → Prop} (hp : P_X10_turns σ x1 post) : Mz l D ad ty yX10_turns cX10_turns 5 none r_X10_turns nV0 σ [.ref (ad 43), .int x1] (fun _ τ => post τ) (fun _ _ => False) := by
  refine mz_of (by decide) hl hj (Nat.le_of_ble_eq_true rfl) ?_
  intro p e s m args below meth c K hex hr
  unfold P_X10_turns at hp
  show Gz p l e r_X10_turns s m args below meth c D ad ty 5 0 0 (Ez below D ad ty nV0 (fun _ τ => post τ) (fun _ _ => False) args s 0 0) σ 0 [(0, .ref (ad 43)), (1, .int x1)] []
  refine gz_aload_n K dX10_turns_0 0 rfl ?_
  refine gz_get K (v := .int (gz_i σ 43 22)) (by decide) (ce_43 _ _ _ _ _ _) rfl inz_X10 22 (by decide) zq5_53 rfl dX10_turns_1 ?_
  refine gz_iload_n K dX10_turns_4 1 rfl ?_
  refine gz_isub K dX10_turns_5 ?_
  refine gz_istore_n K [(2, .int ((gz_i σ 43 22) - x1)), (0, .ref (ad 43)), (1, .int x1)] dX10_turns_6 (by decide) rfl ?_
  refine gz_iconst K (v := (0 : Int32)) dX10_turns_7 (by decide) ?_
  refine gz_istore_n K [(3, .int (0 : Int32)), (2, .int ((gz_i σ 43 22) - x1)), (0, .ref (ad 43)), (1, .int x1)] dX10_turns_8 (by decide) rfl ?_
  refine gz_sub [2, 3, 1, 0] rfl ?_
  have ll_9 : ∀ (n_9 : Nat) (σ : Dz) (y1 : Int32) (y2 : Int32) (y3 : Int32) , L_X10_turns_9 post  n_9 σ y1 y2 y3 → Gz p l e r_X10_turns s m args below meth c D ad ty 5 0 0 (Ez below D ad ty nV0 (fun _ τ => post τ) (fun _ _ => False) args s 0 0) σ 9 [(0, .ref (ad 43)), (1, .int y1), (2, .int y2), (3, .int y3)] [] := by
    intro n_9; induction n_9 with
    | zero => intro σ y1 y2 y3 hp; exact False.elim hp
    | succ n_9 ih_9 =>
      intro σ y1 y2 y3 hp
      have hp : B_X10_turns_9 post  (L_X10_turns_9 post  n_9) σ y1 y2 y3 := hp
      unfold B_X10_turns_9 at hp
      refine gz_iload_n K dX10_turns_9 3 rfl ?_
      refine gz_iload_n K dX10_turns_10 2 rfl ?_
      refine gz_iconst K (v := (2 : Int32)) dX10_turns_11 (by decide) ?_
      refine gz_idiv K dX10_turns_12 (by decide) ?_
      refine gz_icmp_ge K 68 dX10_turns_13 (by decide) (fun h => ?_) (fun h => ?_)
      · have hp := hp.1 h
        refine gz_iload_n K dX10_turns_68 1 rfl ?_
        refine gz_istore_n K [(3, .int y1), (0, .ref (ad 43)), (1, .int y1), (2, .int y2)] dX10_turns_69 (by decide) rfl ?_
        refine gz_sub [1, 0] rfl ?_
        have ll_70 : ∀ (n_70 : Nat) (σ : Dz) (y3 : Int32) , L_X10_turns_70 post  n_70 σ y3 → Gz p l e r_X10_turns s m args below meth c D ad ty 5 0 0 (Ez below D ad ty nV0 (fun _ τ => post τ) (fun _ _ => False) args s 0 0) σ 70 [(0, .ref (ad 43)), (3, .int y3)] [] := by
          intro n_70; induction n_70 with
          | zero => intro σ y3 hp; exact False.elim hp
          | succ n_70 ih_70 =>
            intro σ y3 hp
            have hp : B_X10_turns_70 post  (L_X10_turns_70 post  n_70) σ y3 := hp
            unfold B_X10_turns_70 at hp
            refine gz_iload_n K dX10_turns_70 1 rfl ?_
            refine gz_aload_n K dX10_turns_71 0 rfl ?_
            refine gz_get K (v := .int (gz_i σ 43 22)) (by decide) (ce_43 _ _ _ _ _ _) rfl inz_X10 22 (by decide) zq5_53 rfl dX10_turns_72 ?_
            refine gz_icmp_ge K 94 dX10_turns_75 (by decide) (fun h => ?_) (fun h => ?_)
            · have hp := hp.1 h
              exact gz_vret K hr hp dX10_turns_94 (Nat.le_of_ble_eq_true rfl) (Nat.le_of_ble_eq_true rfl)
            · have hp := hp.2 h
              refine gz_aload_n K dX10_turns_78 0 rfl ?_
              refine gz_get K (v := .ref (ad 59)) (by decide) (ce_43 _ _ _ _ _ _) rfl inz_X10 21 (by decide) zq5_52 rfl dX10_turns_79 ?_
              refine gz_iload_n K dX10_turns_82 1 rfl ?_
              refine gz_dup2 K dX10_turns_83 rfl rfl ?_
              obtain ⟨h, hp⟩ := hp
              refine gz_iald K (by decide) (ce_59 _ _ _ _ _ _) h dX10_turns_84 ?_
              refine gz_iconst K (v := (1 : Int32)) dX10_turns_85 (by decide) ?_
              refine gz_ixor K dX10_turns_86 ?_
              obtain ⟨h, hp⟩ := hp
              refine gz_iast K (x := ((gz_i σ 59 (y3).toNatClampNeg) ^^^ (1 : Int32))) (by decide) (ce_59 ad ty) h dX10_turns_87 ?_
              refine gz_iinc K (v := (y3 + 1)) [(3, .int (y3 + 1)), (0, .ref (ad 43))] dX10_turns_88 1 rfl (by first | rfl | decide) (by decide) rfl ?_
              refine gz_goto K 70 dX10_turns_91 (by decide) ?_
              refine gz_sub [1, 0] rfl ?_
              exact ih_70 (sz_i σ 59 (y3).toNatClampNeg ((gz_i σ 59 (y3).toNatClampNeg) ^^^ (1 : Int32))) (y3 + 1)  hp
        obtain ⟨n, hp⟩ := hp
        exact ll_70 n σ y1  hp
      · have hp := hp.2 h
        refine gz_aload_n K dX10_turns_16 0 rfl ?_
        refine gz_get K (v := .ref (ad 59)) (by decide) (ce_43 _ _ _ _ _ _) rfl inz_X10 21 (by decide) zq5_52 rfl dX10_turns_17 ?_
        refine gz_iload_n K dX10_turns_20 1 rfl ?_
        refine gz_iload_n K dX10_turns_21 3 rfl ?_
        refine gz_iadd K dX10_turns_22 ?_
        obtain ⟨h, hp⟩ := hp
        refine gz_iald K (by decide) (ce_59 _ _ _ _ _ _) h dX10_turns_23 ?_
        refine gz_istore K [(4, .int (gz_i σ 59 ((y1 + y3)).toNatClampNeg)), (0, .ref (ad 43)), (1, .int y1), (2, .int y2), (3, .int y3)] dX10_turns_24 (by decide) rfl ?_
        refine gz_aload_n K dX10_turns_26 1 rfl ?_
        refine gz_get K (v := .ref (ad 59)) (by decide) (ce_43 _ _ _ _ _ _) rfl inz_X10 21 (by decide) zq5_52 rfl dX10_turns_27 ?_
        refine gz_iload_n K dX10_turns_30 2 rfl ?_
        refine gz_iload_n K dX10_turns_31 4 rfl ?_
        refine gz_iadd K dX10_turns_32 ?_
        refine gz_aload_n K dX10_turns_33 1 rfl ?_
        refine gz_get K (v := .ref (ad 59)) (by decide) (ce_43 _ _ _ _ _ _) rfl inz_X10 21 (by decide) zq5_52 rfl dX10_turns_34 ?_
        refine gz_aload_n K dX10_turns_37 1 rfl ?_
        refine gz_get K (v := .int (gz_i σ 43 22)) (by decide) (ce_43 _ _ _ _ _ _) rfl inz_X10 22 (by decide) zq5_53 rfl dX10_turns_38 ?_
        refine gz_iconst K (v := (1 : Int32)) dX10_turns_41 (by decide) ?_
        refine gz_isub K dX10_turns_42 ?_
        refine gz_iload_n K dX10_turns_43 4 rfl ?_
        refine gz_isub K dX10_turns_44 ?_
        obtain ⟨h, hp⟩ := hp
        refine gz_iald K (by decide) (ce_59 _ _ _ _ _ _) h dX10_turns_45 ?_
        obtain ⟨h, hp⟩ := hp
        refine gz_iast K (x := (gz_i σ 59 ((((gz_i σ 43 22) - (1 : Int32)) - y3)).toNatClampNeg)) (by decide) (ce_59 ad ty) h dX10_turns_46 ?_
        refine gz_aload_n K dX10_turns_47 1 rfl ?_
        refine gz_get K (v := .ref (ad 59)) (by decide) (ce_43 _ _ _ _ _ _) rfl inz_X10 21 (by decide) zq5_52 rfl dX10_turns_48 ?_
        refine gz_aload_n K dX10_turns_51 1 rfl ?_
        refine gz_get K (v := .int (gz_i (sz_i σ 59 ((y1 + y3)).toNatClampNeg (gz_i σ 59 ((((gz_i σ 43 22) - (1 : Int32)) - y3)).toNatClampNeg)) 43 22)) (by decide) (ce_43 _ _ _ _ _ _) rfl inz_X10 22 (by decide) zq5_53 rfl dX10_turns_52 ?_
        refine gz_iconst K (v := (1 : Int32)) dX10_turns_55 (by decide) ?_
        refine gz_isub K dX10_turns_56 ?_
        refine gz_iload_n K dX10_turns_57 4 rfl ?_
        refine gz_isub K dX10_turns_58 ?_
        refine gz_iload K dX10_turns_59 0 rfl ?_
        obtain ⟨h, hp⟩ := hp
        refine gz_iast K (x := (gz_i σ 59 ((y1 + y3)).toNatClampNeg)) (by decide) (ce_59 ad ty) h dX10_turns_61 ?_
        refine gz_iinc K (v := (y3 + 1)) [(3, .int (y3 + 1)), (4, .int (gz_i σ 59 ((y1 + y3)).toNatClampNeg)), (0, .ref (ad 43)), (1, .int y1), (2, .int y2)] dX10_turns_62 4 rfl (by first | rfl | decide) (by decide) rfl ?_
        refine gz_goto K 9 dX10_turns_65 (by decide) ?_
        refine gz_sub [2, 3, 4, 0] rfl ?_
        exact ih_9 (sz_i (sz_i σ 59 ((y1 + y3)).toNatClampNeg (gz_i σ 59 ((((gz_i σ 43 22) - (1 : Int32)) - y3)).toNatClampNeg)) 59 ((((gz_i (sz_i σ 59 ((y1 + y3)).toNatClampNeg (gz_i σ 59 ((((gz_i σ 43 22) - (1 : Int32)) - y3)).toNatClampNeg)) 43 22) - (1 : Int32)) - y3)).toNatClampNeg (gz_i σ 59 ((y1 + y3)).toNatClampNeg)) y1 y2 (y3 + 1)  hp
  obtain ⟨n, hp⟩ := hp
  exact ll_9 n σ x1 ((gz_i σ 43 22) - x1) (0 : Int32)  hp
set_option maxRecDepth 100000 in
set_option maxHeartbeats 4000000 in
theorem c_X10_readsBehind {l : Launch} {D : va_G} {ad : Nat → Nat} {ty : Nat → ClassId} (hl : l.stackTraces = false) (hj : ∀ i j, i < 68 → j < 68 → ad i = ad j → i = j) {σ : Dz} {x1 : Int32} {post : Dz → Prop} (hp : P_X10_readsBehind σ x1 post) : Mz l D ad ty yX10_readsBehind cX10_readsBehind 5 none r_X10_readsBehind nV0 σ [.ref (ad 43), .int x1] (fun _ τ => post τ) (fun _ _ => False) := by
  refine mz_of (by decide) hl hj (Nat.le_of_ble_eq_true rfl) ?_
  intro p e s m args below meth c K hex hr
  unfold P_X10_readsBehind at hp
  have bb_24 : ∀ (σ : Dz) (y1 : Int32) , B_X10_readsBehind_24 post  σ y1 → Gz p l e r_X10_readsBehind s m args below meth c D ad ty 5 0 0 (Ez below D ad ty nV0 (fun _ τ => post τ) (fun _ _ => False) args s 0 0) σ 24 [(0, .ref (ad 43)), (1, .int y1)] [] := by
    intro σ y1 hp
    unfold B_X10_readsBehind_24 at hp
    refine gz_aload_n K dX10_readsBehind_24 0 rfl ?_
    refine gz_callV K hex (c_X10_here K.2.2.2.2.2 K.2.2.1 hp) cf_X10_here zq5_173 (by decide) (ce_43 _ _ _ _ _ _) rfl dX10_readsBehind_25 rfl rfl (Nat.le_of_ble_eq_true rfl) ⟨Nat.le_of_ble_eq_true rfl, Nat.le_of_ble_eq_true rfl⟩ ⟨Nat.le_of_ble_eq_true rfl, Nat.le_of_ble_eq_true rfl⟩ (Nat.le_of_ble_eq_true rfl) (Nat.le_of_ble_eq_true rfl) (fun _ _ h => h.elim) (fun r25 τ hp => ?_)
    obtain ⟨rfl, hp⟩ := hp
    refine gz_norm (st' := [.int r25]) (cells' := 0) (slots' := 0) rfl rfl rfl ?_
    refine gz_bipush K (v := (50 : Int32)) dX10_readsBehind_28 (by decide) ?_
    refine gz_bipush K (v := (57 : Int32)) dX10_readsBehind_30 (by decide) ?_
    refine gz_callS K hex (c_X10_in K.2.2.2.2.2 K.2.2.1 hp) cf_X10_in zq5_146 dX10_readsBehind_32 rfl rfl (Nat.le_of_ble_eq_true rfl) ⟨Nat.le_of_ble_eq_true rfl, Nat.le_of_ble_eq_true rfl⟩ ⟨Nat.le_of_ble_eq_true rfl, Nat.le_of_ble_eq_true rfl⟩ (Nat.le_of_ble_eq_true rfl) (Nat.le_of_ble_eq_true rfl) (fun _ _ h => h.elim) (fun r32 τ hp => ?_)
    obtain ⟨rfl, hp⟩ := hp
    refine gz_norm (st' := [.int r32]) (cells' := 0) (slots' := 0) rfl rfl rfl ?_
    refine gz_if_eq K 98 dX10_readsBehind_35 (by decide) (fun h => ?_) (fun h => ?_)
    · have hp := hp.1 h
      exact gz_vret K hr hp dX10_readsBehind_98 (Nat.le_of_ble_eq_true rfl) (Nat.le_of_ble_eq_true rfl)
    · have hp := hp.2 h
      refine gz_aload_n K dX10_readsBehind_38 0 rfl ?_
      refine gz_get K (v := .int (gz_i σ 43 22)) (by decide) (ce_43 _ _ _ _ _ _) rfl inz_X10 22 (by decide) zq5_53 rfl dX10_readsBehind_39 ?_
      refine gz_istore_n K [(2, .int (gz_i σ 43 22)), (0, .ref (ad 43)), (1, .int y1)] dX10_readsBehind_42 (by decide) rfl ?_
      refine gz_iconst K (v := (1 : Int32)) dX10_readsBehind_43 (by decide) ?_
      refine gz_istore_n K [(3, .int (1 : Int32)), (2, .int (gz_i σ 43 22)), (0, .ref (ad 43)), (1, .int y1)] dX10_readsBehind_44 (by decide) rfl ?_
      refine gz_sub [2, 3, 1, 0] rfl ?_
      have ll_45 : ∀ (n_45 : Nat) (σ : Dz) (y1 : Int32) (y2 : Int32) (y3 : Int32) , L_X10_readsBehind_45 post  n_45 σ y1 y2 y3 → Gz p l e r_X10_readsBehind s m args below meth c D ad ty 5 0 0 (Ez below D ad ty nV0 (fun _ τ => post τ) (fun _ _ => False) args s 0 0) σ 45 [(0, .ref (ad 43)), (1, .int y1), (2, .int y2), (3, .int y3)] [] := by
        intro n_45; induction n_45 with
        | zero => intro σ y1 y2 y3 hp; exact False.elim hp
        | succ n_45 ih_45 =>
          intro σ y1 y2 y3 hp
          have hp : B_X10_readsBehind_45 post  (L_X10_readsBehind_45 post  n_45) σ y1 y2 y3 := hp
          unfold B_X10_readsBehind_45 at hp
          refine gz_iload_n K dX10_readsBehind_45 3 rfl ?_
          refine gz_aload_n K dX10_readsBehind_46 0 rfl ?_
          refine gz_callV K hex (c_X10_here K.2.2.2.2.2 K.2.2.1 hp) cf_X10_here zq5_173 (by decide) (ce_43 _ _ _ _ _ _) rfl dX10_readsBehind_47 rfl rfl (Nat.le_of_ble_eq_true rfl) ⟨Nat.le_of_ble_eq_true rfl, Nat.le_of_ble_eq_true rfl⟩ ⟨Nat.le_of_ble_eq_true rfl, Nat.le_of_ble_eq_true rfl⟩ (Nat.le_of_ble_eq_true rfl) (Nat.le_of_ble_eq_true rfl) (fun _ _ h => h.elim) (fun r47 τ hp => ?_)
          obtain ⟨rfl, hp⟩ := hp
          refine gz_norm (st' := [.int r47, .int y3]) (cells' := 0) (slots' := 0) rfl rfl rfl ?_
          refine gz_bipush K (v := (48 : Int32)) dX10_readsBehind_50 (by decide) ?_
          refine gz_isub K dX10_readsBehind_52 ?_
          refine gz_icmp_ge K 88 dX10_readsBehind_53 (by decide) (fun h => ?_) (fun h => ?_)
          · have hp := hp.1 h
            refine gz_aload_n K dX10_readsBehind_88 0 rfl ?_
            refine gz_dup K dX10_readsBehind_89 rfl ?_
            refine gz_get K (v := .int (gz_i σ 43 18)) (by decide) (ce_43 _ _ _ _ _ _) rfl inz_X10 18 (by decide) zq5_49 rfl dX10_readsBehind_90 ?_
            refine gz_iconst K (v := (1 : Int32)) dX10_readsBehind_93 (by decide) ?_
            refine gz_iadd K dX10_readsBehind_94 ?_
            refine gz_put K (x := ((gz_i σ 43 18) + (1 : Int32))) (by decide) (ce_43 _ _ _ _ _ _) rfl inz_X10 tyX10 tyX10_ok nmX10 18 (by decide) zq5_49 rfl (tyX10_ok _ (by decide)) rfl rfl (Nat.le_of_ble_eq_true rfl) peX10_18 dX10_readsBehind_95 ?_
            exact gz_vret K hr hp dX10_readsBehind_98 (Nat.le_of_ble_eq_true rfl) (Nat.le_of_ble_eq_true rfl)
          · have hp := hp.2 h
            refine gz_iload_n K dX10_readsBehind_56 1 rfl ?_
            refine gz_istore K [(4, .int y1), (0, .ref (ad 43)), (1, .int y1), (2, .int y2), (3, .int y3)] dX10_readsBehind_57 (by decide) rfl ?_
            refine gz_sub [1, 2, 3, 4, 0] rfl ?_
            have ll_59 : ∀ (n_59 : Nat) (σ : Dz) (y1 : Int32) (y2 : Int32) (y3 : Int32) (y4 : Int32) , L_X10_readsBehind_59 post (L_X10_readsBehind_45 post  n_45) n_59 σ y1 y2 y3 y4 → Gz p l e r_X10_readsBehind s m args below meth c D ad ty 5 0 0 (Ez below D ad ty nV0 (fun _ τ => post τ) (fun _ _ => False) args s 0 0) σ 59 [(0, .ref (ad 43)), (1, .int y1), (2, .int y2), (3, .int y3), (4, .int y4)] [] := by
              intro n_59; induction n_59 with
              | zero => intro σ y1 y2 y3 y4 hp; exact False.elim hp
              | succ n_59 ih_59 =>
                intro σ y1 y2 y3 y4 hp
                have hp : B_X10_readsBehind_59 post (L_X10_readsBehind_45 post  n_45) (L_X10_readsBehind_59 post (L_X10_readsBehind_45 post  n_45) n_59) σ y1 y2 y3 y4 := hp
                unfold B_X10_readsBehind_59 at hp
                refine gz_iload K dX10_readsBehind_59 4 rfl ?_
                refine gz_iload_n K dX10_readsBehind_61 2 rfl ?_
                refine gz_icmp_ge K 82 dX10_readsBehind_62 (by decide) (fun h => ?_) (fun h => ?_)
                · have hp := hp.1 h
                  refine gz_iinc K (v := (y3 + 1)) [(3, .int (y3 + 1)), (0, .ref (ad 43)), (1, .int y1), (2, .int y2), (4, .int y4)] dX10_readsBehind_82 3 rfl (by first | rfl | decide) (by decide) rfl ?_
                  refine gz_goto K 45 dX10_readsBehind_85 (by decide) ?_
                  refine gz_sub [1, 2, 3, 0] rfl ?_
                  exact ih_45 σ y1 y2 (y3 + 1)  hp
                · have hp := hp.2 h
                  refine gz_aload_n K dX10_readsBehind_65 0 rfl ?_
                  refine gz_aload_n K dX10_readsBehind_66 0 rfl ?_
                  refine gz_get K (v := .ref (ad 59)) (by decide) (ce_43 _ _ _ _ _ _) rfl inz_X10 21 (by decide) zq5_52 rfl dX10_readsBehind_67 ?_
                  refine gz_iload K dX10_readsBehind_70 4 rfl ?_
                  obtain ⟨h, hp⟩ := hp
                  refine gz_iald K (by decide) (ce_59 _ _ _ _ _ _) h dX10_readsBehind_72 ?_
                  refine gz_callV K hex (c_X10_comes K.2.2.2.2.2 K.2.2.1 hp) cf_X10_comes zq5_202 (by decide) (ce_43 _ _ _ _ _ _) rfl dX10_readsBehind_73 rfl rfl (Nat.le_of_ble_eq_true rfl) ⟨Nat.le_of_ble_eq_true rfl, Nat.le_of_ble_eq_true rfl⟩ ⟨Nat.le_of_ble_eq_true rfl, Nat.le_of_ble_eq_true rfl⟩ (Nat.le_of_ble_eq_true rfl) (Nat.le_of_ble_eq_true rfl) (fun _ _ h => h.elim) (fun _ τ73 hp => ?_)
                  refine gz_norm (st' := []) (cells' := 0) (slots' := 0) rfl rfl rfl ?_
                  refine gz_iinc K (v := (y4 + 1)) [(4, .int (y4 + 1)), (0, .ref (ad 43)), (1, .int y1), (2, .int y2), (3, .int y3)] dX10_readsBehind_76 4 rfl (by first | rfl | decide) (by decide) rfl ?_
                  refine gz_goto K 59 dX10_readsBehind_79 (by decide) ?_
                  refine gz_sub [1, 2, 3, 4, 0] rfl ?_
                  exact ih_59 τ73 y1 y2 y3 (y4 + 1)  hp
            obtain ⟨n, hp⟩ := hp
            exact ll_59 n σ y1 y2 y3 y1  hp
      obtain ⟨n, hp⟩ := hp
      exact ll_45 n σ y1 (gz_i σ 43 22) (1 : Int32)  hp
  show Gz p l e r_X10_readsBehind s m args below meth c D ad ty 5 0 0 (Ez below D ad ty nV0 (fun _ τ => post τ) (fun _ _ => False) args s 0 0) σ 0 [(0, .ref (ad 43)), (1, .int x1)] []
  refine gz_aload_n K dX10_readsBehind_0 0 rfl ?_
  refine gz_callV K hex (c_X10_here K.2.2.2.2.2 K.2.2.1 hp) cf_X10_here zq5_173 (by decide) (ce_43 _ _ _ _ _ _) rfl dX10_readsBehind_1 rfl rfl (Nat.le_of_ble_eq_true rfl) ⟨Nat.le_of_ble_eq_true rfl, Nat.le_of_ble_eq_true rfl⟩ ⟨Nat.le_of_ble_eq_true rfl, Nat.le_of_ble_eq_true rfl⟩ (Nat.le_of_ble_eq_true rfl) (Nat.le_of_ble_eq_true rfl) (fun _ _ h => h.elim) (fun r1 τ hp => ?_)
  obtain ⟨rfl, hp⟩ := hp
  refine gz_norm (st' := [.int r1]) (cells' := 0) (slots' := 0) rfl rfl rfl ?_
  refine gz_bipush K (v := (39 : Int32)) dX10_readsBehind_4 (by decide) ?_
  refine gz_icmp_ne K 24 dX10_readsBehind_6 (by decide) (fun h => ?_) (fun h => ?_)
  · have hp := hp.1 h
    exact bb_24 σ x1  hp
  · have hp := hp.2 h
    refine gz_aload_n K dX10_readsBehind_9 0 rfl ?_
    refine gz_iload_n K dX10_readsBehind_10 1 rfl ?_
    refine gz_callV K hex (c_X10_turns K.2.2.2.2.2 K.2.2.1 hp) cf_X10_turns zq5_214 (by decide) (ce_43 _ _ _ _ _ _) rfl dX10_readsBehind_11 rfl rfl (Nat.le_of_ble_eq_true rfl) ⟨Nat.le_of_ble_eq_true rfl, Nat.le_of_ble_eq_true rfl⟩ ⟨Nat.le_of_ble_eq_true rfl, Nat.le_of_ble_eq_true rfl⟩ (Nat.le_of_ble_eq_true rfl) (Nat.le_of_ble_eq_true rfl) (fun _ _ h => h.elim) (fun _ τ11 hp => ?_)
    refine gz_norm (st' := []) (cells' := 0) (slots' := 0) rfl rfl rfl ?_
    refine gz_aload_n K dX10_readsBehind_14 0 rfl ?_
    refine gz_dup K dX10_readsBehind_15 rfl ?_
    refine gz_get K (v := .int (gz_i τ11 43 18)) (by decide) (ce_43 _ _ _ _ _ _) rfl inz_X10 18 (by decide) zq5_49 rfl dX10_readsBehind_16 ?_
    refine gz_iconst K (v := (1 : Int32)) dX10_readsBehind_19 (by decide) ?_
    refine gz_iadd K dX10_readsBehind_20 ?_
    refine gz_put K (x := ((gz_i τ11 43 18) + (1 : Int32))) (by decide) (ce_43 _ _ _ _ _ _) rfl inz_X10 tyX10 tyX10_ok nmX10 18 (by decide) zq5_49 rfl (tyX10_ok _ (by decide)) rfl rfl (Nat.le_of_ble_eq_true rfl) peX10_18 dX10_readsBehind_21 ?_
    exact bb_24 (sz_i τ11 43 18 ((gz_i τ11 43 18) + (1 : Int32))) x1  hp
set_option maxRecDepth 100000 in
set_option maxHeartbeats 4000000 in
theorem c_X10_keeps {l : Launch} {D : va_G} {ad : Nat → Nat} {ty : Nat → ClassId} (hl : l.stackTraces = false) (hj : ∀ i j, i < 68 → j < 68 → ad i = ad j → i = j) {σ : Dz} {x1 : Int32} {post : Int32 → Dz → Prop} (hp : P_X10_keeps σ x1 post) : Mz l D ad ty yX10_keeps cX10_keeps 3 (some .int) r_X10_keeps nI0 σ [.ref (ad 43), .int x1] post (fun _ _ => False) := by
  refine mz_of (by decide) hl hj (Nat.le_of_ble_eq_true rfl) ?_
  intro p e s m args below meth c K hex hr
  unfold P_X10_keeps at hp
  show Gz p l e r_X10_keeps s m args below meth c D ad ty 3 0 0 (Ez below D ad ty nI0 post (fun _ _ => False) args s 0 0) σ 0 [(0, .ref (ad 43)), (1, .int x1)] []
  refine gz_aload_n K dX10_keeps_0 0 rfl ?_
  refine gz_get K (v := .ref (ad 47)) (by decide) (ce_43 _ _ _ _ _ _) rfl inz_X10 5 (by decide) zq5_36 rfl dX10_keeps_1 ?_
  refine gz_iload_n K dX10_keeps_4 1 rfl ?_
  refine gz_aload_n K dX10_keeps_5 0 rfl ?_
  refine gz_get K (v := .int (gz_i σ 43 22)) (by decide) (ce_43 _ _ _ _ _ _) rfl inz_X10 22 (by decide) zq5_53 rfl dX10_keeps_6 ?_
  obtain ⟨h, hp⟩ := hp
  refine gz_iast K (x := (gz_i σ 43 22)) (by decide) (ce_47 ad ty) h dX10_keeps_9 ?_
  refine gz_iconst K (v := (0 : Int32)) dX10_keeps_10 (by decide) ?_
  refine gz_istore_n K [(2, .int (0 : Int32)), (0, .ref (ad 43)), (1, .int x1)] dX10_keeps_11 (by decide) rfl ?_
  refine gz_sub [1, 2, 0] rfl ?_
  have ll_12 : ∀ (n_12 : Nat) (σ : Dz) (y1 : Int32) (y2 : Int32) , L_X10_keeps_12 post  n_12 σ y1 y2 → Gz p l e r_X10_keeps s m args below meth c D ad ty 3 0 0 (Ez below D ad ty nI0 post (fun _ _ => False) args s 0 0) σ 12 [(0, .ref (ad 43)), (1, .int y1), (2, .int y2)] [] := by
    intro n_12; induction n_12 with
    | zero => intro σ y1 y2 hp; exact False.elim hp
    | succ n_12 ih_12 =>
      intro σ y1 y2 hp
      have hp : B_X10_keeps_12 post  (L_X10_keeps_12 post  n_12) σ y1 y2 := hp
      unfold B_X10_keeps_12 at hp
      refine gz_iload_n K dX10_keeps_12 2 rfl ?_
      refine gz_aload_n K dX10_keeps_13 0 rfl ?_
      refine gz_get K (v := .int (gz_i σ 43 22)) (by decide) (ce_43 _ _ _ _ _ _) rfl inz_X10 22 (by decide) zq5_53 rfl dX10_keeps_14 ?_
      refine gz_icmp_ge K 44 dX10_keeps_17 (by decide) (fun h => ?_) (fun h => ?_)
      · have hp := hp.1 h
        refine gz_aload_n K dX10_keeps_44 0 rfl ?_
        refine gz_aload_n K dX10_keeps_45 0 rfl ?_
        refine gz_get K (v := .int (gz_i σ 43 22)) (by decide) (ce_43 _ _ _ _ _ _) rfl inz_X10 22 (by decide) zq5_53 rfl dX10_keeps_46 ?_
        refine gz_callV K hex (c_X10_done K.2.2.2.2.2 K.2.2.1 hp) cf_X10_done zq5_153 (by decide) (ce_43 _ _ _ _ _ _) rfl dX10_keeps_49 rfl rfl (Nat.le_of_ble_eq_true rfl) ⟨Nat.le_of_ble_eq_true rfl, Nat.le_of_ble_eq_true rfl⟩ ⟨Nat.le_of_ble_eq_true rfl, Nat.le_of_ble_eq_true rfl⟩ (Nat.le_of_ble_eq_true rfl) (Nat.le_of_ble_eq_true rfl) (fun _ _ h => h.elim) (fun r49 τ49 hp => ?_)
        refine gz_norm (st' := [.int r49]) (cells' := 0) (slots' := 0) rfl rfl rfl ?_
        exact gz_iret K hr hp dX10_keeps_52 (Nat.le_of_ble_eq_true rfl) (Nat.le_of_ble_eq_true rfl)
      · have hp := hp.2 h
        refine gz_aload_n K dX10_keeps_20 0 rfl ?_
        refine gz_get K (v := .ref (ad 48)) (by decide) (ce_43 _ _ _ _ _ _) rfl inz_X10 6 (by decide) zq5_37 rfl dX10_keeps_21 ?_
        refine gz_sipush K (v := (200 : Int32)) dX10_keeps_24 (by decide) ?_
        refine gz_iload_n K dX10_keeps_27 1 rfl ?_
        refine gz_imul K dX10_keeps_28 ?_
        refine gz_iload_n K dX10_keeps_29 2 rfl ?_
        refine gz_iadd K dX10_keeps_30 ?_
        refine gz_aload_n K dX10_keeps_31 0 rfl ?_
        refine gz_get K (v := .ref (ad 59)) (by decide) (ce_43 _ _ _ _ _ _) rfl inz_X10 21 (by decide) zq5_52 rfl dX10_keeps_32 ?_
        refine gz_iload_n K dX10_keeps_35 2 rfl ?_
        obtain ⟨h, hp⟩ := hp
        refine gz_iald K (by decide) (ce_59 _ _ _ _ _ _) h dX10_keeps_36 ?_
        obtain ⟨h, hp⟩ := hp
        refine gz_iast K (x := (gz_i σ 59 (y2).toNatClampNeg)) (by decide) (ce_48 ad ty) h dX10_keeps_37 ?_
        refine gz_iinc K (v := (y2 + 1)) [(2, .int (y2 + 1)), (0, .ref (ad 43)), (1, .int y1)] dX10_keeps_38 2 rfl (by first | rfl | decide) (by decide) rfl ?_
        refine gz_goto K 12 dX10_keeps_41 (by decide) ?_
        refine gz_sub [1, 2, 0] rfl ?_
        exact ih_12 (sz_i σ 48 ((((200 : Int32) * y1) + y2)).toNatClampNeg (gz_i σ 59 (y2).toNatClampNeg)) y1 (y2 + 1)  hp
  obtain ⟨n, hp⟩ := hp
  exact ll_12 n (sz_i σ 47 (x1).toNatClampNeg (gz_i σ 43 22)) x1 (0 : Int32)  hp
set_option maxRecDepth 100000 in
set_option maxHeartbeats 4000000 in
theorem c_X10_clears {l : Launch} {D : va_G} {ad : Nat → Nat} {ty : Nat → ClassId} (hl : l.stackTraces = false) (hj : ∀ i j, i < 68 → j < 68 → ad i = ad j → i = j) {σ : Dz} {post : Dz → Prop} (hp : P_X10_clears σ post) : Mz l D ad ty yX10_clears cX10_clears 1 none r_X10_clears nV0 σ [.ref (ad 43)] (fun _ τ => post τ) (fun _ _ => False) := by
  refine mz_of (by decide) hl hj (Nat.le_of_ble_eq_true rfl) ?_
  intro p e s m args below meth c K hex hr
  unfold P_X10_clears at hp
  show Gz p l e r_X10_clears s m args below meth c D ad ty 1 0 0 (Ez below D ad ty nV0 (fun _ τ => post τ) (fun _ _ => False) args s 0 0) σ 0 [(0, .ref (ad 43))] []
  refine gz_aload_n K dX10_clears_0 0 rfl ?_
  refine gz_iconst K (v := (0 : Int32)) dX10_clears_1 (by decide) ?_
  refine gz_put K (x := (0 : Int32)) (by decide) (ce_43 _ _ _ _ _ _) rfl inz_X10 tyX10 tyX10_ok nmX10 22 (by decide) zq5_53 rfl (tyX10_ok _ (by decide)) rfl rfl (Nat.le_of_ble_eq_true rfl) peX10_22 dX10_clears_2 ?_
  refine gz_aload_n K dX10_clears_5 0 rfl ?_
  refine gz_iconst K (v := (0 : Int32)) dX10_clears_6 (by decide) ?_
  refine gz_put K (x := (0 : Int32)) (by decide) (ce_43 _ _ _ _ _ _) rfl inz_X10 tyX10 tyX10_ok nmX10 23 (by decide) zq5_54 rfl (tyX10_ok _ (by decide)) rfl rfl (Nat.le_of_ble_eq_true rfl) peX10_23 dX10_clears_7 ?_
  refine gz_aload_n K dX10_clears_10 0 rfl ?_
  refine gz_iconst K (v := (0 : Int32)) dX10_clears_11 (by decide) ?_
  refine gz_put K (x := (0 : Int32)) (by decide) (ce_43 _ _ _ _ _ _) rfl inz_X10 tyX10 tyX10_ok nmX10 24 (by decide) zq5_55 rfl (tyX10_ok _ (by decide)) rfl rfl (Nat.le_of_ble_eq_true rfl) peX10_24 dX10_clears_12 ?_
  refine gz_aload_n K dX10_clears_15 0 rfl ?_
  refine gz_iconst K (v := (0 : Int32)) dX10_clears_16 (by decide) ?_
  refine gz_put K (x := (0 : Int32)) (by decide) (ce_43 _ _ _ _ _ _) rfl inz_X10 tyX10 tyX10_ok nmX10 25 (by decide) zq5_56 rfl (tyX10_ok _ (by decide)) rfl rfl (Nat.le_of_ble_eq_true rfl) peX10_25 dX10_clears_17 ?_
  exact gz_vret K hr hp dX10_clears_20 (Nat.le_of_ble_eq_true rfl) (Nat.le_of_ble_eq_true rfl)
set_option maxRecDepth 100000 in
set_option maxHeartbeats 4000000 in
theorem c_X10_errorPosition {l : Launch} {D : va_G} {ad : Nat → Nat} {ty : Nat → ClassId} (hl : l.stackTraces = false) (hj : ∀ i j, i < 68 → j < 68 → ad i = ad j → i = j) {σ : Dz} {post : Int32 → Dz → Prop} (hp : P_X10_errorPosition σ post) : Mz l D ad ty yX10_errorPosition cX10_errorPosition 1 (some .int) r_X10_errorPosition nI0 σ [.ref (ad 43)] post (fun _ _ => False) := by
  refine mz_of (by decide) hl hj (Nat.le_of_ble_eq_true rfl) ?_
  intro p e s m args below meth c K hex hr
  unfold P_X10_errorPosition at hp
  show Gz p l e r_X10_errorPosition s m args below meth c D ad ty 1 0 0 (Ez below D ad ty nI0 post (fun _ _ => False) args s 0 0) σ 0 [(0, .ref (ad 43))] []
  refine gz_aload_n K dX10_errorPosition_0 0 rfl ?_
  refine gz_get K (v := .int (gz_i σ 43 9)) (by decide) (ce_43 _ _ _ _ _ _) rfl inz_X10 9 (by decide) zq5_40 rfl dX10_errorPosition_1 ?_
  refine gz_iconst K (v := (-1 : Int32)) dX10_errorPosition_4 (by decide) ?_
  refine gz_icmp_ne K 16 dX10_errorPosition_5 (by decide) (fun h => ?_) (fun h => ?_)
  · have hp := hp.1 h
    refine gz_aload_n K dX10_errorPosition_16 0 rfl ?_
    refine gz_aload_n K dX10_errorPosition_17 0 rfl ?_
    refine gz_get K (v := .int (gz_i σ 43 9)) (by decide) (ce_43 _ _ _ _ _ _) rfl inz_X10 9 (by decide) zq5_40 rfl dX10_errorPosition_18 ?_
    refine gz_callV K hex (c_X10_done K.2.2.2.2.2 K.2.2.1 hp) cf_X10_done zq5_153 (by decide) (ce_43 _ _ _ _ _ _) rfl dX10_errorPosition_21 rfl rfl (Nat.le_of_ble_eq_true rfl) ⟨Nat.le_of_ble_eq_true rfl, Nat.le_of_ble_eq_true rfl⟩ ⟨Nat.le_of_ble_eq_true rfl, Nat.le_of_ble_eq_true rfl⟩ (Nat.le_of_ble_eq_true rfl) (Nat.le_of_ble_eq_true rfl) (fun _ _ h => h.elim) (fun r21 τ21 hp => ?_)
    refine gz_norm (st' := [.int r21]) (cells' := 0) (slots' := 0) rfl rfl rfl ?_
    exact gz_iret K hr hp dX10_errorPosition_24 (Nat.le_of_ble_eq_true rfl) (Nat.le_of_ble_eq_true rfl)
  · have hp := hp.2 h
    refine gz_aload_n K dX10_errorPosition_8 0 rfl ?_
    refine gz_iconst K (v := (1 : Int32)) dX10_errorPosition_9 (by decide) ?_
    refine gz_callV K hex (c_X10_fails K.2.2.2.2.2 K.2.2.1 hp) cf_X10_fails zq5_149 (by decide) (ce_43 _ _ _ _ _ _) rfl dX10_errorPosition_10 rfl rfl (Nat.le_of_ble_eq_true rfl) ⟨Nat.le_of_ble_eq_true rfl, Nat.le_of_ble_eq_true rfl⟩ ⟨Nat.le_of_ble_eq_true rfl, Nat.le_of_ble_eq_true rfl⟩ (Nat.le_of_ble_eq_true rfl) (Nat.le_of_ble_eq_true rfl) (fun _ _ h => h.elim) (fun r10 τ10 hp => ?_)
    refine gz_norm (st' := [.int r10]) (cells' := 0) (slots' := 0) rfl rfl rfl ?_
    refine gz_goto K 24 dX10_errorPosition_13 (by decide) ?_
    exact gz_iret K hr hp dX10_errorPosition_24 (Nat.le_of_ble_eq_true rfl) (Nat.le_of_ble_eq_true rfl)
set_option maxRecDepth 100000 in
set_option maxHeartbeats 4000000 in
theorem c_X10_target {l : Launch} {D : va_G} {ad : Nat → Nat} {ty : Nat → ClassId} (hl : l.stackTraces = false) (hj : ∀ i j, i < 68 → j < 68 → ad i = ad j → i = j) {σ : Dz} {x1 : Int32} {x2 : Int32} {post : Int32 → Dz → Prop} (hp : P_X10_target σ x1 x2 post) : Mz l D ad ty yX10_target cX10_target 3 (some .int) r_X10_target nI0 σ [.ref (ad 43), .int x1, .int x2] post (fun _ _ => False) := by
  refine mz_of (by decide) hl hj (Nat.le_of_ble_eq_true rfl) ?_
  intro p e s m args below meth c K hex hr
  unfold P_X10_target at hp
  show Gz p l e r_X10_target s m args below meth c D ad ty 3 0 0 (Ez below D ad ty nI0 post (fun _ _ => False) args s 0 0) σ 0 [(0, .ref (ad 43)), (1, .int x1), (2, .int x2)] []
  refine gz_iload_n K dX10_target_0 1 rfl ?_
  refine gz_iconst K (v := (0 : Int32)) dX10_target_1 (by decide) ?_
  refine gz_iconst K (v := (4 : Int32)) dX10_target_2 (by decide) ?_
  refine gz_callS K hex (c_X10_in K.2.2.2.2.2 K.2.2.1 hp) cf_X10_in zq5_146 dX10_target_3 rfl rfl (Nat.le_of_ble_eq_true rfl) ⟨Nat.le_of_ble_eq_true rfl, Nat.le_of_ble_eq_true rfl⟩ ⟨Nat.le_of_ble_eq_true rfl, Nat.le_of_ble_eq_true rfl⟩ (Nat.le_of_ble_eq_true rfl) (Nat.le_of_ble_eq_true rfl) (fun _ _ h => h.elim) (fun r3 τ hp => ?_)
  obtain ⟨rfl, hp⟩ := hp
  refine gz_norm (st' := [.int r3]) (cells' := 0) (slots' := 0) rfl rfl rfl ?_
  refine gz_if_eq K 17 dX10_target_6 (by decide) (fun h => ?_) (fun h => ?_)
  · have hp := hp.1 h
    refine gz_aload_n K dX10_target_17 0 rfl ?_
    refine gz_iconst K (v := (1 : Int32)) dX10_target_18 (by decide) ?_
    refine gz_callV K hex (c_X10_fails K.2.2.2.2.2 K.2.2.1 hp) cf_X10_fails zq5_149 (by decide) (ce_43 _ _ _ _ _ _) rfl dX10_target_19 rfl rfl (Nat.le_of_ble_eq_true rfl) ⟨Nat.le_of_ble_eq_true rfl, Nat.le_of_ble_eq_true rfl⟩ ⟨Nat.le_of_ble_eq_true rfl, Nat.le_of_ble_eq_true rfl⟩ (Nat.le_of_ble_eq_true rfl) (Nat.le_of_ble_eq_true rfl) (fun _ _ h => h.elim) (fun r19 τ19 hp => ?_)
    refine gz_norm (st' := [.int r19]) (cells' := 0) (slots' := 0) rfl rfl rfl ?_
    exact gz_iret K hr hp dX10_target_22 (Nat.le_of_ble_eq_true rfl) (Nat.le_of_ble_eq_true rfl)
  · have hp := hp.2 h
    refine gz_aload_n K dX10_target_9 0 rfl ?_
    refine gz_iload_n K dX10_target_10 2 rfl ?_
    refine gz_callV K hex (c_X10_isPosition K.2.2.2.2.2 K.2.2.1 hp) cf_X10_isPosition zq5_181 (by decide) (ce_43 _ _ _ _ _ _) rfl dX10_target_11 rfl rfl (Nat.le_of_ble_eq_true rfl) ⟨Nat.le_of_ble_eq_true rfl, Nat.le_of_ble_eq_true rfl⟩ ⟨Nat.le_of_ble_eq_true rfl, Nat.le_of_ble_eq_true rfl⟩ (Nat.le_of_ble_eq_true rfl) (Nat.le_of_ble_eq_true rfl) (fun _ _ h => h.elim) (fun r11 τ hp => ?_)
    obtain ⟨rfl, hp⟩ := hp
    refine gz_norm (st' := [.int r11]) (cells' := 0) (slots' := 0) rfl rfl rfl ?_
    refine gz_if_ne K 23 dX10_target_14 (by decide) (fun h => ?_) (fun h => ?_)
    · have hp := hp.1 h
      refine gz_aload_n K dX10_target_23 0 rfl ?_
      refine gz_get K (v := .ref (ad 45)) (by decide) (ce_43 _ _ _ _ _ _) rfl inz_X10 3 (by decide) zq5_34 rfl dX10_target_24 ?_
      refine gz_iload_n K dX10_target_27 1 rfl ?_
      obtain ⟨h, hp⟩ := hp
      refine gz_zald K (by decide) (ce_45 _ _ _ _ _ _) h dX10_target_28 ?_
      refine gz_if_eq K 50 dX10_target_29 (by decide) (fun h => ?_) (fun h => ?_)
      · have hp := hp.1 h
        refine gz_aload_n K dX10_target_50 0 rfl ?_
        refine gz_iconst K (v := (2 : Int32)) dX10_target_51 (by decide) ?_
        refine gz_callV K hex (c_X10_fails K.2.2.2.2.2 K.2.2.1 hp) cf_X10_fails zq5_149 (by decide) (ce_43 _ _ _ _ _ _) rfl dX10_target_52 rfl rfl (Nat.le_of_ble_eq_true rfl) ⟨Nat.le_of_ble_eq_true rfl, Nat.le_of_ble_eq_true rfl⟩ ⟨Nat.le_of_ble_eq_true rfl, Nat.le_of_ble_eq_true rfl⟩ (Nat.le_of_ble_eq_true rfl) (Nat.le_of_ble_eq_true rfl) (fun _ _ h => h.elim) (fun r52 τ52 hp => ?_)
        refine gz_norm (st' := [.int r52]) (cells' := 0) (slots' := 0) rfl rfl rfl ?_
        exact gz_iret K hr hp dX10_target_55 (Nat.le_of_ble_eq_true rfl) (Nat.le_of_ble_eq_true rfl)
      · have hp := hp.2 h
        refine gz_aload_n K dX10_target_32 0 rfl ?_
        refine gz_aload_n K dX10_target_33 0 rfl ?_
        refine gz_get K (v := .ref (ad 46)) (by decide) (ce_43 _ _ _ _ _ _) rfl inz_X10 4 (by decide) zq5_35 rfl dX10_target_34 ?_
        refine gz_bipush K (v := (16 : Int32)) dX10_target_37 (by decide) ?_
        refine gz_iload_n K dX10_target_39 1 rfl ?_
        refine gz_imul K dX10_target_40 ?_
        refine gz_iload_n K dX10_target_41 2 rfl ?_
        refine gz_iadd K dX10_target_42 ?_
        obtain ⟨h, hp⟩ := hp
        refine gz_iald K (by decide) (ce_46 _ _ _ _ _ _) h dX10_target_43 ?_
        refine gz_callV K hex (c_X10_done K.2.2.2.2.2 K.2.2.1 hp) cf_X10_done zq5_153 (by decide) (ce_43 _ _ _ _ _ _) rfl dX10_target_44 rfl rfl (Nat.le_of_ble_eq_true rfl) ⟨Nat.le_of_ble_eq_true rfl, Nat.le_of_ble_eq_true rfl⟩ ⟨Nat.le_of_ble_eq_true rfl, Nat.le_of_ble_eq_true rfl⟩ (Nat.le_of_ble_eq_true rfl) (Nat.le_of_ble_eq_true rfl) (fun _ _ h => h.elim) (fun r44 τ44 hp => ?_)
        refine gz_norm (st' := [.int r44]) (cells' := 0) (slots' := 0) rfl rfl rfl ?_
        refine gz_goto K 55 dX10_target_47 (by decide) ?_
        exact gz_iret K hr hp dX10_target_55 (Nat.le_of_ble_eq_true rfl) (Nat.le_of_ble_eq_true rfl)
    · have hp := hp.2 h
      refine gz_aload_n K dX10_target_17 0 rfl ?_
      refine gz_iconst K (v := (1 : Int32)) dX10_target_18 (by decide) ?_
      refine gz_callV K hex (c_X10_fails K.2.2.2.2.2 K.2.2.1 hp) cf_X10_fails zq5_149 (by decide) (ce_43 _ _ _ _ _ _) rfl dX10_target_19 rfl rfl (Nat.le_of_ble_eq_true rfl) ⟨Nat.le_of_ble_eq_true rfl, Nat.le_of_ble_eq_true rfl⟩ ⟨Nat.le_of_ble_eq_true rfl, Nat.le_of_ble_eq_true rfl⟩ (Nat.le_of_ble_eq_true rfl) (Nat.le_of_ble_eq_true rfl) (fun _ _ h => h.elim) (fun r19 τ19 hp => ?_)
      refine gz_norm (st' := [.int r19]) (cells' := 0) (slots' := 0) rfl rfl rfl ?_
      exact gz_iret K hr hp dX10_target_22 (Nat.le_of_ble_eq_true rfl) (Nat.le_of_ble_eq_true rfl)
set_option maxRecDepth 100000 in
set_option maxHeartbeats 4000000 in
theorem c_X10_wordLength {l : Launch} {D : va_G} {ad : Nat → Nat} {ty : Nat → ClassId} (hl : l.stackTraces = false) (hj : ∀ i j, i < 68 → j < 68 → ad i = ad j → i = j) {σ : Dz} {x1 : Int32} {post : Int32 → Dz → Prop} (hp : P_X10_wordLength σ x1 post) : Mz l D ad ty yX10_wordLength cX10_wordLength 2 (some .int) r_X10_wordLength nI0 σ [.ref (ad 43), .int x1] post (fun _ _ => False) := by
  refine mz_of (by decide) hl hj (Nat.le_of_ble_eq_true rfl) ?_
  intro p e s m args below meth c K hex hr
  unfold P_X10_wordLength at hp
  show Gz p l e r_X10_wordLength s m args below meth c D ad ty 2 0 0 (Ez below D ad ty nI0 post (fun _ _ => False) args s 0 0) σ 0 [(0, .ref (ad 43)), (1, .int x1)] []
  refine gz_iload_n K dX10_wordLength_0 1 rfl ?_
  refine gz_callS K hex (c_X10_isSlot K.2.2.2.2.2 K.2.2.1 hp) cf_X10_isSlot zq5_189 dX10_wordLength_1 rfl rfl (Nat.le_of_ble_eq_true rfl) ⟨Nat.le_of_ble_eq_true rfl, Nat.le_of_ble_eq_true rfl⟩ ⟨Nat.le_of_ble_eq_true rfl, Nat.le_of_ble_eq_true rfl⟩ (Nat.le_of_ble_eq_true rfl) (Nat.le_of_ble_eq_true rfl) (fun _ _ h => h.elim) (fun r1 τ hp => ?_)
  obtain ⟨rfl, hp⟩ := hp
  refine gz_norm (st' := [.int r1]) (cells' := 0) (slots' := 0) rfl rfl rfl ?_
  refine gz_if_eq K 20 dX10_wordLength_4 (by decide) (fun h => ?_) (fun h => ?_)
  · have hp := hp.1 h
    refine gz_aload_n K dX10_wordLength_20 0 rfl ?_
    refine gz_iconst K (v := (1 : Int32)) dX10_wordLength_21 (by decide) ?_
    refine gz_callV K hex (c_X10_fails K.2.2.2.2.2 K.2.2.1 hp) cf_X10_fails zq5_149 (by decide) (ce_43 _ _ _ _ _ _) rfl dX10_wordLength_22 rfl rfl (Nat.le_of_ble_eq_true rfl) ⟨Nat.le_of_ble_eq_true rfl, Nat.le_of_ble_eq_true rfl⟩ ⟨Nat.le_of_ble_eq_true rfl, Nat.le_of_ble_eq_true rfl⟩ (Nat.le_of_ble_eq_true rfl) (Nat.le_of_ble_eq_true rfl) (fun _ _ h => h.elim) (fun r22 τ22 hp => ?_)
    refine gz_norm (st' := [.int r22]) (cells' := 0) (slots' := 0) rfl rfl rfl ?_
    exact gz_iret K hr hp dX10_wordLength_25 (Nat.le_of_ble_eq_true rfl) (Nat.le_of_ble_eq_true rfl)
  · have hp := hp.2 h
    refine gz_aload_n K dX10_wordLength_7 0 rfl ?_
    refine gz_aload_n K dX10_wordLength_8 0 rfl ?_
    refine gz_get K (v := .ref (ad 47)) (by decide) (ce_43 _ _ _ _ _ _) rfl inz_X10 5 (by decide) zq5_36 rfl dX10_wordLength_9 ?_
    refine gz_iload_n K dX10_wordLength_12 1 rfl ?_
    obtain ⟨h, hp⟩ := hp
    refine gz_iald K (by decide) (ce_47 _ _ _ _ _ _) h dX10_wordLength_13 ?_
    refine gz_callV K hex (c_X10_done K.2.2.2.2.2 K.2.2.1 hp) cf_X10_done zq5_153 (by decide) (ce_43 _ _ _ _ _ _) rfl dX10_wordLength_14 rfl rfl (Nat.le_of_ble_eq_true rfl) ⟨Nat.le_of_ble_eq_true rfl, Nat.le_of_ble_eq_true rfl⟩ ⟨Nat.le_of_ble_eq_true rfl, Nat.le_of_ble_eq_true rfl⟩ (Nat.le_of_ble_eq_true rfl) (Nat.le_of_ble_eq_true rfl) (fun _ _ h => h.elim) (fun r14 τ14 hp => ?_)
    refine gz_norm (st' := [.int r14]) (cells' := 0) (slots' := 0) rfl rfl rfl ?_
    refine gz_goto K 25 dX10_wordLength_17 (by decide) ?_
    exact gz_iret K hr hp dX10_wordLength_25 (Nat.le_of_ble_eq_true rfl) (Nat.le_of_ble_eq_true rfl)
set_option maxRecDepth 100000 in
set_option maxHeartbeats 4000000 in
theorem c_X10_letter {l : Launch} {D : va_G} {ad : Nat → Nat} {ty : Nat → ClassId} (hl : l.stackTraces = false) (hj : ∀ i j, i < 68 → j < 68 → ad i = ad j → i = j) {σ : Dz} {x1 : Int32} {x2 : Int32} {post : Int32 → Dz → Prop} (hp : P_X10_letter σ x1 x2 post) : Mz l D ad ty yX10_letter cX10_letter 3 (some .int) r_X10_letter nI0 σ [.ref (ad 43), .int x1, .int x2] post (fun _ _ => False) := by
  refine mz_of (by decide) hl hj (Nat.le_of_ble_eq_true rfl) ?_
  intro p e s m args below meth c K hex hr
  unfold P_X10_letter at hp
  show Gz p l e r_X10_letter s m args below meth c D ad ty 3 0 0 (Ez below D ad ty nI0 post (fun _ _ => False) args s 0 0) σ 0 [(0, .ref (ad 43)), (1, .int x1), (2, .int x2)] []
  refine gz_iload_n K dX10_letter_0 1 rfl ?_
  refine gz_callS K hex (c_X10_isSlot K.2.2.2.2.2 K.2.2.1 hp) cf_X10_isSlot zq5_189 dX10_letter_1 rfl rfl (Nat.le_of_ble_eq_true rfl) ⟨Nat.le_of_ble_eq_true rfl, Nat.le_of_ble_eq_true rfl⟩ ⟨Nat.le_of_ble_eq_true rfl, Nat.le_of_ble_eq_true rfl⟩ (Nat.le_of_ble_eq_true rfl) (Nat.le_of_ble_eq_true rfl) (fun _ _ h => h.elim) (fun r1 τ hp => ?_)
  obtain ⟨rfl, hp⟩ := hp
  refine gz_norm (st' := [.int r1]) (cells' := 0) (slots' := 0) rfl rfl rfl ?_
  refine gz_if_eq K 23 dX10_letter_4 (by decide) (fun h => ?_) (fun h => ?_)
  · have hp := hp.1 h
    refine gz_aload_n K dX10_letter_23 0 rfl ?_
    refine gz_iconst K (v := (1 : Int32)) dX10_letter_24 (by decide) ?_
    refine gz_callV K hex (c_X10_fails K.2.2.2.2.2 K.2.2.1 hp) cf_X10_fails zq5_149 (by decide) (ce_43 _ _ _ _ _ _) rfl dX10_letter_25 rfl rfl (Nat.le_of_ble_eq_true rfl) ⟨Nat.le_of_ble_eq_true rfl, Nat.le_of_ble_eq_true rfl⟩ ⟨Nat.le_of_ble_eq_true rfl, Nat.le_of_ble_eq_true rfl⟩ (Nat.le_of_ble_eq_true rfl) (Nat.le_of_ble_eq_true rfl) (fun _ _ h => h.elim) (fun r25 τ25 hp => ?_)
    refine gz_norm (st' := [.int r25]) (cells' := 0) (slots' := 0) rfl rfl rfl ?_
    exact gz_iret K hr hp dX10_letter_28 (Nat.le_of_ble_eq_true rfl) (Nat.le_of_ble_eq_true rfl)
  · have hp := hp.2 h
    refine gz_iload_n K dX10_letter_7 2 rfl ?_
    refine gz_iconst K (v := (0 : Int32)) dX10_letter_8 (by decide) ?_
    refine gz_aload_n K dX10_letter_9 0 rfl ?_
    refine gz_get K (v := .ref (ad 47)) (by decide) (ce_43 _ _ _ _ _ _) rfl inz_X10 5 (by decide) zq5_36 rfl dX10_letter_10 ?_
    refine gz_iload_n K dX10_letter_13 1 rfl ?_
    obtain ⟨h, hp⟩ := hp
    refine gz_iald K (by decide) (ce_47 _ _ _ _ _ _) h dX10_letter_14 ?_
    refine gz_iconst K (v := (1 : Int32)) dX10_letter_15 (by decide) ?_
    refine gz_isub K dX10_letter_16 ?_
    refine gz_callS K hex (c_X10_in K.2.2.2.2.2 K.2.2.1 hp) cf_X10_in zq5_146 dX10_letter_17 rfl rfl (Nat.le_of_ble_eq_true rfl) ⟨Nat.le_of_ble_eq_true rfl, Nat.le_of_ble_eq_true rfl⟩ ⟨Nat.le_of_ble_eq_true rfl, Nat.le_of_ble_eq_true rfl⟩ (Nat.le_of_ble_eq_true rfl) (Nat.le_of_ble_eq_true rfl) (fun _ _ h => h.elim) (fun r17 τ hp => ?_)
    obtain ⟨rfl, hp⟩ := hp
    refine gz_norm (st' := [.int r17]) (cells' := 0) (slots' := 0) rfl rfl rfl ?_
    refine gz_if_ne K 29 dX10_letter_20 (by decide) (fun h => ?_) (fun h => ?_)
    · have hp := hp.1 h
      refine gz_aload_n K dX10_letter_29 0 rfl ?_
      refine gz_aload_n K dX10_letter_30 0 rfl ?_
      refine gz_get K (v := .ref (ad 48)) (by decide) (ce_43 _ _ _ _ _ _) rfl inz_X10 6 (by decide) zq5_37 rfl dX10_letter_31 ?_
      refine gz_sipush K (v := (200 : Int32)) dX10_letter_34 (by decide) ?_
      refine gz_iload_n K dX10_letter_37 1 rfl ?_
      refine gz_imul K dX10_letter_38 ?_
      refine gz_iload_n K dX10_letter_39 2 rfl ?_
      refine gz_iadd K dX10_letter_40 ?_
      obtain ⟨h, hp⟩ := hp
      refine gz_iald K (by decide) (ce_48 _ _ _ _ _ _) h dX10_letter_41 ?_
      refine gz_callV K hex (c_X10_done K.2.2.2.2.2 K.2.2.1 hp) cf_X10_done zq5_153 (by decide) (ce_43 _ _ _ _ _ _) rfl dX10_letter_42 rfl rfl (Nat.le_of_ble_eq_true rfl) ⟨Nat.le_of_ble_eq_true rfl, Nat.le_of_ble_eq_true rfl⟩ ⟨Nat.le_of_ble_eq_true rfl, Nat.le_of_ble_eq_true rfl⟩ (Nat.le_of_ble_eq_true rfl) (Nat.le_of_ble_eq_true rfl) (fun _ _ h => h.elim) (fun r42 τ42 hp => ?_)
      refine gz_norm (st' := [.int r42]) (cells' := 0) (slots' := 0) rfl rfl rfl ?_
      exact gz_iret K hr hp dX10_letter_45 (Nat.le_of_ble_eq_true rfl) (Nat.le_of_ble_eq_true rfl)
    · have hp := hp.2 h
      refine gz_aload_n K dX10_letter_23 0 rfl ?_
      refine gz_iconst K (v := (1 : Int32)) dX10_letter_24 (by decide) ?_
      refine gz_callV K hex (c_X10_fails K.2.2.2.2.2 K.2.2.1 hp) cf_X10_fails zq5_149 (by decide) (ce_43 _ _ _ _ _ _) rfl dX10_letter_25 rfl rfl (Nat.le_of_ble_eq_true rfl) ⟨Nat.le_of_ble_eq_true rfl, Nat.le_of_ble_eq_true rfl⟩ ⟨Nat.le_of_ble_eq_true rfl, Nat.le_of_ble_eq_true rfl⟩ (Nat.le_of_ble_eq_true rfl) (Nat.le_of_ble_eq_true rfl) (fun _ _ h => h.elim) (fun r25 τ25 hp => ?_)
      refine gz_norm (st' := [.int r25]) (cells' := 0) (slots' := 0) rfl rfl rfl ?_
      exact gz_iret K hr hp dX10_letter_28 (Nat.le_of_ble_eq_true rfl) (Nat.le_of_ble_eq_true rfl)
set_option maxRecDepth 100000 in
set_option maxHeartbeats 4000000 in
theorem c_X10_comesWord {l : Launch} {D : va_G} {ad : Nat → Nat} {ty : Nat → ClassId} (hl : l.stackTraces = false) (hj : ∀ i j, i < 68 → j < 68 → ad i = ad j → i = j) {σ : Dz} {x1 : Int32} {x2 : Int32} {post : Dz → Prop} (hp : P_X10_comesWord σ x1 x2 post) : Mz l D ad ty yX10_comesWord cX10_comesWord 5 none r_X10_comesWord nV0 σ [.ref (ad 43), .int x1, .int x2] (fun _ τ => post τ) (fun _ _ => False) := by
  refine mz_of (by decide) hl hj (Nat.le_of_ble_eq_true rfl) ?_
  intro p e s m args below meth c K hex hr
  unfold P_X10_comesWord at hp
  show Gz p l e r_X10_comesWord s m args below meth c D ad ty 5 0 0 (Ez below D ad ty nV0 (fun _ τ => post τ) (fun _ _ => False) args s 0 0) σ 0 [(0, .ref (ad 43)), (1, .int x1), (2, .int x2)] []
  refine gz_aload_n K dX10_comesWord_0 0 rfl ?_
  refine gz_get K (v := .ref (ad 47)) (by decide) (ce_43 _ _ _ _ _ _) rfl inz_X10 5 (by decide) zq5_36 rfl dX10_comesWord_1 ?_
  refine gz_iload_n K dX10_comesWord_4 1 rfl ?_
  obtain ⟨h, hp⟩ := hp
  refine gz_iald K (by decide) (ce_47 _ _ _ _ _ _) h dX10_comesWord_5 ?_
  refine gz_istore_n K [(3, .int (gz_i σ 47 (x1).toNatClampNeg)), (0, .ref (ad 43)), (1, .int x1), (2, .int x2)] dX10_comesWord_6 (by decide) rfl ?_
  refine gz_iconst K (v := (0 : Int32)) dX10_comesWord_7 (by decide) ?_
  refine gz_istore K [(4, .int (0 : Int32)), (3, .int (gz_i σ 47 (x1).toNatClampNeg)), (0, .ref (ad 43)), (1, .int x1), (2, .int x2)] dX10_comesWord_8 (by decide) rfl ?_
  refine gz_sub [2, 3, 4, 1, 0] rfl ?_
  have ll_10 : ∀ (n_10 : Nat) (σ : Dz) (y1 : Int32) (y2 : Int32) (y3 : Int32) (y4 : Int32) , L_X10_comesWord_10 post  n_10 σ y1 y2 y3 y4 → Gz p l e r_X10_comesWord s m args below meth c D ad ty 5 0 0 (Ez below D ad ty nV0 (fun _ τ => post τ) (fun _ _ => False) args s 0 0) σ 10 [(0, .ref (ad 43)), (1, .int y1), (2, .int y2), (3, .int y3), (4, .int y4)] [] := by
    intro n_10; induction n_10 with
    | zero => intro σ y1 y2 y3 y4 hp; exact False.elim hp
    | succ n_10 ih_10 =>
      intro σ y1 y2 y3 y4 hp
      have hp : B_X10_comesWord_10 post  (L_X10_comesWord_10 post  n_10) σ y1 y2 y3 y4 := hp
      unfold B_X10_comesWord_10 at hp
      have bb_56 : ∀ (σ : Dz) (y1 : Int32) (y2 : Int32) (y3 : Int32) (y4 : Int32) (z0 : Int32) , B_X10_comesWord_56 post (L_X10_comesWord_10 post  n_10) σ y1 y2 y3 y4 z0 → Gz p l e r_X10_comesWord s m args below meth c D ad ty 5 0 0 (Ez below D ad ty nV0 (fun _ τ => post τ) (fun _ _ => False) args s 0 0) σ 56 [(0, .ref (ad 43)), (1, .int y1), (2, .int y2), (3, .int y3), (4, .int y4)] [.int z0, .ref (ad 43)] := by
        intro σ y1 y2 y3 y4 z0 hp
        unfold B_X10_comesWord_56 at hp
        refine gz_callV K hex (c_X10_comes K.2.2.2.2.2 K.2.2.1 hp) cf_X10_comes zq5_202 (by decide) (ce_43 _ _ _ _ _ _) rfl dX10_comesWord_56 rfl rfl (Nat.le_of_ble_eq_true rfl) ⟨Nat.le_of_ble_eq_true rfl, Nat.le_of_ble_eq_true rfl⟩ ⟨Nat.le_of_ble_eq_true rfl, Nat.le_of_ble_eq_true rfl⟩ (Nat.le_of_ble_eq_true rfl) (Nat.le_of_ble_eq_true rfl) (fun _ _ h => h.elim) (fun _ τ56 hp => ?_)
        refine gz_norm (st' := []) (cells' := 0) (slots' := 0) rfl rfl rfl ?_
        refine gz_iinc K (v := (y4 + 1)) [(4, .int (y4 + 1)), (0, .ref (ad 43)), (1, .int y1), (2, .int y2), (3, .int y3)] dX10_comesWord_59 4 rfl (by first | rfl | decide) (by decide) rfl ?_
        refine gz_goto K 10 dX10_comesWord_62 (by decide) ?_
        refine gz_sub [1, 2, 3, 4, 0] rfl ?_
        exact ih_10 τ56 y1 y2 y3 (y4 + 1)  hp
      refine gz_iload K dX10_comesWord_10 4 rfl ?_
      refine gz_iload_n K dX10_comesWord_12 3 rfl ?_
      refine gz_icmp_ge K 65 dX10_comesWord_13 (by decide) (fun h => ?_) (fun h => ?_)
      · have hp := hp.1 h
        exact gz_vret K hr hp dX10_comesWord_65 (Nat.le_of_ble_eq_true rfl) (Nat.le_of_ble_eq_true rfl)
      · have hp := hp.2 h
        refine gz_aload_n K dX10_comesWord_16 0 rfl ?_
        refine gz_iload_n K dX10_comesWord_17 2 rfl ?_
        refine gz_if_eq K 43 dX10_comesWord_18 (by decide) (fun h => ?_) (fun h => ?_)
        · have hp := hp.1 h
          refine gz_aload_n K dX10_comesWord_43 0 rfl ?_
          refine gz_get K (v := .ref (ad 48)) (by decide) (ce_43 _ _ _ _ _ _) rfl inz_X10 6 (by decide) zq5_37 rfl dX10_comesWord_44 ?_
          refine gz_sipush K (v := (200 : Int32)) dX10_comesWord_47 (by decide) ?_
          refine gz_iload_n K dX10_comesWord_50 1 rfl ?_
          refine gz_imul K dX10_comesWord_51 ?_
          refine gz_iload K dX10_comesWord_52 4 rfl ?_
          refine gz_iadd K dX10_comesWord_54 ?_
          obtain ⟨h, hp⟩ := hp
          refine gz_iald K (by decide) (ce_48 _ _ _ _ _ _) h dX10_comesWord_55 ?_
          exact bb_56 σ y1 y2 y3 y4 (gz_i σ 48 ((((200 : Int32) * y1) + y4)).toNatClampNeg)  hp
        · have hp := hp.2 h
          refine gz_aload_n K dX10_comesWord_21 0 rfl ?_
          refine gz_get K (v := .ref (ad 48)) (by decide) (ce_43 _ _ _ _ _ _) rfl inz_X10 6 (by decide) zq5_37 rfl dX10_comesWord_22 ?_
          refine gz_sipush K (v := (200 : Int32)) dX10_comesWord_25 (by decide) ?_
          refine gz_iload_n K dX10_comesWord_28 1 rfl ?_
          refine gz_imul K dX10_comesWord_29 ?_
          refine gz_iload_n K dX10_comesWord_30 3 rfl ?_
          refine gz_iadd K dX10_comesWord_31 ?_
          refine gz_iconst K (v := (1 : Int32)) dX10_comesWord_32 (by decide) ?_
          refine gz_isub K dX10_comesWord_33 ?_
          refine gz_iload K dX10_comesWord_34 4 rfl ?_
          refine gz_isub K dX10_comesWord_36 ?_
          obtain ⟨h, hp⟩ := hp
          refine gz_iald K (by decide) (ce_48 _ _ _ _ _ _) h dX10_comesWord_37 ?_
          refine gz_iconst K (v := (1 : Int32)) dX10_comesWord_38 (by decide) ?_
          refine gz_ixor K dX10_comesWord_39 ?_
          refine gz_goto K 56 dX10_comesWord_40 (by decide) ?_
          exact bb_56 σ y1 y2 y3 y4 ((gz_i σ 48 ((((((200 : Int32) * y1) + y3) - (1 : Int32)) - y4)).toNatClampNeg) ^^^ (1 : Int32))  hp
  obtain ⟨n, hp⟩ := hp
  exact ll_10 n σ x1 x2 (gz_i σ 47 (x1).toNatClampNeg) (0 : Int32)  hp
set_option maxRecDepth 100000 in
set_option maxHeartbeats 4000000 in
theorem c_X10_invert {l : Launch} {D : va_G} {ad : Nat → Nat} {ty : Nat → ClassId} (hl : l.stackTraces = false) (hj : ∀ i j, i < 68 → j < 68 → ad i = ad j → i = j) {σ : Dz} {x1 : Int32} {x2 : Int32} {post : Int32 → Dz → Prop} (hp : P_X10_invert σ x1 x2 post) : Mz l D ad ty yX10_invert cX10_invert 3 (some .int) r_X10_invert nI0 σ [.ref (ad 43), .int x1, .int x2] post (fun _ _ => False) := by
  refine mz_of (by decide) hl hj (Nat.le_of_ble_eq_true rfl) ?_
  intro p e s m args below meth c K hex hr
  unfold P_X10_invert at hp
  show Gz p l e r_X10_invert s m args below meth c D ad ty 3 0 0 (Ez below D ad ty nI0 post (fun _ _ => False) args s 0 0) σ 0 [(0, .ref (ad 43)), (1, .int x1), (2, .int x2)] []
  refine gz_iload_n K dX10_invert_0 1 rfl ?_
  refine gz_callS K hex (c_X10_isSlot K.2.2.2.2.2 K.2.2.1 hp) cf_X10_isSlot zq5_189 dX10_invert_1 rfl rfl (Nat.le_of_ble_eq_true rfl) ⟨Nat.le_of_ble_eq_true rfl, Nat.le_of_ble_eq_true rfl⟩ ⟨Nat.le_of_ble_eq_true rfl, Nat.le_of_ble_eq_true rfl⟩ (Nat.le_of_ble_eq_true rfl) (Nat.le_of_ble_eq_true rfl) (fun _ _ h => h.elim) (fun r1 τ hp => ?_)
  obtain ⟨rfl, hp⟩ := hp
  refine gz_norm (st' := [.int r1]) (cells' := 0) (slots' := 0) rfl rfl rfl ?_
  refine gz_if_eq K 14 dX10_invert_4 (by decide) (fun h => ?_) (fun h => ?_)
  · have hp := hp.1 h
    refine gz_aload_n K dX10_invert_14 0 rfl ?_
    refine gz_iconst K (v := (1 : Int32)) dX10_invert_15 (by decide) ?_
    refine gz_callV K hex (c_X10_fails K.2.2.2.2.2 K.2.2.1 hp) cf_X10_fails zq5_149 (by decide) (ce_43 _ _ _ _ _ _) rfl dX10_invert_16 rfl rfl (Nat.le_of_ble_eq_true rfl) ⟨Nat.le_of_ble_eq_true rfl, Nat.le_of_ble_eq_true rfl⟩ ⟨Nat.le_of_ble_eq_true rfl, Nat.le_of_ble_eq_true rfl⟩ (Nat.le_of_ble_eq_true rfl) (Nat.le_of_ble_eq_true rfl) (fun _ _ h => h.elim) (fun r16 τ16 hp => ?_)
    refine gz_norm (st' := [.int r16]) (cells' := 0) (slots' := 0) rfl rfl rfl ?_
    exact gz_iret K hr hp dX10_invert_19 (Nat.le_of_ble_eq_true rfl) (Nat.le_of_ble_eq_true rfl)
  · have hp := hp.2 h
    refine gz_iload_n K dX10_invert_7 2 rfl ?_
    refine gz_callS K hex (c_X10_isSlot K.2.2.2.2.2 K.2.2.1 hp) cf_X10_isSlot zq5_189 dX10_invert_8 rfl rfl (Nat.le_of_ble_eq_true rfl) ⟨Nat.le_of_ble_eq_true rfl, Nat.le_of_ble_eq_true rfl⟩ ⟨Nat.le_of_ble_eq_true rfl, Nat.le_of_ble_eq_true rfl⟩ (Nat.le_of_ble_eq_true rfl) (Nat.le_of_ble_eq_true rfl) (fun _ _ h => h.elim) (fun r8 τ hp => ?_)
    obtain ⟨rfl, hp⟩ := hp
    refine gz_norm (st' := [.int r8]) (cells' := 0) (slots' := 0) rfl rfl rfl ?_
    refine gz_if_ne K 20 dX10_invert_11 (by decide) (fun h => ?_) (fun h => ?_)
    · have hp := hp.1 h
      refine gz_aload_n K dX10_invert_20 0 rfl ?_
      refine gz_callV K hex (c_X10_clears K.2.2.2.2.2 K.2.2.1 hp) cf_X10_clears zq5_192 (by decide) (ce_43 _ _ _ _ _ _) rfl dX10_invert_21 rfl rfl (Nat.le_of_ble_eq_true rfl) ⟨Nat.le_of_ble_eq_true rfl, Nat.le_of_ble_eq_true rfl⟩ ⟨Nat.le_of_ble_eq_true rfl, Nat.le_of_ble_eq_true rfl⟩ (Nat.le_of_ble_eq_true rfl) (Nat.le_of_ble_eq_true rfl) (fun _ _ h => h.elim) (fun _ τ21 hp => ?_)
      refine gz_norm (st' := []) (cells' := 0) (slots' := 0) rfl rfl rfl ?_
      refine gz_aload_n K dX10_invert_24 0 rfl ?_
      refine gz_iload_n K dX10_invert_25 2 rfl ?_
      refine gz_iconst K (v := (1 : Int32)) dX10_invert_26 (by decide) ?_
      refine gz_callV K hex (c_X10_comesWord K.2.2.2.2.2 K.2.2.1 hp) cf_X10_comesWord zq6_2 (by decide) (ce_43 _ _ _ _ _ _) rfl dX10_invert_27 rfl rfl (Nat.le_of_ble_eq_true rfl) ⟨Nat.le_of_ble_eq_true rfl, Nat.le_of_ble_eq_true rfl⟩ ⟨Nat.le_of_ble_eq_true rfl, Nat.le_of_ble_eq_true rfl⟩ (Nat.le_of_ble_eq_true rfl) (Nat.le_of_ble_eq_true rfl) (fun _ _ h => h.elim) (fun _ τ27 hp => ?_)
      refine gz_norm (st' := []) (cells' := 0) (slots' := 0) rfl rfl rfl ?_
      refine gz_aload_n K dX10_invert_30 0 rfl ?_
      refine gz_iload_n K dX10_invert_31 1 rfl ?_
      refine gz_callV K hex (c_X10_keeps K.2.2.2.2.2 K.2.2.1 hp) cf_X10_keeps zq5_218 (by decide) (ce_43 _ _ _ _ _ _) rfl dX10_invert_32 rfl rfl (Nat.le_of_ble_eq_true rfl) ⟨Nat.le_of_ble_eq_true rfl, Nat.le_of_ble_eq_true rfl⟩ ⟨Nat.le_of_ble_eq_true rfl, Nat.le_of_ble_eq_true rfl⟩ (Nat.le_of_ble_eq_true rfl) (Nat.le_of_ble_eq_true rfl) (fun _ _ h => h.elim) (fun r32 τ32 hp => ?_)
      refine gz_norm (st' := [.int r32]) (cells' := 0) (slots' := 0) rfl rfl rfl ?_
      exact gz_iret K hr hp dX10_invert_35 (Nat.le_of_ble_eq_true rfl) (Nat.le_of_ble_eq_true rfl)
    · have hp := hp.2 h
      refine gz_aload_n K dX10_invert_14 0 rfl ?_
      refine gz_iconst K (v := (1 : Int32)) dX10_invert_15 (by decide) ?_
      refine gz_callV K hex (c_X10_fails K.2.2.2.2.2 K.2.2.1 hp) cf_X10_fails zq5_149 (by decide) (ce_43 _ _ _ _ _ _) rfl dX10_invert_16 rfl rfl (Nat.le_of_ble_eq_true rfl) ⟨Nat.le_of_ble_eq_true rfl, Nat.le_of_ble_eq_true rfl⟩ ⟨Nat.le_of_ble_eq_true rfl, Nat.le_of_ble_eq_true rfl⟩ (Nat.le_of_ble_eq_true rfl) (Nat.le_of_ble_eq_true rfl) (fun _ _ h => h.elim) (fun r16 τ16 hp => ?_)
      refine gz_norm (st' := [.int r16]) (cells' := 0) (slots' := 0) rfl rfl rfl ?_
      exact gz_iret K hr hp dX10_invert_19 (Nat.le_of_ble_eq_true rfl) (Nat.le_of_ble_eq_true rfl)
set_option maxRecDepth 100000 in
set_option maxHeartbeats 4000000 in
theorem c_X10_conjugate {l : Launch} {D : va_G} {ad : Nat → Nat} {ty : Nat → ClassId} (hl : l.stackTraces = false) (hj : ∀ i j, i < 68 → j < 68 → ad i = ad j → i = j) {σ : Dz} {x1 : Int32} {x2 : Int32} {x3 : Int32} {post : Int32 → Dz → Prop} (hp : P_X10_conjugate σ x1 x2 x3 post) : Mz l D ad ty yX10_conjugate cX10_conjugate 4 (some .int) r_X10_conjugate nI0 σ [.ref (ad 43), .int x1, .int x2, .int x3] post (fun _ _ => False) := by
  refine mz_of (by decide) hl hj (Nat.le_of_ble_eq_true rfl) ?_
  intro p e s m args below meth c K hex hr
  unfold P_X10_conjugate at hp
  show Gz p l e r_X10_conjugate s m args below meth c D ad ty 4 0 0 (Ez below D ad ty nI0 post (fun _ _ => False) args s 0 0) σ 0 [(0, .ref (ad 43)), (1, .int x1), (2, .int x2), (3, .int x3)] []
  refine gz_iload_n K dX10_conjugate_0 1 rfl ?_
  refine gz_callS K hex (c_X10_isSlot K.2.2.2.2.2 K.2.2.1 hp) cf_X10_isSlot zq5_189 dX10_conjugate_1 rfl rfl (Nat.le_of_ble_eq_true rfl) ⟨Nat.le_of_ble_eq_true rfl, Nat.le_of_ble_eq_true rfl⟩ ⟨Nat.le_of_ble_eq_true rfl, Nat.le_of_ble_eq_true rfl⟩ (Nat.le_of_ble_eq_true rfl) (Nat.le_of_ble_eq_true rfl) (fun _ _ h => h.elim) (fun r1 τ hp => ?_)
  obtain ⟨rfl, hp⟩ := hp
  refine gz_norm (st' := [.int r1]) (cells' := 0) (slots' := 0) rfl rfl rfl ?_
  refine gz_if_eq K 21 dX10_conjugate_4 (by decide) (fun h => ?_) (fun h => ?_)
  · have hp := hp.1 h
    refine gz_aload_n K dX10_conjugate_21 0 rfl ?_
    refine gz_iconst K (v := (1 : Int32)) dX10_conjugate_22 (by decide) ?_
    refine gz_callV K hex (c_X10_fails K.2.2.2.2.2 K.2.2.1 hp) cf_X10_fails zq5_149 (by decide) (ce_43 _ _ _ _ _ _) rfl dX10_conjugate_23 rfl rfl (Nat.le_of_ble_eq_true rfl) ⟨Nat.le_of_ble_eq_true rfl, Nat.le_of_ble_eq_true rfl⟩ ⟨Nat.le_of_ble_eq_true rfl, Nat.le_of_ble_eq_true rfl⟩ (Nat.le_of_ble_eq_true rfl) (Nat.le_of_ble_eq_true rfl) (fun _ _ h => h.elim) (fun r23 τ23 hp => ?_)
    refine gz_norm (st' := [.int r23]) (cells' := 0) (slots' := 0) rfl rfl rfl ?_
    exact gz_iret K hr hp dX10_conjugate_26 (Nat.le_of_ble_eq_true rfl) (Nat.le_of_ble_eq_true rfl)
  · have hp := hp.2 h
    refine gz_iload_n K dX10_conjugate_7 2 rfl ?_
    refine gz_callS K hex (c_X10_isSlot K.2.2.2.2.2 K.2.2.1 hp) cf_X10_isSlot zq5_189 dX10_conjugate_8 rfl rfl (Nat.le_of_ble_eq_true rfl) ⟨Nat.le_of_ble_eq_true rfl, Nat.le_of_ble_eq_true rfl⟩ ⟨Nat.le_of_ble_eq_true rfl, Nat.le_of_ble_eq_true rfl⟩ (Nat.le_of_ble_eq_true rfl) (Nat.le_of_ble_eq_true rfl) (fun _ _ h => h.elim) (fun r8 τ hp => ?_)
    obtain ⟨rfl, hp⟩ := hp
    refine gz_norm (st' := [.int r8]) (cells' := 0) (slots' := 0) rfl rfl rfl ?_
    refine gz_if_eq K 21 dX10_conjugate_11 (by decide) (fun h => ?_) (fun h => ?_)
    · have hp := hp.1 h
      refine gz_aload_n K dX10_conjugate_21 0 rfl ?_
      refine gz_iconst K (v := (1 : Int32)) dX10_conjugate_22 (by decide) ?_
      refine gz_callV K hex (c_X10_fails K.2.2.2.2.2 K.2.2.1 hp) cf_X10_fails zq5_149 (by decide) (ce_43 _ _ _ _ _ _) rfl dX10_conjugate_23 rfl rfl (Nat.le_of_ble_eq_true rfl) ⟨Nat.le_of_ble_eq_true rfl, Nat.le_of_ble_eq_true rfl⟩ ⟨Nat.le_of_ble_eq_true rfl, Nat.le_of_ble_eq_true rfl⟩ (Nat.le_of_ble_eq_true rfl) (Nat.le_of_ble_eq_true rfl) (fun _ _ h => h.elim) (fun r23 τ23 hp => ?_)
      refine gz_norm (st' := [.int r23]) (cells' := 0) (slots' := 0) rfl rfl rfl ?_
      exact gz_iret K hr hp dX10_conjugate_26 (Nat.le_of_ble_eq_true rfl) (Nat.le_of_ble_eq_true rfl)
    · have hp := hp.2 h
      refine gz_iload_n K dX10_conjugate_14 3 rfl ?_
      refine gz_callS K hex (c_X10_isSlot K.2.2.2.2.2 K.2.2.1 hp) cf_X10_isSlot zq5_189 dX10_conjugate_15 rfl rfl (Nat.le_of_ble_eq_true rfl) ⟨Nat.le_of_ble_eq_true rfl, Nat.le_of_ble_eq_true rfl⟩ ⟨Nat.le_of_ble_eq_true rfl, Nat.le_of_ble_eq_true rfl⟩ (Nat.le_of_ble_eq_true rfl) (Nat.le_of_ble_eq_true rfl) (fun _ _ h => h.elim) (fun r15 τ hp => ?_)
      obtain ⟨rfl, hp⟩ := hp
      refine gz_norm (st' := [.int r15]) (cells' := 0) (slots' := 0) rfl rfl rfl ?_
      refine gz_if_ne K 27 dX10_conjugate_18 (by decide) (fun h => ?_) (fun h => ?_)
      · have hp := hp.1 h
        refine gz_aload_n K dX10_conjugate_27 0 rfl ?_
        refine gz_callV K hex (c_X10_clears K.2.2.2.2.2 K.2.2.1 hp) cf_X10_clears zq5_192 (by decide) (ce_43 _ _ _ _ _ _) rfl dX10_conjugate_28 rfl rfl (Nat.le_of_ble_eq_true rfl) ⟨Nat.le_of_ble_eq_true rfl, Nat.le_of_ble_eq_true rfl⟩ ⟨Nat.le_of_ble_eq_true rfl, Nat.le_of_ble_eq_true rfl⟩ (Nat.le_of_ble_eq_true rfl) (Nat.le_of_ble_eq_true rfl) (fun _ _ h => h.elim) (fun _ τ28 hp => ?_)
        refine gz_norm (st' := []) (cells' := 0) (slots' := 0) rfl rfl rfl ?_
        refine gz_aload_n K dX10_conjugate_31 0 rfl ?_
        refine gz_iload_n K dX10_conjugate_32 3 rfl ?_
        refine gz_iconst K (v := (1 : Int32)) dX10_conjugate_33 (by decide) ?_
        refine gz_callV K hex (c_X10_comesWord K.2.2.2.2.2 K.2.2.1 hp) cf_X10_comesWord zq6_2 (by decide) (ce_43 _ _ _ _ _ _) rfl dX10_conjugate_34 rfl rfl (Nat.le_of_ble_eq_true rfl) ⟨Nat.le_of_ble_eq_true rfl, Nat.le_of_ble_eq_true rfl⟩ ⟨Nat.le_of_ble_eq_true rfl, Nat.le_of_ble_eq_true rfl⟩ (Nat.le_of_ble_eq_true rfl) (Nat.le_of_ble_eq_true rfl) (fun _ _ h => h.elim) (fun _ τ34 hp => ?_)
        refine gz_norm (st' := []) (cells' := 0) (slots' := 0) rfl rfl rfl ?_
        refine gz_aload_n K dX10_conjugate_37 0 rfl ?_
        refine gz_iload_n K dX10_conjugate_38 2 rfl ?_
        refine gz_iconst K (v := (0 : Int32)) dX10_conjugate_39 (by decide) ?_
        refine gz_callV K hex (c_X10_comesWord K.2.2.2.2.2 K.2.2.1 hp) cf_X10_comesWord zq6_2 (by decide) (ce_43 _ _ _ _ _ _) rfl dX10_conjugate_40 rfl rfl (Nat.le_of_ble_eq_true rfl) ⟨Nat.le_of_ble_eq_true rfl, Nat.le_of_ble_eq_true rfl⟩ ⟨Nat.le_of_ble_eq_true rfl, Nat.le_of_ble_eq_true rfl⟩ (Nat.le_of_ble_eq_true rfl) (Nat.le_of_ble_eq_true rfl) (fun _ _ h => h.elim) (fun _ τ40 hp => ?_)
        refine gz_norm (st' := []) (cells' := 0) (slots' := 0) rfl rfl rfl ?_
        refine gz_aload_n K dX10_conjugate_43 0 rfl ?_
        refine gz_iload_n K dX10_conjugate_44 3 rfl ?_
        refine gz_iconst K (v := (0 : Int32)) dX10_conjugate_45 (by decide) ?_
        refine gz_callV K hex (c_X10_comesWord K.2.2.2.2.2 K.2.2.1 hp) cf_X10_comesWord zq6_2 (by decide) (ce_43 _ _ _ _ _ _) rfl dX10_conjugate_46 rfl rfl (Nat.le_of_ble_eq_true rfl) ⟨Nat.le_of_ble_eq_true rfl, Nat.le_of_ble_eq_true rfl⟩ ⟨Nat.le_of_ble_eq_true rfl, Nat.le_of_ble_eq_true rfl⟩ (Nat.le_of_ble_eq_true rfl) (Nat.le_of_ble_eq_true rfl) (fun _ _ h => h.elim) (fun _ τ46 hp => ?_)
        refine gz_norm (st' := []) (cells' := 0) (slots' := 0) rfl rfl rfl ?_
        refine gz_aload_n K dX10_conjugate_49 0 rfl ?_
        refine gz_get K (v := .int (gz_i τ46 43 23)) (by decide) (ce_43 _ _ _ _ _ _) rfl inz_X10 23 (by decide) zq5_54 rfl dX10_conjugate_50 ?_
        refine gz_if_eq K 64 dX10_conjugate_53 (by decide) (fun h => ?_) (fun h => ?_)
        · have hp := hp.1 h
          refine gz_aload_n K dX10_conjugate_64 0 rfl ?_
          refine gz_iload_n K dX10_conjugate_65 1 rfl ?_
          refine gz_callV K hex (c_X10_keeps K.2.2.2.2.2 K.2.2.1 hp) cf_X10_keeps zq5_218 (by decide) (ce_43 _ _ _ _ _ _) rfl dX10_conjugate_66 rfl rfl (Nat.le_of_ble_eq_true rfl) ⟨Nat.le_of_ble_eq_true rfl, Nat.le_of_ble_eq_true rfl⟩ ⟨Nat.le_of_ble_eq_true rfl, Nat.le_of_ble_eq_true rfl⟩ (Nat.le_of_ble_eq_true rfl) (Nat.le_of_ble_eq_true rfl) (fun _ _ h => h.elim) (fun r66 τ66 hp => ?_)
          refine gz_norm (st' := [.int r66]) (cells' := 0) (slots' := 0) rfl rfl rfl ?_
          exact gz_iret K hr hp dX10_conjugate_69 (Nat.le_of_ble_eq_true rfl) (Nat.le_of_ble_eq_true rfl)
        · have hp := hp.2 h
          refine gz_aload_n K dX10_conjugate_56 0 rfl ?_
          refine gz_iconst K (v := (2 : Int32)) dX10_conjugate_57 (by decide) ?_
          refine gz_callV K hex (c_X10_fails K.2.2.2.2.2 K.2.2.1 hp) cf_X10_fails zq5_149 (by decide) (ce_43 _ _ _ _ _ _) rfl dX10_conjugate_58 rfl rfl (Nat.le_of_ble_eq_true rfl) ⟨Nat.le_of_ble_eq_true rfl, Nat.le_of_ble_eq_true rfl⟩ ⟨Nat.le_of_ble_eq_true rfl, Nat.le_of_ble_eq_true rfl⟩ (Nat.le_of_ble_eq_true rfl) (Nat.le_of_ble_eq_true rfl) (fun _ _ h => h.elim) (fun r58 τ58 hp => ?_)
          refine gz_norm (st' := [.int r58]) (cells' := 0) (slots' := 0) rfl rfl rfl ?_
          refine gz_goto K 69 dX10_conjugate_61 (by decide) ?_
          exact gz_iret K hr hp dX10_conjugate_69 (Nat.le_of_ble_eq_true rfl) (Nat.le_of_ble_eq_true rfl)
      · have hp := hp.2 h
        refine gz_aload_n K dX10_conjugate_21 0 rfl ?_
        refine gz_iconst K (v := (1 : Int32)) dX10_conjugate_22 (by decide) ?_
        refine gz_callV K hex (c_X10_fails K.2.2.2.2.2 K.2.2.1 hp) cf_X10_fails zq5_149 (by decide) (ce_43 _ _ _ _ _ _) rfl dX10_conjugate_23 rfl rfl (Nat.le_of_ble_eq_true rfl) ⟨Nat.le_of_ble_eq_true rfl, Nat.le_of_ble_eq_true rfl⟩ ⟨Nat.le_of_ble_eq_true rfl, Nat.le_of_ble_eq_true rfl⟩ (Nat.le_of_ble_eq_true rfl) (Nat.le_of_ble_eq_true rfl) (fun _ _ h => h.elim) (fun r23 τ23 hp => ?_)
        refine gz_norm (st' := [.int r23]) (cells' := 0) (slots' := 0) rfl rfl rfl ?_
        exact gz_iret K hr hp dX10_conjugate_26 (Nat.le_of_ble_eq_true rfl) (Nat.le_of_ble_eq_true rfl)
set_option maxRecDepth 100000 in
set_option maxHeartbeats 4000000 in
theorem c_X10_commutator {l : Launch} {D : va_G} {ad : Nat → Nat} {ty : Nat → ClassId} (hl : l.stackTraces = false) (hj : ∀ i j, i < 68 → j < 68 → ad i = ad j → i = j) {σ : Dz} {x1 : Int32} {x2 : Int32} {x3 : Int32} {post : Int32 → Dz → Prop} (hp : P_X10_commutator σ x1 x2 x3 post) : Mz l D ad ty yX10_commutator cX10_commutator 4 (some .int) r_X10_commutator nI0 σ [.ref (ad 43), .int x1, .int x2, .int x3] post (fun _ _ => False) := by
  refine mz_of (by decide) hl hj (Nat.le_of_ble_eq_true rfl) ?_
  intro p e s m args below meth c K hex hr
  unfold P_X10_commutator at hp
  show Gz p l e r_X10_commutator s m args below meth c D ad ty 4 0 0 (Ez below D ad ty nI0 post (fun _ _ => False) args s 0 0) σ 0 [(0, .ref (ad 43)), (1, .int x1), (2, .int x2), (3, .int x3)] []
  refine gz_iload_n K dX10_commutator_0 1 rfl ?_
  refine gz_callS K hex (c_X10_isSlot K.2.2.2.2.2 K.2.2.1 hp) cf_X10_isSlot zq5_189 dX10_commutator_1 rfl rfl (Nat.le_of_ble_eq_true rfl) ⟨Nat.le_of_ble_eq_true rfl, Nat.le_of_ble_eq_true rfl⟩ ⟨Nat.le_of_ble_eq_true rfl, Nat.le_of_ble_eq_true rfl⟩ (Nat.le_of_ble_eq_true rfl) (Nat.le_of_ble_eq_true rfl) (fun _ _ h => h.elim) (fun r1 τ hp => ?_)
  obtain ⟨rfl, hp⟩ := hp
  refine gz_norm (st' := [.int r1]) (cells' := 0) (slots' := 0) rfl rfl rfl ?_
  refine gz_if_eq K 21 dX10_commutator_4 (by decide) (fun h => ?_) (fun h => ?_)
  · have hp := hp.1 h
    refine gz_aload_n K dX10_commutator_21 0 rfl ?_
    refine gz_iconst K (v := (1 : Int32)) dX10_commutator_22 (by decide) ?_
    refine gz_callV K hex (c_X10_fails K.2.2.2.2.2 K.2.2.1 hp) cf_X10_fails zq5_149 (by decide) (ce_43 _ _ _ _ _ _) rfl dX10_commutator_23 rfl rfl (Nat.le_of_ble_eq_true rfl) ⟨Nat.le_of_ble_eq_true rfl, Nat.le_of_ble_eq_true rfl⟩ ⟨Nat.le_of_ble_eq_true rfl, Nat.le_of_ble_eq_true rfl⟩ (Nat.le_of_ble_eq_true rfl) (Nat.le_of_ble_eq_true rfl) (fun _ _ h => h.elim) (fun r23 τ23 hp => ?_)
    refine gz_norm (st' := [.int r23]) (cells' := 0) (slots' := 0) rfl rfl rfl ?_
    exact gz_iret K hr hp dX10_commutator_26 (Nat.le_of_ble_eq_true rfl) (Nat.le_of_ble_eq_true rfl)
  · have hp := hp.2 h
    refine gz_iload_n K dX10_commutator_7 2 rfl ?_
    refine gz_callS K hex (c_X10_isSlot K.2.2.2.2.2 K.2.2.1 hp) cf_X10_isSlot zq5_189 dX10_commutator_8 rfl rfl (Nat.le_of_ble_eq_true rfl) ⟨Nat.le_of_ble_eq_true rfl, Nat.le_of_ble_eq_true rfl⟩ ⟨Nat.le_of_ble_eq_true rfl, Nat.le_of_ble_eq_true rfl⟩ (Nat.le_of_ble_eq_true rfl) (Nat.le_of_ble_eq_true rfl) (fun _ _ h => h.elim) (fun r8 τ hp => ?_)
    obtain ⟨rfl, hp⟩ := hp
    refine gz_norm (st' := [.int r8]) (cells' := 0) (slots' := 0) rfl rfl rfl ?_
    refine gz_if_eq K 21 dX10_commutator_11 (by decide) (fun h => ?_) (fun h => ?_)
    · have hp := hp.1 h
      refine gz_aload_n K dX10_commutator_21 0 rfl ?_
      refine gz_iconst K (v := (1 : Int32)) dX10_commutator_22 (by decide) ?_
      refine gz_callV K hex (c_X10_fails K.2.2.2.2.2 K.2.2.1 hp) cf_X10_fails zq5_149 (by decide) (ce_43 _ _ _ _ _ _) rfl dX10_commutator_23 rfl rfl (Nat.le_of_ble_eq_true rfl) ⟨Nat.le_of_ble_eq_true rfl, Nat.le_of_ble_eq_true rfl⟩ ⟨Nat.le_of_ble_eq_true rfl, Nat.le_of_ble_eq_true rfl⟩ (Nat.le_of_ble_eq_true rfl) (Nat.le_of_ble_eq_true rfl) (fun _ _ h => h.elim) (fun r23 τ23 hp => ?_)
      refine gz_norm (st' := [.int r23]) (cells' := 0) (slots' := 0) rfl rfl rfl ?_
      exact gz_iret K hr hp dX10_commutator_26 (Nat.le_of_ble_eq_true rfl) (Nat.le_of_ble_eq_true rfl)
    · have hp := hp.2 h
      refine gz_iload_n K dX10_commutator_14 3 rfl ?_
      refine gz_callS K hex (c_X10_isSlot K.2.2.2.2.2 K.2.2.1 hp) cf_X10_isSlot zq5_189 dX10_commutator_15 rfl rfl (Nat.le_of_ble_eq_true rfl) ⟨Nat.le_of_ble_eq_true rfl, Nat.le_of_ble_eq_true rfl⟩ ⟨Nat.le_of_ble_eq_true rfl, Nat.le_of_ble_eq_true rfl⟩ (Nat.le_of_ble_eq_true rfl) (Nat.le_of_ble_eq_true rfl) (fun _ _ h => h.elim) (fun r15 τ hp => ?_)
      obtain ⟨rfl, hp⟩ := hp
      refine gz_norm (st' := [.int r15]) (cells' := 0) (slots' := 0) rfl rfl rfl ?_
      refine gz_if_ne K 27 dX10_commutator_18 (by decide) (fun h => ?_) (fun h => ?_)
      · have hp := hp.1 h
        refine gz_aload_n K dX10_commutator_27 0 rfl ?_
        refine gz_callV K hex (c_X10_clears K.2.2.2.2.2 K.2.2.1 hp) cf_X10_clears zq5_192 (by decide) (ce_43 _ _ _ _ _ _) rfl dX10_commutator_28 rfl rfl (Nat.le_of_ble_eq_true rfl) ⟨Nat.le_of_ble_eq_true rfl, Nat.le_of_ble_eq_true rfl⟩ ⟨Nat.le_of_ble_eq_true rfl, Nat.le_of_ble_eq_true rfl⟩ (Nat.le_of_ble_eq_true rfl) (Nat.le_of_ble_eq_true rfl) (fun _ _ h => h.elim) (fun _ τ28 hp => ?_)
        refine gz_norm (st' := []) (cells' := 0) (slots' := 0) rfl rfl rfl ?_
        refine gz_aload_n K dX10_commutator_31 0 rfl ?_
        refine gz_iload_n K dX10_commutator_32 2 rfl ?_
        refine gz_iconst K (v := (0 : Int32)) dX10_commutator_33 (by decide) ?_
        refine gz_callV K hex (c_X10_comesWord K.2.2.2.2.2 K.2.2.1 hp) cf_X10_comesWord zq6_2 (by decide) (ce_43 _ _ _ _ _ _) rfl dX10_commutator_34 rfl rfl (Nat.le_of_ble_eq_true rfl) ⟨Nat.le_of_ble_eq_true rfl, Nat.le_of_ble_eq_true rfl⟩ ⟨Nat.le_of_ble_eq_true rfl, Nat.le_of_ble_eq_true rfl⟩ (Nat.le_of_ble_eq_true rfl) (Nat.le_of_ble_eq_true rfl) (fun _ _ h => h.elim) (fun _ τ34 hp => ?_)
        refine gz_norm (st' := []) (cells' := 0) (slots' := 0) rfl rfl rfl ?_
        refine gz_aload_n K dX10_commutator_37 0 rfl ?_
        refine gz_iload_n K dX10_commutator_38 3 rfl ?_
        refine gz_iconst K (v := (0 : Int32)) dX10_commutator_39 (by decide) ?_
        refine gz_callV K hex (c_X10_comesWord K.2.2.2.2.2 K.2.2.1 hp) cf_X10_comesWord zq6_2 (by decide) (ce_43 _ _ _ _ _ _) rfl dX10_commutator_40 rfl rfl (Nat.le_of_ble_eq_true rfl) ⟨Nat.le_of_ble_eq_true rfl, Nat.le_of_ble_eq_true rfl⟩ ⟨Nat.le_of_ble_eq_true rfl, Nat.le_of_ble_eq_true rfl⟩ (Nat.le_of_ble_eq_true rfl) (Nat.le_of_ble_eq_true rfl) (fun _ _ h => h.elim) (fun _ τ40 hp => ?_)
        refine gz_norm (st' := []) (cells' := 0) (slots' := 0) rfl rfl rfl ?_
        refine gz_aload_n K dX10_commutator_43 0 rfl ?_
        refine gz_iload_n K dX10_commutator_44 2 rfl ?_
        refine gz_iconst K (v := (1 : Int32)) dX10_commutator_45 (by decide) ?_
        refine gz_callV K hex (c_X10_comesWord K.2.2.2.2.2 K.2.2.1 hp) cf_X10_comesWord zq6_2 (by decide) (ce_43 _ _ _ _ _ _) rfl dX10_commutator_46 rfl rfl (Nat.le_of_ble_eq_true rfl) ⟨Nat.le_of_ble_eq_true rfl, Nat.le_of_ble_eq_true rfl⟩ ⟨Nat.le_of_ble_eq_true rfl, Nat.le_of_ble_eq_true rfl⟩ (Nat.le_of_ble_eq_true rfl) (Nat.le_of_ble_eq_true rfl) (fun _ _ h => h.elim) (fun _ τ46 hp => ?_)
        refine gz_norm (st' := []) (cells' := 0) (slots' := 0) rfl rfl rfl ?_
        refine gz_aload_n K dX10_commutator_49 0 rfl ?_
        refine gz_iload_n K dX10_commutator_50 3 rfl ?_
        refine gz_iconst K (v := (1 : Int32)) dX10_commutator_51 (by decide) ?_
        refine gz_callV K hex (c_X10_comesWord K.2.2.2.2.2 K.2.2.1 hp) cf_X10_comesWord zq6_2 (by decide) (ce_43 _ _ _ _ _ _) rfl dX10_commutator_52 rfl rfl (Nat.le_of_ble_eq_true rfl) ⟨Nat.le_of_ble_eq_true rfl, Nat.le_of_ble_eq_true rfl⟩ ⟨Nat.le_of_ble_eq_true rfl, Nat.le_of_ble_eq_true rfl⟩ (Nat.le_of_ble_eq_true rfl) (Nat.le_of_ble_eq_true rfl) (fun _ _ h => h.elim) (fun _ τ52 hp => ?_)
        refine gz_norm (st' := []) (cells' := 0) (slots' := 0) rfl rfl rfl ?_
        refine gz_aload_n K dX10_commutator_55 0 rfl ?_
        refine gz_get K (v := .int (gz_i τ52 43 23)) (by decide) (ce_43 _ _ _ _ _ _) rfl inz_X10 23 (by decide) zq5_54 rfl dX10_commutator_56 ?_
        refine gz_if_eq K 70 dX10_commutator_59 (by decide) (fun h => ?_) (fun h => ?_)
        · have hp := hp.1 h
          refine gz_aload_n K dX10_commutator_70 0 rfl ?_
          refine gz_iload_n K dX10_commutator_71 1 rfl ?_
          refine gz_callV K hex (c_X10_keeps K.2.2.2.2.2 K.2.2.1 hp) cf_X10_keeps zq5_218 (by decide) (ce_43 _ _ _ _ _ _) rfl dX10_commutator_72 rfl rfl (Nat.le_of_ble_eq_true rfl) ⟨Nat.le_of_ble_eq_true rfl, Nat.le_of_ble_eq_true rfl⟩ ⟨Nat.le_of_ble_eq_true rfl, Nat.le_of_ble_eq_true rfl⟩ (Nat.le_of_ble_eq_true rfl) (Nat.le_of_ble_eq_true rfl) (fun _ _ h => h.elim) (fun r72 τ72 hp => ?_)
          refine gz_norm (st' := [.int r72]) (cells' := 0) (slots' := 0) rfl rfl rfl ?_
          exact gz_iret K hr hp dX10_commutator_75 (Nat.le_of_ble_eq_true rfl) (Nat.le_of_ble_eq_true rfl)
        · have hp := hp.2 h
          refine gz_aload_n K dX10_commutator_62 0 rfl ?_
          refine gz_iconst K (v := (2 : Int32)) dX10_commutator_63 (by decide) ?_
          refine gz_callV K hex (c_X10_fails K.2.2.2.2.2 K.2.2.1 hp) cf_X10_fails zq5_149 (by decide) (ce_43 _ _ _ _ _ _) rfl dX10_commutator_64 rfl rfl (Nat.le_of_ble_eq_true rfl) ⟨Nat.le_of_ble_eq_true rfl, Nat.le_of_ble_eq_true rfl⟩ ⟨Nat.le_of_ble_eq_true rfl, Nat.le_of_ble_eq_true rfl⟩ (Nat.le_of_ble_eq_true rfl) (Nat.le_of_ble_eq_true rfl) (fun _ _ h => h.elim) (fun r64 τ64 hp => ?_)
          refine gz_norm (st' := [.int r64]) (cells' := 0) (slots' := 0) rfl rfl rfl ?_
          refine gz_goto K 75 dX10_commutator_67 (by decide) ?_
          exact gz_iret K hr hp dX10_commutator_75 (Nat.le_of_ble_eq_true rfl) (Nat.le_of_ble_eq_true rfl)
      · have hp := hp.2 h
        refine gz_aload_n K dX10_commutator_21 0 rfl ?_
        refine gz_iconst K (v := (1 : Int32)) dX10_commutator_22 (by decide) ?_
        refine gz_callV K hex (c_X10_fails K.2.2.2.2.2 K.2.2.1 hp) cf_X10_fails zq5_149 (by decide) (ce_43 _ _ _ _ _ _) rfl dX10_commutator_23 rfl rfl (Nat.le_of_ble_eq_true rfl) ⟨Nat.le_of_ble_eq_true rfl, Nat.le_of_ble_eq_true rfl⟩ ⟨Nat.le_of_ble_eq_true rfl, Nat.le_of_ble_eq_true rfl⟩ (Nat.le_of_ble_eq_true rfl) (Nat.le_of_ble_eq_true rfl) (fun _ _ h => h.elim) (fun r23 τ23 hp => ?_)
        refine gz_norm (st' := [.int r23]) (cells' := 0) (slots' := 0) rfl rfl rfl ?_
        exact gz_iret K hr hp dX10_commutator_26 (Nat.le_of_ble_eq_true rfl) (Nat.le_of_ble_eq_true rfl)
set_option maxRecDepth 100000 in
set_option maxHeartbeats 4000000 in
theorem c_X10_ledBy {l : Launch} {D : va_G} {ad : Nat → Nat} {ty : Nat → ClassId} (hl : l.stackTraces = false) (hj : ∀ i j, i < 68 → j < 68 → ad i = ad j → i = j) {σ : Dz} {x1 : Int32} {x2 : Int32} {post : Int32 → Prop} (hp : P_X10_ledBy σ x1 x2 post) : Mz l D ad ty yX10_ledBy cX10_ledBy 5 (some .int) r_X10_ledBy nI0 σ [.ref (ad 43), .int x1, .int x2] (fun r τ => σ = τ ∧ post r) (fun _ _ => False) := by
  refine mz_of (by decide) hl hj (Nat.le_of_ble_eq_true rfl) ?_
  intro p e s m args below meth c K hex hr
  unfold P_X10_ledBy at hp
  show Gz p l e r_X10_ledBy s m args below meth c D ad ty 5 0 0 (Ez below D ad ty nI0 (fun r τ => σ = τ ∧ post r) (fun _ _ => False) args s 0 0) σ 0 [(0, .ref (ad 43)), (1, .int x1), (2, .int x2)] []
  refine gz_iload_n K dX10_ledBy_0 2 rfl ?_
  refine gz_istore_n K [(3, .int x2), (0, .ref (ad 43)), (1, .int x1), (2, .int x2)] dX10_ledBy_1 (by decide) rfl ?_
  refine gz_iconst K (v := (0 : Int32)) dX10_ledBy_2 (by decide) ?_
  refine gz_istore K [(4, .int (0 : Int32)), (3, .int x2), (0, .ref (ad 43)), (1, .int x1), (2, .int x2)] dX10_ledBy_3 (by decide) rfl ?_
  refine gz_sub [2, 3, 1, 0] rfl ?_
  have ll_5 : ∀ (n_5 : Nat) (y1 : Int32) (y3 : Int32) (y4 : Int32) , L_X10_ledBy_5 σ post  n_5 y1 y3 y4 → Gz p l e r_X10_ledBy s m args below meth c D ad ty 5 0 0 (Ez below D ad ty nI0 (fun r τ => σ = τ ∧ post r) (fun _ _ => False) args s 0 0) σ 5 [(0, .ref (ad 43)), (1, .int y1), (3, .int y3), (4, .int y4)] [] := by
    intro n_5; induction n_5 with
    | zero => intro y1 y3 y4 hp; exact False.elim hp
    | succ n_5 ih_5 =>
      intro y1 y3 y4 hp
      have hp : B_X10_ledBy_5 σ post  (L_X10_ledBy_5 σ post  n_5) y1 y3 y4 := hp
      unfold B_X10_ledBy_5 at hp
      refine gz_iload K dX10_ledBy_5 3 rfl ?_
      refine gz_aload_n K dX10_ledBy_7 0 rfl ?_
      refine gz_get K (v := .ref (ad 47)) (by decide) (ce_43 _ _ _ _ _ _) rfl inz_X10 5 (by decide) zq5_36 rfl dX10_ledBy_8 ?_
      refine gz_iload_n K dX10_ledBy_11 1 rfl ?_
      obtain ⟨h, hp⟩ := hp
      refine gz_iald K (by decide) (ce_47 _ _ _ _ _ _) h dX10_ledBy_12 ?_
      refine gz_icmp_ge K 46 dX10_ledBy_13 (by decide) (fun h => ?_) (fun h => ?_)
      · have hp := hp.1 h
        refine gz_iload_n K dX10_ledBy_46 2 rfl ?_
        exact gz_iret K hr ⟨rfl, hp⟩ dX10_ledBy_47 (Nat.le_of_ble_eq_true rfl) (Nat.le_of_ble_eq_true rfl)
      · have hp := hp.2 h
        refine gz_aload_n K dX10_ledBy_16 0 rfl ?_
        refine gz_get K (v := .ref (ad 46)) (by decide) (ce_43 _ _ _ _ _ _) rfl inz_X10 4 (by decide) zq5_35 rfl dX10_ledBy_17 ?_
        refine gz_bipush K (v := (8 : Int32)) dX10_ledBy_20 (by decide) ?_
        refine gz_aload_n K dX10_ledBy_22 0 rfl ?_
        refine gz_get K (v := .ref (ad 48)) (by decide) (ce_43 _ _ _ _ _ _) rfl inz_X10 6 (by decide) zq5_37 rfl dX10_ledBy_23 ?_
        refine gz_sipush K (v := (200 : Int32)) dX10_ledBy_26 (by decide) ?_
        refine gz_iload_n K dX10_ledBy_29 1 rfl ?_
        refine gz_imul K dX10_ledBy_30 ?_
        refine gz_iload K dX10_ledBy_31 3 rfl ?_
        refine gz_iadd K dX10_ledBy_33 ?_
        obtain ⟨h, hp⟩ := hp
        refine gz_iald K (by decide) (ce_48 _ _ _ _ _ _) h dX10_ledBy_34 ?_
        refine gz_imul K dX10_ledBy_35 ?_
        refine gz_iload_n K dX10_ledBy_36 2 rfl ?_
        refine gz_iadd K dX10_ledBy_37 ?_
        obtain ⟨h, hp⟩ := hp
        refine gz_iald K (by decide) (ce_46 _ _ _ _ _ _) h dX10_ledBy_38 ?_
        refine gz_istore_n K [(3, .int (gz_i σ 46 ((((8 : Int32) * (gz_i σ 48 ((((200 : Int32) * y1) + y4)).toNatClampNeg)) + y3)).toNatClampNeg)), (0, .ref (ad 43)), (1, .int y1), (4, .int y4)] dX10_ledBy_39 (by decide) rfl ?_
        refine gz_iinc K (v := (y4 + 1)) [(4, .int (y4 + 1)), (3, .int (gz_i σ 46 ((((8 : Int32) * (gz_i σ 48 ((((200 : Int32) * y1) + y4)).toNatClampNeg)) + y3)).toNatClampNeg)), (0, .ref (ad 43)), (1, .int y1)] dX10_ledBy_40 3 rfl (by first | rfl | decide) (by decide) rfl ?_
        refine gz_goto K 5 dX10_ledBy_43 (by decide) ?_
        refine gz_sub [2, 3, 1, 0] rfl ?_
        exact ih_5 y1 (gz_i σ 46 ((((8 : Int32) * (gz_i σ 48 ((((200 : Int32) * y1) + y4)).toNatClampNeg)) + y3)).toNatClampNeg) (y4 + 1)  hp
  obtain ⟨n, hp⟩ := hp
  exact ll_5 n x1 x2 (0 : Int32)  hp
set_option maxRecDepth 100000 in
set_option maxHeartbeats 4000000 in
theorem c_X10_cycleOf {l : Launch} {D : va_G} {ad : Nat → Nat} {ty : Nat → ClassId} (hl : l.stackTraces = false) (hj : ∀ i j, i < 68 → j < 68 → ad i = ad j → i = j) {σ : Dz} {x1 : Int32} {x2 : Int32} {post : Int32 → Prop} (hp : P_X10_cycleOf σ x1 x2 post) : Mz l D ad ty yX10_cycleOf cX10_cycleOf 5 (some .int) r_X10_cycleOf nI0 σ [.ref (ad 43), .int x1, .int x2] (fun r τ => σ = τ ∧ post r) (fun _ _ => False) := by
  refine mz_of (by decide) hl hj (Nat.le_of_ble_eq_true rfl) ?_
  intro p e s m args below meth c K hex hr
  unfold P_X10_cycleOf at hp
  show Gz p l e r_X10_cycleOf s m args below meth c D ad ty 5 0 0 (Ez below D ad ty nI0 (fun r τ => σ = τ ∧ post r) (fun _ _ => False) args s 0 0) σ 0 [(0, .ref (ad 43)), (1, .int x1), (2, .int x2)] []
  refine gz_iconst K (v := (1 : Int32)) dX10_cycleOf_0 (by decide) ?_
  refine gz_istore_n K [(3, .int (1 : Int32)), (0, .ref (ad 43)), (1, .int x1), (2, .int x2)] dX10_cycleOf_1 (by decide) rfl ?_
  refine gz_aload_n K dX10_cycleOf_2 1 rfl ?_
  refine gz_iload_n K dX10_cycleOf_3 2 rfl ?_
  refine gz_iload_n K dX10_cycleOf_4 3 rfl ?_
  refine gz_callV K hex (c_X10_ledBy K.2.2.2.2.2 K.2.2.1 hp) cf_X10_ledBy zq6_22 (by decide) (ce_43 _ _ _ _ _ _) rfl dX10_cycleOf_5 rfl rfl (Nat.le_of_ble_eq_true rfl) ⟨Nat.le_of_ble_eq_true rfl, Nat.le_of_ble_eq_true rfl⟩ ⟨Nat.le_of_ble_eq_true rfl, Nat.le_of_ble_eq_true rfl⟩ (Nat.le_of_ble_eq_true rfl) (Nat.le_of_ble_eq_true rfl) (fun _ _ h => h.elim) (fun r5 τ hp => ?_)
  obtain ⟨rfl, hp⟩ := hp
  refine gz_norm (st' := [.int r5]) (cells' := 0) (slots' := 0) rfl rfl rfl ?_
  refine gz_istore K [(4, .int r5), (3, .int (1 : Int32)), (0, .ref (ad 43)), (1, .int x1), (2, .int x2)] dX10_cycleOf_8 (by decide) rfl ?_
  refine gz_sub [2, 3, 4, 1, 0] rfl ?_
  have ll_10 : ∀ (n_10 : Nat) (y1 : Int32) (y2 : Int32) (y3 : Int32) (y4 : Int32) , L_X10_cycleOf_10 σ post  n_10 y1 y2 y3 y4 → Gz p l e r_X10_cycleOf s m args below meth c D ad ty 5 0 0 (Ez below D ad ty nI0 (fun r τ => σ = τ ∧ post r) (fun _ _ => False) args s 0 0) σ 10 [(0, .ref (ad 43)), (1, .int y1), (2, .int y2), (3, .int y3), (4, .int y4)] [] := by
    intro n_10; induction n_10 with
    | zero => intro y1 y2 y3 y4 hp; exact False.elim hp
    | succ n_10 ih_10 =>
      intro y1 y2 y3 y4 hp
      have hp : B_X10_cycleOf_10 σ post  (L_X10_cycleOf_10 σ post  n_10) y1 y2 y3 y4 := hp
      unfold B_X10_cycleOf_10 at hp
      refine gz_iload K dX10_cycleOf_10 4 rfl ?_
      refine gz_iload_n K dX10_cycleOf_12 2 rfl ?_
      refine gz_icmp_eq K 31 dX10_cycleOf_13 (by decide) (fun h => ?_) (fun h => ?_)
      · have hp := hp.1 h
        refine gz_iload_n K dX10_cycleOf_31 3 rfl ?_
        exact gz_iret K hr ⟨rfl, hp⟩ dX10_cycleOf_32 (Nat.le_of_ble_eq_true rfl) (Nat.le_of_ble_eq_true rfl)
      · have hp := hp.2 h
        refine gz_iinc K (v := (y3 + 1)) [(3, .int (y3 + 1)), (0, .ref (ad 43)), (1, .int y1), (2, .int y2), (4, .int y4)] dX10_cycleOf_16 3 rfl (by first | rfl | decide) (by decide) rfl ?_
        refine gz_aload_n K dX10_cycleOf_19 1 rfl ?_
        refine gz_iload_n K dX10_cycleOf_20 2 rfl ?_
        refine gz_iload K dX10_cycleOf_21 4 rfl ?_
        refine gz_callV K hex (c_X10_ledBy K.2.2.2.2.2 K.2.2.1 hp) cf_X10_ledBy zq6_22 (by decide) (ce_43 _ _ _ _ _ _) rfl dX10_cycleOf_23 rfl rfl (Nat.le_of_ble_eq_true rfl) ⟨Nat.le_of_ble_eq_true rfl, Nat.le_of_ble_eq_true rfl⟩ ⟨Nat.le_of_ble_eq_true rfl, Nat.le_of_ble_eq_true rfl⟩ (Nat.le_of_ble_eq_true rfl) (Nat.le_of_ble_eq_true rfl) (fun _ _ h => h.elim) (fun r23 τ hp => ?_)
        obtain ⟨rfl, hp⟩ := hp
        refine gz_norm (st' := [.int r23]) (cells' := 0) (slots' := 0) rfl rfl rfl ?_
        refine gz_istore K [(4, .int r23), (3, .int (y3 + 1)), (0, .ref (ad 43)), (1, .int y1), (2, .int y2)] dX10_cycleOf_26 (by decide) rfl ?_
        refine gz_goto K 10 dX10_cycleOf_28 (by decide) ?_
        refine gz_sub [2, 3, 4, 1, 0] rfl ?_
        exact ih_10 y1 y2 (y3 + 1) r23  hp
  obtain ⟨n, hp⟩ := hp
  exact ll_10 n x1 x2 (1 : Int32) r5  hp
set_option maxRecDepth 100000 in
set_option maxHeartbeats 4000000 in
theorem c_X10_order {l : Launch} {D : va_G} {ad : Nat → Nat} {ty : Nat → ClassId} (hl : l.stackTraces = false) (hj : ∀ i j, i < 68 → j < 68 → ad i = ad j → i = j) {σ : Dz} {x1 : Int32} {post : Int32 → Dz → Prop} (hp : P_X10_order σ x1 post) : Mz l D ad ty yX10_order cX10_order 5 (some .int) r_X10_order nI0 σ [.ref (ad 43), .int x1] post (fun _ _ => False) := by
  refine mz_of (by decide) hl hj (Nat.le_of_ble_eq_true rfl) ?_
  intro p e s m args below meth c K hex hr
  unfold P_X10_order at hp
  show Gz p l e r_X10_order s m args below meth c D ad ty 5 0 0 (Ez below D ad ty nI0 post (fun _ _ => False) args s 0 0) σ 0 [(0, .ref (ad 43)), (1, .int x1)] []
  refine gz_iload_n K dX10_order_0 1 rfl ?_
  refine gz_callS K hex (c_X10_isSlot K.2.2.2.2.2 K.2.2.1 hp) cf_X10_isSlot zq5_189 dX10_order_1 rfl rfl (Nat.le_of_ble_eq_true rfl) ⟨Nat.le_of_ble_eq_true rfl, Nat.le_of_ble_eq_true rfl⟩ ⟨Nat.le_of_ble_eq_true rfl, Nat.le_of_ble_eq_true rfl⟩ (Nat.le_of_ble_eq_true rfl) (Nat.le_of_ble_eq_true rfl) (fun _ _ h => h.elim) (fun r1 τ hp => ?_)
  obtain ⟨rfl, hp⟩ := hp
  refine gz_norm (st' := [.int r1]) (cells' := 0) (slots' := 0) rfl rfl rfl ?_
  refine gz_if_ne K 13 dX10_order_4 (by decide) (fun h => ?_) (fun h => ?_)
  · have hp := hp.1 h
    refine gz_iconst K (v := (1 : Int32)) dX10_order_13 (by decide) ?_
    refine gz_istore_n K [(2, .int (1 : Int32)), (0, .ref (ad 43)), (1, .int x1)] dX10_order_14 (by decide) rfl ?_
    refine gz_iconst K (v := (0 : Int32)) dX10_order_15 (by decide) ?_
    refine gz_istore_n K [(3, .int (0 : Int32)), (2, .int (1 : Int32)), (0, .ref (ad 43)), (1, .int x1)] dX10_order_16 (by decide) rfl ?_
    refine gz_sub [2, 3, 1, 0] rfl ?_
    have ll_17 : ∀ (n_17 : Nat) (σ : Dz) (y1 : Int32) (y2 : Int32) (y3 : Int32) , L_X10_order_17 post  n_17 σ y1 y2 y3 → Gz p l e r_X10_order s m args below meth c D ad ty 5 0 0 (Ez below D ad ty nI0 post (fun _ _ => False) args s 0 0) σ 17 [(0, .ref (ad 43)), (1, .int y1), (2, .int y2), (3, .int y3)] [] := by
      intro n_17; induction n_17 with
      | zero => intro σ y1 y2 y3 hp; exact False.elim hp
      | succ n_17 ih_17 =>
        intro σ y1 y2 y3 hp
        have hp : B_X10_order_17 post  (L_X10_order_17 post  n_17) σ y1 y2 y3 := hp
        unfold B_X10_order_17 at hp
        have bb_73 : ∀ (σ : Dz) (y1 : Int32) (y3 : Int32) (z0 : Int32) (z1 : Int32) , B_X10_order_73 post (L_X10_order_17 post  n_17) σ y1 y3 z0 z1 → Gz p l e r_X10_order s m args below meth c D ad ty 5 0 0 (Ez below D ad ty nI0 post (fun _ _ => False) args s 0 0) σ 73 [(0, .ref (ad 43)), (1, .int y1), (3, .int y3)] [.int z0, .int z1] := by
          intro σ y1 y3 z0 z1 hp
          unfold B_X10_order_73 at hp
          refine gz_iadd K dX10_order_73 ?_
          refine gz_istore_n K [(2, .int (z1 + z0)), (0, .ref (ad 43)), (1, .int y1), (3, .int y3)] dX10_order_74 (by decide) rfl ?_
          refine gz_goto K 17 dX10_order_75 (by decide) ?_
          refine gz_sub [1, 2, 0, 3] rfl ?_
          exact ih_17 σ y1 (z1 + z0) y3  hp
        refine gz_iload_n K dX10_order_17 3 rfl ?_
        refine gz_if_ne K 78 dX10_order_18 (by decide) (fun h => ?_) (fun h => ?_)
        · have hp := hp.1 h
          refine gz_aload_n K dX10_order_78 0 rfl ?_
          refine gz_iload_n K dX10_order_79 2 rfl ?_
          refine gz_callV K hex (c_X10_done K.2.2.2.2.2 K.2.2.1 hp) cf_X10_done zq5_153 (by decide) (ce_43 _ _ _ _ _ _) rfl dX10_order_80 rfl rfl (Nat.le_of_ble_eq_true rfl) ⟨Nat.le_of_ble_eq_true rfl, Nat.le_of_ble_eq_true rfl⟩ ⟨Nat.le_of_ble_eq_true rfl, Nat.le_of_ble_eq_true rfl⟩ (Nat.le_of_ble_eq_true rfl) (Nat.le_of_ble_eq_true rfl) (fun _ _ h => h.elim) (fun r80 τ80 hp => ?_)
          refine gz_norm (st' := [.int r80]) (cells' := 0) (slots' := 0) rfl rfl rfl ?_
          exact gz_iret K hr hp dX10_order_83 (Nat.le_of_ble_eq_true rfl) (Nat.le_of_ble_eq_true rfl)
        · have hp := hp.2 h
          refine gz_iconst K (v := (1 : Int32)) dX10_order_21 (by decide) ?_
          refine gz_istore_n K [(3, .int (1 : Int32)), (0, .ref (ad 43)), (1, .int y1), (2, .int y2)] dX10_order_22 (by decide) rfl ?_
          refine gz_iconst K (v := (1 : Int32)) dX10_order_23 (by decide) ?_
          refine gz_istore K [(4, .int (1 : Int32)), (3, .int (1 : Int32)), (0, .ref (ad 43)), (1, .int y1), (2, .int y2)] dX10_order_24 (by decide) rfl ?_
          refine gz_sub [2, 3, 4, 1, 0] rfl ?_
          have ll_26 : ∀ (n_26 : Nat) (σ : Dz) (y1 : Int32) (y2 : Int32) (y3 : Int32) (y4 : Int32) , L_X10_order_26 post (L_X10_order_17 post  n_17) n_26 σ y1 y2 y3 y4 → Gz p l e r_X10_order s m args below meth c D ad ty 5 0 0 (Ez below D ad ty nI0 post (fun _ _ => False) args s 0 0) σ 26 [(0, .ref (ad 43)), (1, .int y1), (2, .int y2), (3, .int y3), (4, .int y4)] [] := by
            intro n_26; induction n_26 with
            | zero => intro σ y1 y2 y3 y4 hp; exact False.elim hp
            | succ n_26 ih_26 =>
              intro σ y1 y2 y3 y4 hp
              have hp : B_X10_order_26 post (L_X10_order_17 post  n_17) (L_X10_order_26 post (L_X10_order_17 post  n_17) n_26) σ y1 y2 y3 y4 := hp
              unfold B_X10_order_26 at hp
              have bb_56 : ∀ (σ : Dz) (y1 : Int32) (y2 : Int32) (y4 : Int32) (z0 : Int32) , B_X10_order_56 post (L_X10_order_17 post  n_17) (L_X10_order_26 post (L_X10_order_17 post  n_17) n_26) σ y1 y2 y4 z0 → Gz p l e r_X10_order s m args below meth c D ad ty 5 0 0 (Ez below D ad ty nI0 post (fun _ _ => False) args s 0 0) σ 56 [(0, .ref (ad 43)), (1, .int y1), (2, .int y2), (4, .int y4)] [.int z0] := by
                intro σ y1 y2 y4 z0 hp
                unfold B_X10_order_56 at hp
                refine gz_istore_n K [(3, .int z0), (0, .ref (ad 43)), (1, .int y1), (2, .int y2), (4, .int y4)] dX10_order_56 (by decide) rfl ?_
                refine gz_iinc K (v := (y4 + 1)) [(4, .int (y4 + 1)), (3, .int z0), (0, .ref (ad 43)), (1, .int y1), (2, .int y2)] dX10_order_57 4 rfl (by first | rfl | decide) (by decide) rfl ?_
                refine gz_goto K 26 dX10_order_60 (by decide) ?_
                refine gz_sub [2, 3, 4, 1, 0] rfl ?_
                exact ih_26 σ y1 y2 z0 (y4 + 1)  hp
              have bb_55 : ∀ (σ : Dz) (y1 : Int32) (y2 : Int32) (y4 : Int32) , B_X10_order_55 post (L_X10_order_17 post  n_17) (L_X10_order_26 post (L_X10_order_17 post  n_17) n_26) σ y1 y2 y4 → Gz p l e r_X10_order s m args below meth c D ad ty 5 0 0 (Ez below D ad ty nI0 post (fun _ _ => False) args s 0 0) σ 55 [(0, .ref (ad 43)), (1, .int y1), (2, .int y2), (4, .int y4)] [] := by
                intro σ y1 y2 y4 hp
                unfold B_X10_order_55 at hp
                refine gz_iconst K (v := (0 : Int32)) dX10_order_55 (by decide) ?_
                exact bb_56 σ y1 y2 y4 (0 : Int32)  hp
              refine gz_iload K dX10_order_26 4 rfl ?_
              refine gz_aload_n K dX10_order_28 0 rfl ?_
              refine gz_get K (v := .int (gz_i σ 43 1)) (by decide) (ce_43 _ _ _ _ _ _) rfl inz_X10 1 (by decide) zq5_32 rfl dX10_order_29 ?_
              refine gz_icmp_gt K 63 dX10_order_32 (by decide) (fun h => ?_) (fun h => ?_)
              · have hp := hp.1 h
                refine gz_iload_n K dX10_order_63 2 rfl ?_
                refine gz_iload_n K dX10_order_64 3 rfl ?_
                refine gz_if_eq K 72 dX10_order_65 (by decide) (fun h => ?_) (fun h => ?_)
                · have hp := hp.1 h
                  refine gz_iconst K (v := (1 : Int32)) dX10_order_72 (by decide) ?_
                  refine gz_sub [0, 1, 3] rfl ?_
                  exact bb_73 σ y1 y3 (1 : Int32) y2  hp
                · have hp := hp.2 h
                  refine gz_iconst K (v := (0 : Int32)) dX10_order_68 (by decide) ?_
                  refine gz_goto K 73 dX10_order_69 (by decide) ?_
                  refine gz_sub [0, 1, 3] rfl ?_
                  exact bb_73 σ y1 y3 (0 : Int32) y2  hp
              · have hp := hp.2 h
                refine gz_iload_n K dX10_order_35 3 rfl ?_
                refine gz_if_eq K 55 dX10_order_36 (by decide) (fun h => ?_) (fun h => ?_)
                · have hp := hp.1 h
                  refine gz_sub [0, 1, 2, 4] rfl ?_
                  exact bb_55 σ y1 y2 y4  hp
                · have hp := hp.2 h
                  refine gz_iload_n K dX10_order_39 2 rfl ?_
                  refine gz_aload_n K dX10_order_40 0 rfl ?_
                  refine gz_iload_n K dX10_order_41 1 rfl ?_
                  refine gz_iload K dX10_order_42 4 rfl ?_
                  refine gz_callV K hex (c_X10_cycleOf K.2.2.2.2.2 K.2.2.1 hp) cf_X10_cycleOf zq6_18 (by decide) (ce_43 _ _ _ _ _ _) rfl dX10_order_44 rfl rfl (Nat.le_of_ble_eq_true rfl) ⟨Nat.le_of_ble_eq_true rfl, Nat.le_of_ble_eq_true rfl⟩ ⟨Nat.le_of_ble_eq_true rfl, Nat.le_of_ble_eq_true rfl⟩ (Nat.le_of_ble_eq_true rfl) (Nat.le_of_ble_eq_true rfl) (fun _ _ h => h.elim) (fun r44 τ hp => ?_)
                  obtain ⟨rfl, hp⟩ := hp
                  refine gz_norm (st' := [.int r44, .int y2]) (cells' := 0) (slots' := 0) rfl rfl rfl ?_
                  obtain ⟨h, hp⟩ := hp
                  refine gz_irem K dX10_order_47 h ?_
                  refine gz_if_ne K 55 dX10_order_48 (by decide) (fun h => ?_) (fun h => ?_)
                  · have hp := hp.1 h
                    refine gz_sub [0, 1, 2, 4] rfl ?_
                    exact bb_55 σ y1 y2 y4  hp
                  · have hp := hp.2 h
                    refine gz_iconst K (v := (1 : Int32)) dX10_order_51 (by decide) ?_
                    refine gz_goto K 56 dX10_order_52 (by decide) ?_
                    refine gz_sub [0, 1, 2, 4] rfl ?_
                    exact bb_56 σ y1 y2 y4 (1 : Int32)  hp
          obtain ⟨n, hp⟩ := hp
          exact ll_26 n σ y1 y2 (1 : Int32) (1 : Int32)  hp
    obtain ⟨n, hp⟩ := hp
    exact ll_17 n σ x1 (1 : Int32) (0 : Int32)  hp
  · have hp := hp.2 h
    refine gz_aload_n K dX10_order_7 0 rfl ?_
    refine gz_iconst K (v := (1 : Int32)) dX10_order_8 (by decide) ?_
    refine gz_callV K hex (c_X10_fails K.2.2.2.2.2 K.2.2.1 hp) cf_X10_fails zq5_149 (by decide) (ce_43 _ _ _ _ _ _) rfl dX10_order_9 rfl rfl (Nat.le_of_ble_eq_true rfl) ⟨Nat.le_of_ble_eq_true rfl, Nat.le_of_ble_eq_true rfl⟩ ⟨Nat.le_of_ble_eq_true rfl, Nat.le_of_ble_eq_true rfl⟩ (Nat.le_of_ble_eq_true rfl) (Nat.le_of_ble_eq_true rfl) (fun _ _ h => h.elim) (fun r9 τ9 hp => ?_)
    refine gz_norm (st' := [.int r9]) (cells' := 0) (slots' := 0) rfl rfl rfl ?_
    exact gz_iret K hr hp dX10_order_12 (Nat.le_of_ble_eq_true rfl) (Nat.le_of_ble_eq_true rfl)
set_option maxRecDepth 100000 in
set_option maxHeartbeats 4000000 in
theorem c_X10_isOdd {l : Launch} {D : va_G} {ad : Nat → Nat} {ty : Nat → ClassId} (hl : l.stackTraces = false) (hj : ∀ i j, i < 68 → j < 68 → ad i = ad j → i = j) {σ : Dz} {x1 : Int32} {post : Int32 → Dz → Prop} (hp : P_X10_isOdd σ x1 post) : Mz l D ad ty yX10_isOdd cX10_isOdd 5 (some .boolean) r_X10_isOdd nI0 σ [.ref (ad 43), .int x1] post (fun _ _ => False) := by
  refine mz_of (by decide) hl hj (Nat.le_of_ble_eq_true rfl) ?_
  intro p e s m args below meth c K hex hr
  unfold P_X10_isOdd at hp
  show Gz p l e r_X10_isOdd s m args below meth c D ad ty 5 0 0 (Ez below D ad ty nI0 post (fun _ _ => False) args s 0 0) σ 0 [(0, .ref (ad 43)), (1, .int x1)] []
  refine gz_iload_n K dX10_isOdd_0 1 rfl ?_
  refine gz_callS K hex (c_X10_isSlot K.2.2.2.2.2 K.2.2.1 hp) cf_X10_isSlot zq5_189 dX10_isOdd_1 rfl rfl (Nat.le_of_ble_eq_true rfl) ⟨Nat.le_of_ble_eq_true rfl, Nat.le_of_ble_eq_true rfl⟩ ⟨Nat.le_of_ble_eq_true rfl, Nat.le_of_ble_eq_true rfl⟩ (Nat.le_of_ble_eq_true rfl) (Nat.le_of_ble_eq_true rfl) (fun _ _ h => h.elim) (fun r1 τ hp => ?_)
  obtain ⟨rfl, hp⟩ := hp
  refine gz_norm (st' := [.int r1]) (cells' := 0) (slots' := 0) rfl rfl rfl ?_
  refine gz_if_ne K 13 dX10_isOdd_4 (by decide) (fun h => ?_) (fun h => ?_)
  · have hp := hp.1 h
    refine gz_iconst K (v := (0 : Int32)) dX10_isOdd_13 (by decide) ?_
    refine gz_istore_n K [(2, .int (0 : Int32)), (0, .ref (ad 43)), (1, .int x1)] dX10_isOdd_14 (by decide) rfl ?_
    refine gz_iconst K (v := (1 : Int32)) dX10_isOdd_15 (by decide) ?_
    refine gz_istore_n K [(3, .int (1 : Int32)), (2, .int (0 : Int32)), (0, .ref (ad 43)), (1, .int x1)] dX10_isOdd_16 (by decide) rfl ?_
    refine gz_sub [2, 3, 1, 0] rfl ?_
    have ll_17 : ∀ (n_17 : Nat) (σ : Dz) (y1 : Int32) (y2 : Int32) (y3 : Int32) , L_X10_isOdd_17 post  n_17 σ y1 y2 y3 → Gz p l e r_X10_isOdd s m args below meth c D ad ty 5 0 0 (Ez below D ad ty nI0 post (fun _ _ => False) args s 0 0) σ 17 [(0, .ref (ad 43)), (1, .int y1), (2, .int y2), (3, .int y3)] [] := by
      intro n_17; induction n_17 with
      | zero => intro σ y1 y2 y3 hp; exact False.elim hp
      | succ n_17 ih_17 =>
        intro σ y1 y2 y3 hp
        have hp : B_X10_isOdd_17 post  (L_X10_isOdd_17 post  n_17) σ y1 y2 y3 := hp
        unfold B_X10_isOdd_17 at hp
        refine gz_iload_n K dX10_isOdd_17 3 rfl ?_
        refine gz_aload_n K dX10_isOdd_18 0 rfl ?_
        refine gz_get K (v := .int (gz_i σ 43 1)) (by decide) (ce_43 _ _ _ _ _ _) rfl inz_X10 1 (by decide) zq5_32 rfl dX10_isOdd_19 ?_
        refine gz_icmp_gt K 70 dX10_isOdd_22 (by decide) (fun h => ?_) (fun h => ?_)
        · have hp := hp.1 h
          refine gz_aload_n K dX10_isOdd_70 0 rfl ?_
          refine gz_iload_n K dX10_isOdd_71 2 rfl ?_
          refine gz_iconst K (v := (2 : Int32)) dX10_isOdd_72 (by decide) ?_
          refine gz_irem K dX10_isOdd_73 (by decide) ?_
          refine gz_iconst K (v := (1 : Int32)) dX10_isOdd_74 (by decide) ?_
          refine gz_icmp_ne K 82 dX10_isOdd_75 (by decide) (fun h => ?_) (fun h => ?_)
          · have hp := hp.1 h
            refine gz_iconst K (v := (0 : Int32)) dX10_isOdd_82 (by decide) ?_
            refine gz_callV K hex (c_X10_so K.2.2.2.2.2 K.2.2.1 hp) cf_X10_so zq6_34 (by decide) (ce_43 _ _ _ _ _ _) rfl dX10_isOdd_83 rfl rfl (Nat.le_of_ble_eq_true rfl) ⟨Nat.le_of_ble_eq_true rfl, Nat.le_of_ble_eq_true rfl⟩ ⟨Nat.le_of_ble_eq_true rfl, Nat.le_of_ble_eq_true rfl⟩ (Nat.le_of_ble_eq_true rfl) (Nat.le_of_ble_eq_true rfl) (fun _ _ h => h.elim) (fun r83 τ83 hp => ?_)
            refine gz_norm (st' := [.int r83]) (cells' := 0) (slots' := 0) rfl rfl rfl ?_
            exact gz_zret K hr (nB hp.1) hp.2 dX10_isOdd_86 (Nat.le_of_ble_eq_true rfl) (Nat.le_of_ble_eq_true rfl)
          · have hp := hp.2 h
            refine gz_iconst K (v := (1 : Int32)) dX10_isOdd_78 (by decide) ?_
            refine gz_goto K 83 dX10_isOdd_79 (by decide) ?_
            refine gz_callV K hex (c_X10_so K.2.2.2.2.2 K.2.2.1 hp) cf_X10_so zq6_34 (by decide) (ce_43 _ _ _ _ _ _) rfl dX10_isOdd_83 rfl rfl (Nat.le_of_ble_eq_true rfl) ⟨Nat.le_of_ble_eq_true rfl, Nat.le_of_ble_eq_true rfl⟩ ⟨Nat.le_of_ble_eq_true rfl, Nat.le_of_ble_eq_true rfl⟩ (Nat.le_of_ble_eq_true rfl) (Nat.le_of_ble_eq_true rfl) (fun _ _ h => h.elim) (fun r83 τ83 hp => ?_)
            refine gz_norm (st' := [.int r83]) (cells' := 0) (slots' := 0) rfl rfl rfl ?_
            exact gz_zret K hr (nB hp.1) hp.2 dX10_isOdd_86 (Nat.le_of_ble_eq_true rfl) (Nat.le_of_ble_eq_true rfl)
        · have hp := hp.2 h
          refine gz_iconst K (v := (1 : Int32)) dX10_isOdd_25 (by decide) ?_
          refine gz_istore K [(4, .int (1 : Int32)), (0, .ref (ad 43)), (1, .int y1), (2, .int y2), (3, .int y3)] dX10_isOdd_26 (by decide) rfl ?_
          refine gz_sub [1, 2, 3, 4, 0] rfl ?_
          have ll_28 : ∀ (n_28 : Nat) (σ : Dz) (y1 : Int32) (y2 : Int32) (y3 : Int32) (y4 : Int32) , L_X10_isOdd_28 post (L_X10_isOdd_17 post  n_17) n_28 σ y1 y2 y3 y4 → Gz p l e r_X10_isOdd s m args below meth c D ad ty 5 0 0 (Ez below D ad ty nI0 post (fun _ _ => False) args s 0 0) σ 28 [(0, .ref (ad 43)), (1, .int y1), (2, .int y2), (3, .int y3), (4, .int y4)] [] := by
            intro n_28; induction n_28 with
            | zero => intro σ y1 y2 y3 y4 hp; exact False.elim hp
            | succ n_28 ih_28 =>
              intro σ y1 y2 y3 y4 hp
              have hp : B_X10_isOdd_28 post (L_X10_isOdd_17 post  n_17) (L_X10_isOdd_28 post (L_X10_isOdd_17 post  n_17) n_28) σ y1 y2 y3 y4 := hp
              unfold B_X10_isOdd_28 at hp
              have bb_56 : ∀ (σ : Dz) (y1 : Int32) (y3 : Int32) (y4 : Int32) (z0 : Int32) (z1 : Int32) , B_X10_isOdd_56 post (L_X10_isOdd_17 post  n_17) (L_X10_isOdd_28 post (L_X10_isOdd_17 post  n_17) n_28) σ y1 y3 y4 z0 z1 → Gz p l e r_X10_isOdd s m args below meth c D ad ty 5 0 0 (Ez below D ad ty nI0 post (fun _ _ => False) args s 0 0) σ 56 [(0, .ref (ad 43)), (1, .int y1), (3, .int y3), (4, .int y4)] [.int z0, .int z1] := by
                intro σ y1 y3 y4 z0 z1 hp
                unfold B_X10_isOdd_56 at hp
                refine gz_iadd K dX10_isOdd_56 ?_
                refine gz_istore_n K [(2, .int (z1 + z0)), (0, .ref (ad 43)), (1, .int y1), (3, .int y3), (4, .int y4)] dX10_isOdd_57 (by decide) rfl ?_
                refine gz_iinc K (v := (y4 + 1)) [(4, .int (y4 + 1)), (2, .int (z1 + z0)), (0, .ref (ad 43)), (1, .int y1), (3, .int y3)] dX10_isOdd_58 4 rfl (by first | rfl | decide) (by decide) rfl ?_
                refine gz_goto K 28 dX10_isOdd_61 (by decide) ?_
                refine gz_sub [2, 3, 1, 4, 0] rfl ?_
                exact ih_28 σ y1 (z1 + z0) y3 (y4 + 1)  hp
              refine gz_iload K dX10_isOdd_28 4 rfl ?_
              refine gz_iload_n K dX10_isOdd_30 3 rfl ?_
              refine gz_icmp_ge K 64 dX10_isOdd_31 (by decide) (fun h => ?_) (fun h => ?_)
              · have hp := hp.1 h
                refine gz_iinc K (v := (y3 + 1)) [(3, .int (y3 + 1)), (0, .ref (ad 43)), (1, .int y1), (2, .int y2), (4, .int y4)] dX10_isOdd_64 3 rfl (by first | rfl | decide) (by decide) rfl ?_
                refine gz_goto K 17 dX10_isOdd_67 (by decide) ?_
                refine gz_sub [1, 2, 3, 0] rfl ?_
                exact ih_17 σ y1 y2 (y3 + 1)  hp
              · have hp := hp.2 h
                refine gz_iload_n K dX10_isOdd_34 2 rfl ?_
                refine gz_aload_n K dX10_isOdd_35 0 rfl ?_
                refine gz_iload_n K dX10_isOdd_36 1 rfl ?_
                refine gz_iload_n K dX10_isOdd_37 3 rfl ?_
                refine gz_callV K hex (c_X10_ledBy K.2.2.2.2.2 K.2.2.1 hp) cf_X10_ledBy zq6_22 (by decide) (ce_43 _ _ _ _ _ _) rfl dX10_isOdd_38 rfl rfl (Nat.le_of_ble_eq_true rfl) ⟨Nat.le_of_ble_eq_true rfl, Nat.le_of_ble_eq_true rfl⟩ ⟨Nat.le_of_ble_eq_true rfl, Nat.le_of_ble_eq_true rfl⟩ (Nat.le_of_ble_eq_true rfl) (Nat.le_of_ble_eq_true rfl) (fun _ _ h => h.elim) (fun r38 τ hp => ?_)
                obtain ⟨rfl, hp⟩ := hp
                refine gz_norm (st' := [.int r38, .int y2]) (cells' := 0) (slots' := 0) rfl rfl rfl ?_
                refine gz_aload_n K dX10_isOdd_41 0 rfl ?_
                refine gz_iload_n K dX10_isOdd_42 1 rfl ?_
                refine gz_iload K dX10_isOdd_43 4 rfl ?_
                refine gz_callV K hex (c_X10_ledBy K.2.2.2.2.2 K.2.2.1 hp) cf_X10_ledBy zq6_22 (by decide) (ce_43 _ _ _ _ _ _) rfl dX10_isOdd_45 rfl rfl (Nat.le_of_ble_eq_true rfl) ⟨Nat.le_of_ble_eq_true rfl, Nat.le_of_ble_eq_true rfl⟩ ⟨Nat.le_of_ble_eq_true rfl, Nat.le_of_ble_eq_true rfl⟩ (Nat.le_of_ble_eq_true rfl) (Nat.le_of_ble_eq_true rfl) (fun _ _ h => h.elim) (fun r45 τ hp => ?_)
                obtain ⟨rfl, hp⟩ := hp
                refine gz_norm (st' := [.int r45, .int r38, .int y2]) (cells' := 0) (slots' := 0) rfl rfl rfl ?_
                refine gz_icmp_ge K 55 dX10_isOdd_48 (by decide) (fun h => ?_) (fun h => ?_)
                · have hp := hp.1 h
                  refine gz_iconst K (v := (0 : Int32)) dX10_isOdd_55 (by decide) ?_
                  refine gz_sub [0, 1, 3, 4] rfl ?_
                  exact bb_56 σ y1 y3 y4 (0 : Int32) y2  hp
                · have hp := hp.2 h
                  refine gz_iconst K (v := (1 : Int32)) dX10_isOdd_51 (by decide) ?_
                  refine gz_goto K 56 dX10_isOdd_52 (by decide) ?_
                  refine gz_sub [0, 1, 3, 4] rfl ?_
                  exact bb_56 σ y1 y3 y4 (1 : Int32) y2  hp
          obtain ⟨n, hp⟩ := hp
          exact ll_28 n σ y1 y2 y3 (1 : Int32)  hp
    obtain ⟨n, hp⟩ := hp
    exact ll_17 n σ x1 (0 : Int32) (1 : Int32)  hp
  · have hp := hp.2 h
    refine gz_aload_n K dX10_isOdd_7 0 rfl ?_
    refine gz_iconst K (v := (1 : Int32)) dX10_isOdd_8 (by decide) ?_
    refine gz_callV K hex (c_X10_not K.2.2.2.2.2 K.2.2.1 hp) cf_X10_not zq6_30 (by decide) (ce_43 _ _ _ _ _ _) rfl dX10_isOdd_9 rfl rfl (Nat.le_of_ble_eq_true rfl) ⟨Nat.le_of_ble_eq_true rfl, Nat.le_of_ble_eq_true rfl⟩ ⟨Nat.le_of_ble_eq_true rfl, Nat.le_of_ble_eq_true rfl⟩ (Nat.le_of_ble_eq_true rfl) (Nat.le_of_ble_eq_true rfl) (fun _ _ h => h.elim) (fun r9 τ9 hp => ?_)
    refine gz_norm (st' := [.int r9]) (cells' := 0) (slots' := 0) rfl rfl rfl ?_
    exact gz_zret K hr (nB hp.1) hp.2 dX10_isOdd_12 (Nat.le_of_ble_eq_true rfl) (Nat.le_of_ble_eq_true rfl)
set_option maxRecDepth 100000 in
set_option maxHeartbeats 4000000 in
theorem c_X10_cycleLength {l : Launch} {D : va_G} {ad : Nat → Nat} {ty : Nat → ClassId} (hl : l.stackTraces = false) (hj : ∀ i j, i < 68 → j < 68 → ad i = ad j → i = j) {σ : Dz} {x1 : Int32} {x2 : Int32} {post : Int32 → Dz → Prop} (hp : P_X10_cycleLength σ x1 x2 post) : Mz l D ad ty yX10_cycleLength cX10_cycleLength 3 (some .int) r_X10_cycleLength nI0 σ [.ref (ad 43), .int x1, .int x2] post (fun _ _ => False) := by
  refine mz_of (by decide) hl hj (Nat.le_of_ble_eq_true rfl) ?_
  intro p e s m args below meth c K hex hr
  unfold P_X10_cycleLength at hp
  show Gz p l e r_X10_cycleLength s m args below meth c D ad ty 3 0 0 (Ez below D ad ty nI0 post (fun _ _ => False) args s 0 0) σ 0 [(0, .ref (ad 43)), (1, .int x1), (2, .int x2)] []
  refine gz_iload_n K dX10_cycleLength_0 1 rfl ?_
  refine gz_callS K hex (c_X10_isSlot K.2.2.2.2.2 K.2.2.1 hp) cf_X10_isSlot zq5_189 dX10_cycleLength_1 rfl rfl (Nat.le_of_ble_eq_true rfl) ⟨Nat.le_of_ble_eq_true rfl, Nat.le_of_ble_eq_true rfl⟩ ⟨Nat.le_of_ble_eq_true rfl, Nat.le_of_ble_eq_true rfl⟩ (Nat.le_of_ble_eq_true rfl) (Nat.le_of_ble_eq_true rfl) (fun _ _ h => h.elim) (fun r1 τ hp => ?_)
  obtain ⟨rfl, hp⟩ := hp
  refine gz_norm (st' := [.int r1]) (cells' := 0) (slots' := 0) rfl rfl rfl ?_
  refine gz_if_eq K 28 dX10_cycleLength_4 (by decide) (fun h => ?_) (fun h => ?_)
  · have hp := hp.1 h
    refine gz_aload_n K dX10_cycleLength_28 0 rfl ?_
    refine gz_iconst K (v := (1 : Int32)) dX10_cycleLength_29 (by decide) ?_
    refine gz_callV K hex (c_X10_fails K.2.2.2.2.2 K.2.2.1 hp) cf_X10_fails zq5_149 (by decide) (ce_43 _ _ _ _ _ _) rfl dX10_cycleLength_30 rfl rfl (Nat.le_of_ble_eq_true rfl) ⟨Nat.le_of_ble_eq_true rfl, Nat.le_of_ble_eq_true rfl⟩ ⟨Nat.le_of_ble_eq_true rfl, Nat.le_of_ble_eq_true rfl⟩ (Nat.le_of_ble_eq_true rfl) (Nat.le_of_ble_eq_true rfl) (fun _ _ h => h.elim) (fun r30 τ30 hp => ?_)
    refine gz_norm (st' := [.int r30]) (cells' := 0) (slots' := 0) rfl rfl rfl ?_
    exact gz_iret K hr hp dX10_cycleLength_33 (Nat.le_of_ble_eq_true rfl) (Nat.le_of_ble_eq_true rfl)
  · have hp := hp.2 h
    refine gz_aload_n K dX10_cycleLength_7 0 rfl ?_
    refine gz_iload_n K dX10_cycleLength_8 2 rfl ?_
    refine gz_callV K hex (c_X10_isPosition K.2.2.2.2.2 K.2.2.1 hp) cf_X10_isPosition zq5_181 (by decide) (ce_43 _ _ _ _ _ _) rfl dX10_cycleLength_9 rfl rfl (Nat.le_of_ble_eq_true rfl) ⟨Nat.le_of_ble_eq_true rfl, Nat.le_of_ble_eq_true rfl⟩ ⟨Nat.le_of_ble_eq_true rfl, Nat.le_of_ble_eq_true rfl⟩ (Nat.le_of_ble_eq_true rfl) (Nat.le_of_ble_eq_true rfl) (fun _ _ h => h.elim) (fun r9 τ hp => ?_)
    obtain ⟨rfl, hp⟩ := hp
    refine gz_norm (st' := [.int r9]) (cells' := 0) (slots' := 0) rfl rfl rfl ?_
    refine gz_if_eq K 28 dX10_cycleLength_12 (by decide) (fun h => ?_) (fun h => ?_)
    · have hp := hp.1 h
      refine gz_aload_n K dX10_cycleLength_28 0 rfl ?_
      refine gz_iconst K (v := (1 : Int32)) dX10_cycleLength_29 (by decide) ?_
      refine gz_callV K hex (c_X10_fails K.2.2.2.2.2 K.2.2.1 hp) cf_X10_fails zq5_149 (by decide) (ce_43 _ _ _ _ _ _) rfl dX10_cycleLength_30 rfl rfl (Nat.le_of_ble_eq_true rfl) ⟨Nat.le_of_ble_eq_true rfl, Nat.le_of_ble_eq_true rfl⟩ ⟨Nat.le_of_ble_eq_true rfl, Nat.le_of_ble_eq_true rfl⟩ (Nat.le_of_ble_eq_true rfl) (Nat.le_of_ble_eq_true rfl) (fun _ _ h => h.elim) (fun r30 τ30 hp => ?_)
      refine gz_norm (st' := [.int r30]) (cells' := 0) (slots' := 0) rfl rfl rfl ?_
      exact gz_iret K hr hp dX10_cycleLength_33 (Nat.le_of_ble_eq_true rfl) (Nat.le_of_ble_eq_true rfl)
    · have hp := hp.2 h
      refine gz_aload_n K dX10_cycleLength_15 0 rfl ?_
      refine gz_aload_n K dX10_cycleLength_16 0 rfl ?_
      refine gz_iload_n K dX10_cycleLength_17 1 rfl ?_
      refine gz_iload_n K dX10_cycleLength_18 2 rfl ?_
      refine gz_callV K hex (c_X10_cycleOf K.2.2.2.2.2 K.2.2.1 hp) cf_X10_cycleOf zq6_18 (by decide) (ce_43 _ _ _ _ _ _) rfl dX10_cycleLength_19 rfl rfl (Nat.le_of_ble_eq_true rfl) ⟨Nat.le_of_ble_eq_true rfl, Nat.le_of_ble_eq_true rfl⟩ ⟨Nat.le_of_ble_eq_true rfl, Nat.le_of_ble_eq_true rfl⟩ (Nat.le_of_ble_eq_true rfl) (Nat.le_of_ble_eq_true rfl) (fun _ _ h => h.elim) (fun r19 τ hp => ?_)
      obtain ⟨rfl, hp⟩ := hp
      refine gz_norm (st' := [.int r19, .ref (ad 43)]) (cells' := 0) (slots' := 0) rfl rfl rfl ?_
      refine gz_callV K hex (c_X10_done K.2.2.2.2.2 K.2.2.1 hp) cf_X10_done zq5_153 (by decide) (ce_43 _ _ _ _ _ _) rfl dX10_cycleLength_22 rfl rfl (Nat.le_of_ble_eq_true rfl) ⟨Nat.le_of_ble_eq_true rfl, Nat.le_of_ble_eq_true rfl⟩ ⟨Nat.le_of_ble_eq_true rfl, Nat.le_of_ble_eq_true rfl⟩ (Nat.le_of_ble_eq_true rfl) (Nat.le_of_ble_eq_true rfl) (fun _ _ h => h.elim) (fun r22 τ22 hp => ?_)
      refine gz_norm (st' := [.int r22]) (cells' := 0) (slots' := 0) rfl rfl rfl ?_
      refine gz_goto K 33 dX10_cycleLength_25 (by decide) ?_
      exact gz_iret K hr hp dX10_cycleLength_33 (Nat.le_of_ble_eq_true rfl) (Nat.le_of_ble_eq_true rfl)
set_option maxRecDepth 100000 in
set_option maxHeartbeats 4000000 in
theorem c_X10_isSame {l : Launch} {D : va_G} {ad : Nat → Nat} {ty : Nat → ClassId} (hl : l.stackTraces = false) (hj : ∀ i j, i < 68 → j < 68 → ad i = ad j → i = j) {σ : Dz} {x1 : Int32} {x2 : Int32} {post : Int32 → Dz → Prop} (hp : P_X10_isSame σ x1 x2 post) : Mz l D ad ty yX10_isSame cX10_isSame 5 (some .boolean) r_X10_isSame nI0 σ [.ref (ad 43), .int x1, .int x2] post (fun _ _ => False) := by
  refine mz_of (by decide) hl hj (Nat.le_of_ble_eq_true rfl) ?_
  intro p e s m args below meth c K hex hr
  unfold P_X10_isSame at hp
  show Gz p l e r_X10_isSame s m args below meth c D ad ty 5 0 0 (Ez below D ad ty nI0 post (fun _ _ => False) args s 0 0) σ 0 [(0, .ref (ad 43)), (1, .int x1), (2, .int x2)] []
  refine gz_iload_n K dX10_isSame_0 1 rfl ?_
  refine gz_callS K hex (c_X10_isSlot K.2.2.2.2.2 K.2.2.1 hp) cf_X10_isSlot zq5_189 dX10_isSame_1 rfl rfl (Nat.le_of_ble_eq_true rfl) ⟨Nat.le_of_ble_eq_true rfl, Nat.le_of_ble_eq_true rfl⟩ ⟨Nat.le_of_ble_eq_true rfl, Nat.le_of_ble_eq_true rfl⟩ (Nat.le_of_ble_eq_true rfl) (Nat.le_of_ble_eq_true rfl) (fun _ _ h => h.elim) (fun r1 τ hp => ?_)
  obtain ⟨rfl, hp⟩ := hp
  refine gz_norm (st' := [.int r1]) (cells' := 0) (slots' := 0) rfl rfl rfl ?_
  refine gz_if_eq K 14 dX10_isSame_4 (by decide) (fun h => ?_) (fun h => ?_)
  · have hp := hp.1 h
    refine gz_aload_n K dX10_isSame_14 0 rfl ?_
    refine gz_iconst K (v := (1 : Int32)) dX10_isSame_15 (by decide) ?_
    refine gz_callV K hex (c_X10_not K.2.2.2.2.2 K.2.2.1 hp) cf_X10_not zq6_30 (by decide) (ce_43 _ _ _ _ _ _) rfl dX10_isSame_16 rfl rfl (Nat.le_of_ble_eq_true rfl) ⟨Nat.le_of_ble_eq_true rfl, Nat.le_of_ble_eq_true rfl⟩ ⟨Nat.le_of_ble_eq_true rfl, Nat.le_of_ble_eq_true rfl⟩ (Nat.le_of_ble_eq_true rfl) (Nat.le_of_ble_eq_true rfl) (fun _ _ h => h.elim) (fun r16 τ16 hp => ?_)
    refine gz_norm (st' := [.int r16]) (cells' := 0) (slots' := 0) rfl rfl rfl ?_
    exact gz_zret K hr (nB hp.1) hp.2 dX10_isSame_19 (Nat.le_of_ble_eq_true rfl) (Nat.le_of_ble_eq_true rfl)
  · have hp := hp.2 h
    refine gz_iload_n K dX10_isSame_7 2 rfl ?_
    refine gz_callS K hex (c_X10_isSlot K.2.2.2.2.2 K.2.2.1 hp) cf_X10_isSlot zq5_189 dX10_isSame_8 rfl rfl (Nat.le_of_ble_eq_true rfl) ⟨Nat.le_of_ble_eq_true rfl, Nat.le_of_ble_eq_true rfl⟩ ⟨Nat.le_of_ble_eq_true rfl, Nat.le_of_ble_eq_true rfl⟩ (Nat.le_of_ble_eq_true rfl) (Nat.le_of_ble_eq_true rfl) (fun _ _ h => h.elim) (fun r8 τ hp => ?_)
    obtain ⟨rfl, hp⟩ := hp
    refine gz_norm (st' := [.int r8]) (cells' := 0) (slots' := 0) rfl rfl rfl ?_
    refine gz_if_ne K 20 dX10_isSame_11 (by decide) (fun h => ?_) (fun h => ?_)
    · have hp := hp.1 h
      refine gz_iconst K (v := (1 : Int32)) dX10_isSame_20 (by decide) ?_
      refine gz_istore_n K [(3, .int (1 : Int32)), (0, .ref (ad 43)), (1, .int x1), (2, .int x2)] dX10_isSame_21 (by decide) rfl ?_
      refine gz_iconst K (v := (1 : Int32)) dX10_isSame_22 (by decide) ?_
      refine gz_istore K [(4, .int (1 : Int32)), (3, .int (1 : Int32)), (0, .ref (ad 43)), (1, .int x1), (2, .int x2)] dX10_isSame_23 (by decide) rfl ?_
      refine gz_sub [2, 3, 4, 1, 0] rfl ?_
      have ll_25 : ∀ (n_25 : Nat) (σ : Dz) (y1 : Int32) (y2 : Int32) (y3 : Int32) (y4 : Int32) , L_X10_isSame_25 post  n_25 σ y1 y2 y3 y4 → Gz p l e r_X10_isSame s m args below meth c D ad ty 5 0 0 (Ez below D ad ty nI0 post (fun _ _ => False) args s 0 0) σ 25 [(0, .ref (ad 43)), (1, .int y1), (2, .int y2), (3, .int y3), (4, .int y4)] [] := by
        intro n_25; induction n_25 with
        | zero => intro σ y1 y2 y3 y4 hp; exact False.elim hp
        | succ n_25 ih_25 =>
          intro σ y1 y2 y3 y4 hp
          have hp : B_X10_isSame_25 post  (L_X10_isSame_25 post  n_25) σ y1 y2 y3 y4 := hp
          unfold B_X10_isSame_25 at hp
          have bb_60 : ∀ (σ : Dz) (y1 : Int32) (y2 : Int32) (y4 : Int32) (z0 : Int32) , B_X10_isSame_60 post (L_X10_isSame_25 post  n_25) σ y1 y2 y4 z0 → Gz p l e r_X10_isSame s m args below meth c D ad ty 5 0 0 (Ez below D ad ty nI0 post (fun _ _ => False) args s 0 0) σ 60 [(0, .ref (ad 43)), (1, .int y1), (2, .int y2), (4, .int y4)] [.int z0] := by
            intro σ y1 y2 y4 z0 hp
            unfold B_X10_isSame_60 at hp
            refine gz_istore_n K [(3, .int z0), (0, .ref (ad 43)), (1, .int y1), (2, .int y2), (4, .int y4)] dX10_isSame_60 (by decide) rfl ?_
            refine gz_iinc K (v := (y4 + 1)) [(4, .int (y4 + 1)), (3, .int z0), (0, .ref (ad 43)), (1, .int y1), (2, .int y2)] dX10_isSame_61 4 rfl (by first | rfl | decide) (by decide) rfl ?_
            refine gz_goto K 25 dX10_isSame_64 (by decide) ?_
            refine gz_sub [2, 3, 4, 1, 0] rfl ?_
            exact ih_25 σ y1 y2 z0 (y4 + 1)  hp
          have bb_59 : ∀ (σ : Dz) (y1 : Int32) (y2 : Int32) (y4 : Int32) , B_X10_isSame_59 post (L_X10_isSame_25 post  n_25) σ y1 y2 y4 → Gz p l e r_X10_isSame s m args below meth c D ad ty 5 0 0 (Ez below D ad ty nI0 post (fun _ _ => False) args s 0 0) σ 59 [(0, .ref (ad 43)), (1, .int y1), (2, .int y2), (4, .int y4)] [] := by
            intro σ y1 y2 y4 hp
            unfold B_X10_isSame_59 at hp
            refine gz_iconst K (v := (0 : Int32)) dX10_isSame_59 (by decide) ?_
            exact bb_60 σ y1 y2 y4 (0 : Int32)  hp
          refine gz_iload K dX10_isSame_25 4 rfl ?_
          refine gz_aload_n K dX10_isSame_27 0 rfl ?_
          refine gz_get K (v := .int (gz_i σ 43 1)) (by decide) (ce_43 _ _ _ _ _ _) rfl inz_X10 1 (by decide) zq5_32 rfl dX10_isSame_28 ?_
          refine gz_icmp_gt K 67 dX10_isSame_31 (by decide) (fun h => ?_) (fun h => ?_)
          · have hp := hp.1 h
            refine gz_aload_n K dX10_isSame_67 0 rfl ?_
            refine gz_iload_n K dX10_isSame_68 3 rfl ?_
            refine gz_callV K hex (c_X10_so K.2.2.2.2.2 K.2.2.1 hp) cf_X10_so zq6_34 (by decide) (ce_43 _ _ _ _ _ _) rfl dX10_isSame_69 rfl rfl (Nat.le_of_ble_eq_true rfl) ⟨Nat.le_of_ble_eq_true rfl, Nat.le_of_ble_eq_true rfl⟩ ⟨Nat.le_of_ble_eq_true rfl, Nat.le_of_ble_eq_true rfl⟩ (Nat.le_of_ble_eq_true rfl) (Nat.le_of_ble_eq_true rfl) (fun _ _ h => h.elim) (fun r69 τ69 hp => ?_)
            refine gz_norm (st' := [.int r69]) (cells' := 0) (slots' := 0) rfl rfl rfl ?_
            exact gz_zret K hr (nB hp.1) hp.2 dX10_isSame_72 (Nat.le_of_ble_eq_true rfl) (Nat.le_of_ble_eq_true rfl)
          · have hp := hp.2 h
            refine gz_iload_n K dX10_isSame_34 3 rfl ?_
            refine gz_if_eq K 59 dX10_isSame_35 (by decide) (fun h => ?_) (fun h => ?_)
            · have hp := hp.1 h
              refine gz_sub [0, 1, 2, 4] rfl ?_
              exact bb_59 σ y1 y2 y4  hp
            · have hp := hp.2 h
              refine gz_aload_n K dX10_isSame_38 0 rfl ?_
              refine gz_iload_n K dX10_isSame_39 1 rfl ?_
              refine gz_iload K dX10_isSame_40 4 rfl ?_
              refine gz_callV K hex (c_X10_ledBy K.2.2.2.2.2 K.2.2.1 hp) cf_X10_ledBy zq6_22 (by decide) (ce_43 _ _ _ _ _ _) rfl dX10_isSame_42 rfl rfl (Nat.le_of_ble_eq_true rfl) ⟨Nat.le_of_ble_eq_true rfl, Nat.le_of_ble_eq_true rfl⟩ ⟨Nat.le_of_ble_eq_true rfl, Nat.le_of_ble_eq_true rfl⟩ (Nat.le_of_ble_eq_true rfl) (Nat.le_of_ble_eq_true rfl) (fun _ _ h => h.elim) (fun r42 τ hp => ?_)
              obtain ⟨rfl, hp⟩ := hp
              refine gz_norm (st' := [.int r42]) (cells' := 0) (slots' := 0) rfl rfl rfl ?_
              refine gz_aload_n K dX10_isSame_45 0 rfl ?_
              refine gz_iload_n K dX10_isSame_46 2 rfl ?_
              refine gz_iload K dX10_isSame_47 4 rfl ?_
              refine gz_callV K hex (c_X10_ledBy K.2.2.2.2.2 K.2.2.1 hp) cf_X10_ledBy zq6_22 (by decide) (ce_43 _ _ _ _ _ _) rfl dX10_isSame_49 rfl rfl (Nat.le_of_ble_eq_true rfl) ⟨Nat.le_of_ble_eq_true rfl, Nat.le_of_ble_eq_true rfl⟩ ⟨Nat.le_of_ble_eq_true rfl, Nat.le_of_ble_eq_true rfl⟩ (Nat.le_of_ble_eq_true rfl) (Nat.le_of_ble_eq_true rfl) (fun _ _ h => h.elim) (fun r49 τ hp => ?_)
              obtain ⟨rfl, hp⟩ := hp
              refine gz_norm (st' := [.int r49, .int r42]) (cells' := 0) (slots' := 0) rfl rfl rfl ?_
              refine gz_icmp_ne K 59 dX10_isSame_52 (by decide) (fun h => ?_) (fun h => ?_)
              · have hp := hp.1 h
                refine gz_sub [0, 1, 2, 4] rfl ?_
                exact bb_59 σ y1 y2 y4  hp
              · have hp := hp.2 h
                refine gz_iconst K (v := (1 : Int32)) dX10_isSame_55 (by decide) ?_
                refine gz_goto K 60 dX10_isSame_56 (by decide) ?_
                refine gz_sub [0, 1, 2, 4] rfl ?_
                exact bb_60 σ y1 y2 y4 (1 : Int32)  hp
      obtain ⟨n, hp⟩ := hp
      exact ll_25 n σ x1 x2 (1 : Int32) (1 : Int32)  hp
    · have hp := hp.2 h
      refine gz_aload_n K dX10_isSame_14 0 rfl ?_
      refine gz_iconst K (v := (1 : Int32)) dX10_isSame_15 (by decide) ?_
      refine gz_callV K hex (c_X10_not K.2.2.2.2.2 K.2.2.1 hp) cf_X10_not zq6_30 (by decide) (ce_43 _ _ _ _ _ _) rfl dX10_isSame_16 rfl rfl (Nat.le_of_ble_eq_true rfl) ⟨Nat.le_of_ble_eq_true rfl, Nat.le_of_ble_eq_true rfl⟩ ⟨Nat.le_of_ble_eq_true rfl, Nat.le_of_ble_eq_true rfl⟩ (Nat.le_of_ble_eq_true rfl) (Nat.le_of_ble_eq_true rfl) (fun _ _ h => h.elim) (fun r16 τ16 hp => ?_)
      refine gz_norm (st' := [.int r16]) (cells' := 0) (slots' := 0) rfl rfl rfl ?_
      exact gz_zret K hr (nB hp.1) hp.2 dX10_isSame_19 (Nat.le_of_ble_eq_true rfl) (Nat.le_of_ble_eq_true rfl)
set_option maxRecDepth 100000 in
set_option maxHeartbeats 4000000 in
theorem c_X10_perform {l : Launch} {D : va_G} {ad : Nat → Nat} {ty : Nat → ClassId} (hl : l.stackTraces = false) (hj : ∀ i j, i < 68 → j < 68 → ad i = ad j → i = j) {σ : Dz} {x1 : Int32} {x2 : Int32} {post : Int32 → Dz → Prop} (hp : P_X10_perform σ x1 x2 post) : Mz l D ad ty yX10_perform cX10_perform 9 (some .int) r_X10_perform nI0 σ [.ref (ad 43), .int x1, .int x2] post (fun _ _ => False) := by
  refine mz_of (by decide) hl hj (Nat.le_of_ble_eq_true rfl) ?_
  intro p e s m args below meth c K hex hr
  unfold P_X10_perform at hp
  show Gz p l e r_X10_perform s m args below meth c D ad ty 9 0 0 (Ez below D ad ty nI0 post (fun _ _ => False) args s 0 0) σ 0 [(0, .ref (ad 43)), (1, .int x1), (2, .int x2)] []
  refine gz_iload_n K dX10_perform_0 1 rfl ?_
  refine gz_callS K hex (c_X10_isSlot K.2.2.2.2.2 K.2.2.1 hp) cf_X10_isSlot zq5_189 dX10_perform_1 rfl rfl (Nat.le_of_ble_eq_true rfl) ⟨Nat.le_of_ble_eq_true rfl, Nat.le_of_ble_eq_true rfl⟩ ⟨Nat.le_of_ble_eq_true rfl, Nat.le_of_ble_eq_true rfl⟩ (Nat.le_of_ble_eq_true rfl) (Nat.le_of_ble_eq_true rfl) (fun _ _ h => h.elim) (fun r1 τ hp => ?_)
  obtain ⟨rfl, hp⟩ := hp
  refine gz_norm (st' := [.int r1]) (cells' := 0) (slots' := 0) rfl rfl rfl ?_
  refine gz_if_ne K 13 dX10_perform_4 (by decide) (fun h => ?_) (fun h => ?_)
  · have hp := hp.1 h
    refine gz_iload_n K dX10_perform_13 2 rfl ?_
    refine gz_bipush K (v := (-100 : Int32)) dX10_perform_14 (by decide) ?_
    refine gz_bipush K (v := (100 : Int32)) dX10_perform_16 (by decide) ?_
    refine gz_callS K hex (c_X10_in K.2.2.2.2.2 K.2.2.1 hp) cf_X10_in zq5_146 dX10_perform_18 rfl rfl (Nat.le_of_ble_eq_true rfl) ⟨Nat.le_of_ble_eq_true rfl, Nat.le_of_ble_eq_true rfl⟩ ⟨Nat.le_of_ble_eq_true rfl, Nat.le_of_ble_eq_true rfl⟩ (Nat.le_of_ble_eq_true rfl) (Nat.le_of_ble_eq_true rfl) (fun _ _ h => h.elim) (fun r18 τ hp => ?_)
    obtain ⟨rfl, hp⟩ := hp
    refine gz_norm (st' := [.int r18]) (cells' := 0) (slots' := 0) rfl rfl rfl ?_
    refine gz_if_ne K 30 dX10_perform_21 (by decide) (fun h => ?_) (fun h => ?_)
    · have hp := hp.1 h
      refine gz_iconst K (v := (0 : Int32)) dX10_perform_30 (by decide) ?_
      refine gz_istore_n K [(3, .int (0 : Int32)), (0, .ref (ad 43)), (1, .int x1), (2, .int x2)] dX10_perform_31 (by decide) rfl ?_
      refine gz_iconst K (v := (1 : Int32)) dX10_perform_32 (by decide) ?_
      refine gz_istore K [(4, .int (1 : Int32)), (3, .int (0 : Int32)), (0, .ref (ad 43)), (1, .int x1), (2, .int x2)] dX10_perform_33 (by decide) rfl ?_
      refine gz_sub [2, 3, 4, 1, 0] rfl ?_
      have ll_35 : ∀ (n_35 : Nat) (σ : Dz) (y1 : Int32) (y2 : Int32) (y3 : Int32) (y4 : Int32) , L_X10_perform_35 post  n_35 σ y1 y2 y3 y4 → Gz p l e r_X10_perform s m args below meth c D ad ty 9 0 0 (Ez below D ad ty nI0 post (fun _ _ => False) args s 0 0) σ 35 [(0, .ref (ad 43)), (1, .int y1), (2, .int y2), (3, .int y3), (4, .int y4)] [] := by
        intro n_35; induction n_35 with
        | zero => intro σ y1 y2 y3 y4 hp; exact False.elim hp
        | succ n_35 ih_35 =>
          intro σ y1 y2 y3 y4 hp
          have hp : B_X10_perform_35 post  (L_X10_perform_35 post  n_35) σ y1 y2 y3 y4 := hp
          unfold B_X10_perform_35 at hp
          have bb_70 : ∀ (σ : Dz) (y1 : Int32) (y2 : Int32) (y3 : Int32) (y4 : Int32) (z0 : Int32) (z1 : Int32) , B_X10_perform_70 post (L_X10_perform_35 post  n_35) σ y1 y2 y3 y4 z0 z1 → Gz p l e r_X10_perform s m args below meth c D ad ty 9 0 0 (Ez below D ad ty nI0 post (fun _ _ => False) args s 0 0) σ 70 [(0, .ref (ad 43)), (1, .int y1), (2, .int y2), (3, .int y3), (4, .int y4)] [.int z0, .int z1] := by
            intro σ y1 y2 y3 y4 z0 z1 hp
            unfold B_X10_perform_70 at hp
            refine gz_iadd K dX10_perform_70 ?_
            refine gz_istore K [(6, .int (z1 + z0)), (0, .ref (ad 43)), (1, .int y1), (2, .int y2), (3, .int y3), (4, .int y4)] dX10_perform_71 (by decide) rfl ?_
            refine gz_iload K dX10_perform_73 5 rfl ?_
            refine gz_istore K [(7, .int y4), (6, .int (z1 + z0)), (0, .ref (ad 43)), (1, .int y1), (2, .int y2), (3, .int y3), (4, .int y4)] dX10_perform_75 (by decide) rfl ?_
            refine gz_iconst K (v := (0 : Int32)) dX10_perform_77 (by decide) ?_
            refine gz_istore K [(8, .int (0 : Int32)), (7, .int y4), (6, .int (z1 + z0)), (0, .ref (ad 43)), (1, .int y1), (2, .int y2), (3, .int y3), (4, .int y4)] dX10_perform_78 (by decide) rfl ?_
            refine gz_sub [3, 4, 5, 6, 7, 2, 1, 0] rfl ?_
            have ll_80 : ∀ (n_80 : Nat) (σ : Dz) (y1 : Int32) (y2 : Int32) (y3 : Int32) (y4 : Int32) (y6 : Int32) (y7 : Int32) (y8 : Int32) , L_X10_perform_80 post (L_X10_perform_35 post  n_35) n_80 σ y1 y2 y3 y4 y6 y7 y8 → Gz p l e r_X10_perform s m args below meth c D ad ty 9 0 0 (Ez below D ad ty nI0 post (fun _ _ => False) args s 0 0) σ 80 [(0, .ref (ad 43)), (1, .int y1), (2, .int y2), (3, .int y3), (4, .int y4), (6, .int y6), (7, .int y7), (8, .int y8)] [] := by
              intro n_80; induction n_80 with
              | zero => intro σ y1 y2 y3 y4 y6 y7 y8 hp; exact False.elim hp
              | succ n_80 ih_80 =>
                intro σ y1 y2 y3 y4 y6 y7 y8 hp
                have hp : B_X10_perform_80 post (L_X10_perform_35 post  n_35) (L_X10_perform_80 post (L_X10_perform_35 post  n_35) n_80) σ y1 y2 y3 y4 y6 y7 y8 := hp
                unfold B_X10_perform_80 at hp
                refine gz_iload K dX10_perform_80 7 rfl ?_
                refine gz_iload K dX10_perform_82 5 rfl ?_
                refine gz_icmp_ge K 102 dX10_perform_84 (by decide) (fun h => ?_) (fun h => ?_)
                · have hp := hp.1 h
                  refine gz_aload_n K dX10_perform_102 0 rfl ?_
                  refine gz_get K (v := .ref (ad 60)) (by decide) (ce_43 _ _ _ _ _ _) rfl inz_X10 26 (by decide) zq5_57 rfl dX10_perform_103 ?_
                  refine gz_iload K dX10_perform_106 6 rfl ?_
                  refine gz_aload_n K dX10_perform_108 0 rfl ?_
                  refine gz_get K (v := .ref (ad 44)) (by decide) (ce_43 _ _ _ _ _ _) rfl inz_X10 2 (by decide) zq5_33 rfl dX10_perform_109 ?_
                  refine gz_iload K dX10_perform_112 4 rfl ?_
                  obtain ⟨h, hp⟩ := hp
                  refine gz_iald K (by decide) (ce_44 _ _ _ _ _ _) h dX10_perform_114 ?_
                  obtain ⟨h, hp⟩ := hp
                  refine gz_iast K (x := (gz_i σ 44 (y4).toNatClampNeg)) (by decide) (ce_60 ad ty) h dX10_perform_115 ?_
                  refine gz_iinc K (v := (y4 + 1)) [(4, .int (y4 + 1)), (0, .ref (ad 43)), (1, .int y1), (2, .int y2), (3, .int y3), (6, .int y6), (7, .int y7), (8, .int y8)] dX10_perform_116 4 rfl (by first | rfl | decide) (by decide) rfl ?_
                  refine gz_goto K 35 dX10_perform_119 (by decide) ?_
                  refine gz_sub [1, 2, 3, 4, 0] rfl ?_
                  exact ih_35 (sz_i σ 60 (y7).toNatClampNeg (gz_i σ 44 (y4).toNatClampNeg)) y1 y2 y3 (y4 + 1)  hp
                · have hp := hp.2 h
                  refine gz_aload_n K dX10_perform_87 0 rfl ?_
                  refine gz_iload_n K dX10_perform_88 1 rfl ?_
                  refine gz_iload K dX10_perform_89 6 rfl ?_
                  refine gz_callV K hex (c_X10_ledBy K.2.2.2.2.2 K.2.2.1 hp) cf_X10_ledBy zq6_22 (by decide) (ce_43 _ _ _ _ _ _) rfl dX10_perform_91 rfl rfl (Nat.le_of_ble_eq_true rfl) ⟨Nat.le_of_ble_eq_true rfl, Nat.le_of_ble_eq_true rfl⟩ ⟨Nat.le_of_ble_eq_true rfl, Nat.le_of_ble_eq_true rfl⟩ (Nat.le_of_ble_eq_true rfl) (Nat.le_of_ble_eq_true rfl) (fun _ _ h => h.elim) (fun r91 τ hp => ?_)
                  obtain ⟨rfl, hp⟩ := hp
                  refine gz_norm (st' := [.int r91]) (cells' := 0) (slots' := 0) rfl rfl rfl ?_
                  refine gz_istore K [(7, .int r91), (0, .ref (ad 43)), (1, .int y1), (2, .int y2), (3, .int y3), (4, .int y4), (6, .int y6), (8, .int y8)] dX10_perform_94 (by decide) rfl ?_
                  refine gz_iinc K (v := (y8 + 1)) [(8, .int (y8 + 1)), (7, .int r91), (0, .ref (ad 43)), (1, .int y1), (2, .int y2), (3, .int y3), (4, .int y4), (6, .int y6)] dX10_perform_96 7 rfl (by first | rfl | decide) (by decide) rfl ?_
                  refine gz_goto K 80 dX10_perform_99 (by decide) ?_
                  refine gz_sub [2, 3, 4, 5, 6, 7, 1, 0] rfl ?_
                  exact ih_80 σ y1 y2 y3 y4 y6 r91 (y8 + 1)  hp
            obtain ⟨n, hp⟩ := hp
            exact ll_80 n σ y1 y2 y3 y4 (z1 + z0) y4 (0 : Int32)  hp
          refine gz_iload K dX10_perform_35 4 rfl ?_
          refine gz_aload_n K dX10_perform_37 0 rfl ?_
          refine gz_get K (v := .int (gz_i σ 43 1)) (by decide) (ce_43 _ _ _ _ _ _) rfl inz_X10 1 (by decide) zq5_32 rfl dX10_perform_38 ?_
          refine gz_icmp_gt K 122 dX10_perform_41 (by decide) (fun h => ?_) (fun h => ?_)
          · have hp := hp.1 h
            refine gz_iconst K (v := (1 : Int32)) dX10_perform_122 (by decide) ?_
            refine gz_istore K [(4, .int (1 : Int32)), (0, .ref (ad 43)), (1, .int y1), (2, .int y2), (3, .int y3)] dX10_perform_123 (by decide) rfl ?_
            refine gz_sub [1, 4, 0] rfl ?_
            have ll_125 : ∀ (n_125 : Nat) (σ : Dz) (y3 : Int32) (y4 : Int32) , L_X10_perform_125 post  n_125 σ y3 y4 → Gz p l e r_X10_perform s m args below meth c D ad ty 9 0 0 (Ez below D ad ty nI0 post (fun _ _ => False) args s 0 0) σ 125 [(0, .ref (ad 43)), (3, .int y3), (4, .int y4)] [] := by
              intro n_125; induction n_125 with
              | zero => intro σ y3 y4 hp; exact False.elim hp
              | succ n_125 ih_125 =>
                intro σ y3 y4 hp
                have hp : B_X10_perform_125 post  (L_X10_perform_125 post  n_125) σ y3 y4 := hp
                unfold B_X10_perform_125 at hp
                have bb_157 : ∀ (σ : Dz) (y4 : Int32) (z0 : Int32) (z1 : Int32) , B_X10_perform_157 post (L_X10_perform_125 post  n_125) σ y4 z0 z1 → Gz p l e r_X10_perform s m args below meth c D ad ty 9 0 0 (Ez below D ad ty nI0 post (fun _ _ => False) args s 0 0) σ 157 [(0, .ref (ad 43)), (4, .int y4)] [.int z0, .int z1] := by
                  intro σ y4 z0 z1 hp
                  unfold B_X10_perform_157 at hp
                  refine gz_iadd K dX10_perform_157 ?_
                  refine gz_istore_n K [(3, .int (z1 + z0)), (0, .ref (ad 43)), (4, .int y4)] dX10_perform_158 (by decide) rfl ?_
                  refine gz_aload_n K dX10_perform_159 1 rfl ?_
                  refine gz_get K (v := .ref (ad 44)) (by decide) (ce_43 _ _ _ _ _ _) rfl inz_X10 2 (by decide) zq5_33 rfl dX10_perform_160 ?_
                  refine gz_iload K dX10_perform_163 2 rfl ?_
                  refine gz_aload_n K dX10_perform_165 1 rfl ?_
                  refine gz_get K (v := .ref (ad 60)) (by decide) (ce_43 _ _ _ _ _ _) rfl inz_X10 26 (by decide) zq5_57 rfl dX10_perform_166 ?_
                  refine gz_iload K dX10_perform_169 2 rfl ?_
                  obtain ⟨h, hp⟩ := hp
                  refine gz_iald K (by decide) (ce_60 _ _ _ _ _ _) h dX10_perform_171 ?_
                  obtain ⟨h, hp⟩ := hp
                  refine gz_iast K (x := (gz_i σ 60 (y4).toNatClampNeg)) (by decide) (ce_44 ad ty) h dX10_perform_172 ?_
                  refine gz_iinc K (v := (y4 + 1)) [(4, .int (y4 + 1)), (3, .int (z1 + z0)), (0, .ref (ad 43))] dX10_perform_173 2 rfl (by first | rfl | decide) (by decide) rfl ?_
                  refine gz_goto K 125 dX10_perform_176 (by decide) ?_
                  refine gz_sub [2, 1, 0] rfl ?_
                  exact ih_125 (sz_i σ 44 (y4).toNatClampNeg (gz_i σ 60 (y4).toNatClampNeg)) (z1 + z0) (y4 + 1)  hp
                refine gz_iload K dX10_perform_125 2 rfl ?_
                refine gz_aload_n K dX10_perform_127 0 rfl ?_
                refine gz_get K (v := .int (gz_i σ 43 1)) (by decide) (ce_43 _ _ _ _ _ _) rfl inz_X10 1 (by decide) zq5_32 rfl dX10_perform_128 ?_
                refine gz_icmp_gt K 179 dX10_perform_131 (by decide) (fun h => ?_) (fun h => ?_)
                · have hp := hp.1 h
                  refine gz_aload_n K dX10_perform_179 0 rfl ?_
                  refine gz_iload_n K dX10_perform_180 1 rfl ?_
                  refine gz_callV K hex (c_X10_done K.2.2.2.2.2 K.2.2.1 hp) cf_X10_done zq5_153 (by decide) (ce_43 _ _ _ _ _ _) rfl dX10_perform_181 rfl rfl (Nat.le_of_ble_eq_true rfl) ⟨Nat.le_of_ble_eq_true rfl, Nat.le_of_ble_eq_true rfl⟩ ⟨Nat.le_of_ble_eq_true rfl, Nat.le_of_ble_eq_true rfl⟩ (Nat.le_of_ble_eq_true rfl) (Nat.le_of_ble_eq_true rfl) (fun _ _ h => h.elim) (fun r181 τ181 hp => ?_)
                  refine gz_norm (st' := [.int r181]) (cells' := 0) (slots' := 0) rfl rfl rfl ?_
                  exact gz_iret K hr hp dX10_perform_184 (Nat.le_of_ble_eq_true rfl) (Nat.le_of_ble_eq_true rfl)
                · have hp := hp.2 h
                  refine gz_iload_n K dX10_perform_134 1 rfl ?_
                  refine gz_aload_n K dX10_perform_135 0 rfl ?_
                  refine gz_get K (v := .ref (ad 60)) (by decide) (ce_43 _ _ _ _ _ _) rfl inz_X10 26 (by decide) zq5_57 rfl dX10_perform_136 ?_
                  refine gz_iload K dX10_perform_139 2 rfl ?_
                  obtain ⟨h, hp⟩ := hp
                  refine gz_iald K (by decide) (ce_60 _ _ _ _ _ _) h dX10_perform_141 ?_
                  refine gz_aload_n K dX10_perform_142 0 rfl ?_
                  refine gz_get K (v := .ref (ad 44)) (by decide) (ce_43 _ _ _ _ _ _) rfl inz_X10 2 (by decide) zq5_33 rfl dX10_perform_143 ?_
                  refine gz_iload K dX10_perform_146 2 rfl ?_
                  obtain ⟨h, hp⟩ := hp
                  refine gz_iald K (by decide) (ce_44 _ _ _ _ _ _) h dX10_perform_148 ?_
                  refine gz_icmp_eq K 156 dX10_perform_149 (by decide) (fun h => ?_) (fun h => ?_)
                  · have hp := hp.1 h
                    refine gz_iconst K (v := (0 : Int32)) dX10_perform_156 (by decide) ?_
                    refine gz_sub [0, 2] rfl ?_
                    exact bb_157 σ y4 (0 : Int32) y3  hp
                  · have hp := hp.2 h
                    refine gz_iconst K (v := (1 : Int32)) dX10_perform_152 (by decide) ?_
                    refine gz_goto K 157 dX10_perform_153 (by decide) ?_
                    refine gz_sub [0, 2] rfl ?_
                    exact bb_157 σ y4 (1 : Int32) y3  hp
            obtain ⟨n, hp⟩ := hp
            exact ll_125 n σ y3 (1 : Int32)  hp
          · have hp := hp.2 h
            refine gz_aload_n K dX10_perform_44 0 rfl ?_
            refine gz_iload_n K dX10_perform_45 1 rfl ?_
            refine gz_iload K dX10_perform_46 4 rfl ?_
            refine gz_callV K hex (c_X10_cycleOf K.2.2.2.2.2 K.2.2.1 hp) cf_X10_cycleOf zq6_18 (by decide) (ce_43 _ _ _ _ _ _) rfl dX10_perform_48 rfl rfl (Nat.le_of_ble_eq_true rfl) ⟨Nat.le_of_ble_eq_true rfl, Nat.le_of_ble_eq_true rfl⟩ ⟨Nat.le_of_ble_eq_true rfl, Nat.le_of_ble_eq_true rfl⟩ (Nat.le_of_ble_eq_true rfl) (Nat.le_of_ble_eq_true rfl) (fun _ _ h => h.elim) (fun r48 τ hp => ?_)
            obtain ⟨rfl, hp⟩ := hp
            refine gz_norm (st' := [.int r48]) (cells' := 0) (slots' := 0) rfl rfl rfl ?_
            refine gz_istore K [(5, .int r48), (0, .ref (ad 43)), (1, .int y1), (2, .int y2), (3, .int y3), (4, .int y4)] dX10_perform_51 (by decide) rfl ?_
            refine gz_iload_n K dX10_perform_53 3 rfl ?_
            refine gz_iload K dX10_perform_54 0 rfl ?_
            obtain ⟨h, hp⟩ := hp
            refine gz_irem K dX10_perform_56 h ?_
            refine gz_iload_n K dX10_perform_57 3 rfl ?_
            refine gz_iload K dX10_perform_58 0 rfl ?_
            obtain ⟨h, hp⟩ := hp
            refine gz_irem K dX10_perform_60 h ?_
            refine gz_if_ge K 69 dX10_perform_61 (by decide) (fun h => ?_) (fun h => ?_)
            · have hp := hp.1 h
              refine gz_iconst K (v := (0 : Int32)) dX10_perform_69 (by decide) ?_
              refine gz_sub [1, 2, 3, 4, 5] rfl ?_
              exact bb_70 σ y1 y2 y3 y4 (0 : Int32) (y2 - y2 / r48 * r48)  hp
            · have hp := hp.2 h
              refine gz_iload K dX10_perform_64 0 rfl ?_
              refine gz_goto K 70 dX10_perform_66 (by decide) ?_
              refine gz_sub [1, 2, 3, 4, 5] rfl ?_
              exact bb_70 σ y1 y2 y3 y4 r48 (y2 - y2 / r48 * r48)  hp
      obtain ⟨n, hp⟩ := hp
      exact ll_35 n σ x1 x2 (0 : Int32) (1 : Int32)  hp
    · have hp := hp.2 h
      refine gz_aload_n K dX10_perform_24 0 rfl ?_
      refine gz_iconst K (v := (2 : Int32)) dX10_perform_25 (by decide) ?_
      refine gz_callV K hex (c_X10_fails K.2.2.2.2.2 K.2.2.1 hp) cf_X10_fails zq5_149 (by decide) (ce_43 _ _ _ _ _ _) rfl dX10_perform_26 rfl rfl (Nat.le_of_ble_eq_true rfl) ⟨Nat.le_of_ble_eq_true rfl, Nat.le_of_ble_eq_true rfl⟩ ⟨Nat.le_of_ble_eq_true rfl, Nat.le_of_ble_eq_true rfl⟩ (Nat.le_of_ble_eq_true rfl) (Nat.le_of_ble_eq_true rfl) (fun _ _ h => h.elim) (fun r26 τ26 hp => ?_)
      refine gz_norm (st' := [.int r26]) (cells' := 0) (slots' := 0) rfl rfl rfl ?_
      exact gz_iret K hr hp dX10_perform_29 (Nat.le_of_ble_eq_true rfl) (Nat.le_of_ble_eq_true rfl)
  · have hp := hp.2 h
    refine gz_aload_n K dX10_perform_7 0 rfl ?_
    refine gz_iconst K (v := (1 : Int32)) dX10_perform_8 (by decide) ?_
    refine gz_callV K hex (c_X10_fails K.2.2.2.2.2 K.2.2.1 hp) cf_X10_fails zq5_149 (by decide) (ce_43 _ _ _ _ _ _) rfl dX10_perform_9 rfl rfl (Nat.le_of_ble_eq_true rfl) ⟨Nat.le_of_ble_eq_true rfl, Nat.le_of_ble_eq_true rfl⟩ ⟨Nat.le_of_ble_eq_true rfl, Nat.le_of_ble_eq_true rfl⟩ (Nat.le_of_ble_eq_true rfl) (Nat.le_of_ble_eq_true rfl) (fun _ _ h => h.elim) (fun r9 τ9 hp => ?_)
    refine gz_norm (st' := [.int r9]) (cells' := 0) (slots' := 0) rfl rfl rfl ?_
    exact gz_iret K hr hp dX10_perform_12 (Nat.le_of_ble_eq_true rfl) (Nat.le_of_ble_eq_true rfl)
set_option maxRecDepth 100000 in
set_option maxHeartbeats 4000000 in
theorem c_X10_exchange {l : Launch} {D : va_G} {ad : Nat → Nat} {ty : Nat → ClassId} (hl : l.stackTraces = false) (hj : ∀ i j, i < 68 → j < 68 → ad i = ad j → i = j) {σ : Dz} {x1 : Int32} {x2 : Int32} {post : Int32 → Dz → Prop} (hp : P_X10_exchange σ x1 x2 post) : Mz l D ad ty yX10_exchange cX10_exchange 4 (some .int) r_X10_exchange nI0 σ [.ref (ad 43), .int x1, .int x2] post (fun _ _ => False) := by
  refine mz_of (by decide) hl hj (Nat.le_of_ble_eq_true rfl) ?_
  intro p e s m args below meth c K hex hr
  unfold P_X10_exchange at hp
  show Gz p l e r_X10_exchange s m args below meth c D ad ty 4 0 0 (Ez below D ad ty nI0 post (fun _ _ => False) args s 0 0) σ 0 [(0, .ref (ad 43)), (1, .int x1), (2, .int x2)] []
  refine gz_aload_n K dX10_exchange_0 0 rfl ?_
  refine gz_iload_n K dX10_exchange_1 1 rfl ?_
  refine gz_callV K hex (c_X10_isPosition K.2.2.2.2.2 K.2.2.1 hp) cf_X10_isPosition zq5_181 (by decide) (ce_43 _ _ _ _ _ _) rfl dX10_exchange_2 rfl rfl (Nat.le_of_ble_eq_true rfl) ⟨Nat.le_of_ble_eq_true rfl, Nat.le_of_ble_eq_true rfl⟩ ⟨Nat.le_of_ble_eq_true rfl, Nat.le_of_ble_eq_true rfl⟩ (Nat.le_of_ble_eq_true rfl) (Nat.le_of_ble_eq_true rfl) (fun _ _ h => h.elim) (fun r2 τ hp => ?_)
  obtain ⟨rfl, hp⟩ := hp
  refine gz_norm (st' := [.int r2]) (cells' := 0) (slots' := 0) rfl rfl rfl ?_
  refine gz_if_eq K 16 dX10_exchange_5 (by decide) (fun h => ?_) (fun h => ?_)
  · have hp := hp.1 h
    refine gz_aload_n K dX10_exchange_16 0 rfl ?_
    refine gz_iconst K (v := (1 : Int32)) dX10_exchange_17 (by decide) ?_
    refine gz_callV K hex (c_X10_fails K.2.2.2.2.2 K.2.2.1 hp) cf_X10_fails zq5_149 (by decide) (ce_43 _ _ _ _ _ _) rfl dX10_exchange_18 rfl rfl (Nat.le_of_ble_eq_true rfl) ⟨Nat.le_of_ble_eq_true rfl, Nat.le_of_ble_eq_true rfl⟩ ⟨Nat.le_of_ble_eq_true rfl, Nat.le_of_ble_eq_true rfl⟩ (Nat.le_of_ble_eq_true rfl) (Nat.le_of_ble_eq_true rfl) (fun _ _ h => h.elim) (fun r18 τ18 hp => ?_)
    refine gz_norm (st' := [.int r18]) (cells' := 0) (slots' := 0) rfl rfl rfl ?_
    exact gz_iret K hr hp dX10_exchange_21 (Nat.le_of_ble_eq_true rfl) (Nat.le_of_ble_eq_true rfl)
  · have hp := hp.2 h
    refine gz_aload_n K dX10_exchange_8 0 rfl ?_
    refine gz_iload_n K dX10_exchange_9 2 rfl ?_
    refine gz_callV K hex (c_X10_isPosition K.2.2.2.2.2 K.2.2.1 hp) cf_X10_isPosition zq5_181 (by decide) (ce_43 _ _ _ _ _ _) rfl dX10_exchange_10 rfl rfl (Nat.le_of_ble_eq_true rfl) ⟨Nat.le_of_ble_eq_true rfl, Nat.le_of_ble_eq_true rfl⟩ ⟨Nat.le_of_ble_eq_true rfl, Nat.le_of_ble_eq_true rfl⟩ (Nat.le_of_ble_eq_true rfl) (Nat.le_of_ble_eq_true rfl) (fun _ _ h => h.elim) (fun r10 τ hp => ?_)
    obtain ⟨rfl, hp⟩ := hp
    refine gz_norm (st' := [.int r10]) (cells' := 0) (slots' := 0) rfl rfl rfl ?_
    refine gz_if_ne K 22 dX10_exchange_13 (by decide) (fun h => ?_) (fun h => ?_)
    · have hp := hp.1 h
      refine gz_aload_n K dX10_exchange_22 0 rfl ?_
      refine gz_get K (v := .ref (ad 44)) (by decide) (ce_43 _ _ _ _ _ _) rfl inz_X10 2 (by decide) zq5_33 rfl dX10_exchange_23 ?_
      refine gz_iload_n K dX10_exchange_26 1 rfl ?_
      obtain ⟨h, hp⟩ := hp
      refine gz_iald K (by decide) (ce_44 _ _ _ _ _ _) h dX10_exchange_27 ?_
      refine gz_istore_n K [(3, .int (gz_i σ 44 (x1).toNatClampNeg)), (0, .ref (ad 43)), (1, .int x1), (2, .int x2)] dX10_exchange_28 (by decide) rfl ?_
      refine gz_aload_n K dX10_exchange_29 1 rfl ?_
      refine gz_get K (v := .ref (ad 44)) (by decide) (ce_43 _ _ _ _ _ _) rfl inz_X10 2 (by decide) zq5_33 rfl dX10_exchange_30 ?_
      refine gz_iload_n K dX10_exchange_33 2 rfl ?_
      refine gz_aload_n K dX10_exchange_34 1 rfl ?_
      refine gz_get K (v := .ref (ad 44)) (by decide) (ce_43 _ _ _ _ _ _) rfl inz_X10 2 (by decide) zq5_33 rfl dX10_exchange_35 ?_
      refine gz_iload_n K dX10_exchange_38 3 rfl ?_
      obtain ⟨h, hp⟩ := hp
      refine gz_iald K (by decide) (ce_44 _ _ _ _ _ _) h dX10_exchange_39 ?_
      obtain ⟨h, hp⟩ := hp
      refine gz_iast K (x := (gz_i σ 44 (x2).toNatClampNeg)) (by decide) (ce_44 ad ty) h dX10_exchange_40 ?_
      refine gz_aload_n K dX10_exchange_41 1 rfl ?_
      refine gz_get K (v := .ref (ad 44)) (by decide) (ce_43 _ _ _ _ _ _) rfl inz_X10 2 (by decide) zq5_33 rfl dX10_exchange_42 ?_
      refine gz_iload_n K dX10_exchange_45 3 rfl ?_
      refine gz_iload_n K dX10_exchange_46 0 rfl ?_
      obtain ⟨h, hp⟩ := hp
      refine gz_iast K (x := (gz_i σ 44 (x1).toNatClampNeg)) (by decide) (ce_44 ad ty) h dX10_exchange_47 ?_
      refine gz_aload_n K dX10_exchange_48 1 rfl ?_
      refine gz_aload_n K dX10_exchange_49 1 rfl ?_
      refine gz_get K (v := .ref (ad 44)) (by decide) (ce_43 _ _ _ _ _ _) rfl inz_X10 2 (by decide) zq5_33 rfl dX10_exchange_50 ?_
      refine gz_iload_n K dX10_exchange_53 2 rfl ?_
      obtain ⟨h, hp⟩ := hp
      refine gz_iald K (by decide) (ce_44 _ _ _ _ _ _) h dX10_exchange_54 ?_
      refine gz_callV K hex (c_X10_done K.2.2.2.2.2 K.2.2.1 hp) cf_X10_done zq5_153 (by decide) (ce_43 _ _ _ _ _ _) rfl dX10_exchange_55 rfl rfl (Nat.le_of_ble_eq_true rfl) ⟨Nat.le_of_ble_eq_true rfl, Nat.le_of_ble_eq_true rfl⟩ ⟨Nat.le_of_ble_eq_true rfl, Nat.le_of_ble_eq_true rfl⟩ (Nat.le_of_ble_eq_true rfl) (Nat.le_of_ble_eq_true rfl) (fun _ _ h => h.elim) (fun r55 τ55 hp => ?_)
      refine gz_norm (st' := [.int r55]) (cells' := 0) (slots' := 0) rfl rfl rfl ?_
      exact gz_iret K hr hp dX10_exchange_58 (Nat.le_of_ble_eq_true rfl) (Nat.le_of_ble_eq_true rfl)
    · have hp := hp.2 h
      refine gz_aload_n K dX10_exchange_16 0 rfl ?_
      refine gz_iconst K (v := (1 : Int32)) dX10_exchange_17 (by decide) ?_
      refine gz_callV K hex (c_X10_fails K.2.2.2.2.2 K.2.2.1 hp) cf_X10_fails zq5_149 (by decide) (ce_43 _ _ _ _ _ _) rfl dX10_exchange_18 rfl rfl (Nat.le_of_ble_eq_true rfl) ⟨Nat.le_of_ble_eq_true rfl, Nat.le_of_ble_eq_true rfl⟩ ⟨Nat.le_of_ble_eq_true rfl, Nat.le_of_ble_eq_true rfl⟩ (Nat.le_of_ble_eq_true rfl) (Nat.le_of_ble_eq_true rfl) (fun _ _ h => h.elim) (fun r18 τ18 hp => ?_)
      refine gz_norm (st' := [.int r18]) (cells' := 0) (slots' := 0) rfl rfl rfl ?_
      exact gz_iret K hr hp dX10_exchange_21 (Nat.le_of_ble_eq_true rfl) (Nat.le_of_ble_eq_true rfl)
set_option maxRecDepth 100000 in
set_option maxHeartbeats 4000000 in
theorem c_X10_token {l : Launch} {D : va_G} {ad : Nat → Nat} {ty : Nat → ClassId} (hl : l.stackTraces = false) (hj : ∀ i j, i < 68 → j < 68 → ad i = ad j → i = j) {σ : Dz} {x1 : Int32} {post : Int32 → Dz → Prop} (hp : P_X10_token σ x1 post) : Mz l D ad ty yX10_token cX10_token 2 (some .int) r_X10_token nI0 σ [.ref (ad 43), .int x1] post (fun _ _ => False) := by
  refine mz_of (by decide) hl hj (Nat.le_of_ble_eq_true rfl) ?_
  intro p e s m args below meth c K hex hr
  unfold P_X10_token at hp
  show Gz p l e r_X10_token s m args below meth c D ad ty 2 0 0 (Ez below D ad ty nI0 post (fun _ _ => False) args s 0 0) σ 0 [(0, .ref (ad 43)), (1, .int x1)] []
  refine gz_aload_n K dX10_token_0 0 rfl ?_
  refine gz_iload_n K dX10_token_1 1 rfl ?_
  refine gz_callV K hex (c_X10_isPosition K.2.2.2.2.2 K.2.2.1 hp) cf_X10_isPosition zq5_181 (by decide) (ce_43 _ _ _ _ _ _) rfl dX10_token_2 rfl rfl (Nat.le_of_ble_eq_true rfl) ⟨Nat.le_of_ble_eq_true rfl, Nat.le_of_ble_eq_true rfl⟩ ⟨Nat.le_of_ble_eq_true rfl, Nat.le_of_ble_eq_true rfl⟩ (Nat.le_of_ble_eq_true rfl) (Nat.le_of_ble_eq_true rfl) (fun _ _ h => h.elim) (fun r2 τ hp => ?_)
  obtain ⟨rfl, hp⟩ := hp
  refine gz_norm (st' := [.int r2]) (cells' := 0) (slots' := 0) rfl rfl rfl ?_
  refine gz_if_eq K 21 dX10_token_5 (by decide) (fun h => ?_) (fun h => ?_)
  · have hp := hp.1 h
    refine gz_aload_n K dX10_token_21 0 rfl ?_
    refine gz_iconst K (v := (1 : Int32)) dX10_token_22 (by decide) ?_
    refine gz_callV K hex (c_X10_fails K.2.2.2.2.2 K.2.2.1 hp) cf_X10_fails zq5_149 (by decide) (ce_43 _ _ _ _ _ _) rfl dX10_token_23 rfl rfl (Nat.le_of_ble_eq_true rfl) ⟨Nat.le_of_ble_eq_true rfl, Nat.le_of_ble_eq_true rfl⟩ ⟨Nat.le_of_ble_eq_true rfl, Nat.le_of_ble_eq_true rfl⟩ (Nat.le_of_ble_eq_true rfl) (Nat.le_of_ble_eq_true rfl) (fun _ _ h => h.elim) (fun r23 τ23 hp => ?_)
    refine gz_norm (st' := [.int r23]) (cells' := 0) (slots' := 0) rfl rfl rfl ?_
    exact gz_iret K hr hp dX10_token_26 (Nat.le_of_ble_eq_true rfl) (Nat.le_of_ble_eq_true rfl)
  · have hp := hp.2 h
    refine gz_aload_n K dX10_token_8 0 rfl ?_
    refine gz_aload_n K dX10_token_9 0 rfl ?_
    refine gz_get K (v := .ref (ad 44)) (by decide) (ce_43 _ _ _ _ _ _) rfl inz_X10 2 (by decide) zq5_33 rfl dX10_token_10 ?_
    refine gz_iload_n K dX10_token_13 1 rfl ?_
    obtain ⟨h, hp⟩ := hp
    refine gz_iald K (by decide) (ce_44 _ _ _ _ _ _) h dX10_token_14 ?_
    refine gz_callV K hex (c_X10_done K.2.2.2.2.2 K.2.2.1 hp) cf_X10_done zq5_153 (by decide) (ce_43 _ _ _ _ _ _) rfl dX10_token_15 rfl rfl (Nat.le_of_ble_eq_true rfl) ⟨Nat.le_of_ble_eq_true rfl, Nat.le_of_ble_eq_true rfl⟩ ⟨Nat.le_of_ble_eq_true rfl, Nat.le_of_ble_eq_true rfl⟩ (Nat.le_of_ble_eq_true rfl) (Nat.le_of_ble_eq_true rfl) (fun _ _ h => h.elim) (fun r15 τ15 hp => ?_)
    refine gz_norm (st' := [.int r15]) (cells' := 0) (slots' := 0) rfl rfl rfl ?_
    refine gz_goto K 26 dX10_token_18 (by decide) ?_
    exact gz_iret K hr hp dX10_token_26 (Nat.le_of_ble_eq_true rfl) (Nat.le_of_ble_eq_true rfl)
set_option maxRecDepth 100000 in
set_option maxHeartbeats 4000000 in
theorem c_X10_numberOf {l : Launch} {D : va_G} {ad : Nat → Nat} {ty : Nat → ClassId} (hl : l.stackTraces = false) (hj : ∀ i j, i < 68 → j < 68 → ad i = ad j → i = j) {σ : Dz} {a1 : Nat} {n1 : Nat} (h1 : isA a1 n1) {post : Int32 → Prop} (hp : P_X10_numberOf σ a1 n1 post) : Mz l D ad ty yX10_numberOf cX10_numberOf 6 (some .int) r_X10_numberOf nI0 σ [.ref (ad 43), .ref (ad a1)] (fun r τ => σ = τ ∧ post r) (fun _ _ => False) := by
  refine mz_of (by decide) hl hj (Nat.le_of_ble_eq_true rfl) ?_
  intro p e s m args below meth c K hex hr
  unfold P_X10_numberOf at hp
  show Gz p l e r_X10_numberOf s m args below meth c D ad ty 6 0 0 (Ez below D ad ty nI0 (fun r τ => σ = τ ∧ post r) (fun _ _ => False) args s 0 0) σ 0 [(0, .ref (ad 43)), (1, .ref (ad a1))] []
  refine gz_iconst K (v := (0 : Int32)) dX10_numberOf_0 (by decide) ?_
  refine gz_istore_n K [(2, .int (0 : Int32)), (0, .ref (ad 43)), (1, .ref (ad a1))] dX10_numberOf_1 (by decide) rfl ?_
  refine gz_iconst K (v := (1 : Int32)) dX10_numberOf_2 (by decide) ?_
  refine gz_istore_n K [(3, .int (1 : Int32)), (2, .int (0 : Int32)), (0, .ref (ad 43)), (1, .ref (ad a1))] dX10_numberOf_3 (by decide) rfl ?_
  refine gz_sub [2, 3, 1, 0] rfl ?_
  have ll_4 : ∀ (n_4 : Nat) (y2 : Int32) (y3 : Int32) , L_X10_numberOf_4 σ a1 n1 post  n_4 y2 y3 → Gz p l e r_X10_numberOf s m args below meth c D ad ty 6 0 0 (Ez below D ad ty nI0 (fun r τ => σ = τ ∧ post r) (fun _ _ => False) args s 0 0) σ 4 [(0, .ref (ad 43)), (1, .ref (ad a1)), (2, .int y2), (3, .int y3)] [] := by
    intro n_4; induction n_4 with
    | zero => intro y2 y3 hp; exact False.elim hp
    | succ n_4 ih_4 =>
      intro y2 y3 hp
      have hp : B_X10_numberOf_4 σ a1 n1 post  (L_X10_numberOf_4 σ a1 n1 post  n_4) y2 y3 := hp
      unfold B_X10_numberOf_4 at hp
      refine gz_iload_n K dX10_numberOf_4 3 rfl ?_
      refine gz_aload_n K dX10_numberOf_5 0 rfl ?_
      refine gz_get K (v := .int (gz_i σ 43 1)) (by decide) (ce_43 _ _ _ _ _ _) rfl inz_X10 1 (by decide) zq5_32 rfl dX10_numberOf_6 ?_
      refine gz_icmp_gt K 75 dX10_numberOf_9 (by decide) (fun h => ?_) (fun h => ?_)
      · have hp := hp.1 h
        refine gz_iload_n K dX10_numberOf_75 2 rfl ?_
        exact gz_iret K hr ⟨rfl, hp⟩ dX10_numberOf_76 (Nat.le_of_ble_eq_true rfl) (Nat.le_of_ble_eq_true rfl)
      · have hp := hp.2 h
        refine gz_iconst K (v := (0 : Int32)) dX10_numberOf_12 (by decide) ?_
        refine gz_istore K [(4, .int (0 : Int32)), (0, .ref (ad 43)), (1, .ref (ad a1)), (2, .int y2), (3, .int y3)] dX10_numberOf_13 (by decide) rfl ?_
        refine gz_iload_n K dX10_numberOf_15 4 rfl ?_
        refine gz_iconst K (v := (1 : Int32)) dX10_numberOf_16 (by decide) ?_
        refine gz_iadd K dX10_numberOf_17 ?_
        refine gz_istore K [(5, .int (y3 + (1 : Int32))), (4, .int (0 : Int32)), (0, .ref (ad 43)), (1, .ref (ad a1)), (2, .int y2), (3, .int y3)] dX10_numberOf_18 (by decide) rfl ?_
        refine gz_sub [2, 3, 4, 5, 1, 0] rfl ?_
        have ll_20 : ∀ (n_20 : Nat) (y2 : Int32) (y3 : Int32) (y4 : Int32) (y5 : Int32) , L_X10_numberOf_20 σ a1 n1 post (L_X10_numberOf_4 σ a1 n1 post  n_4) n_20 y2 y3 y4 y5 → Gz p l e r_X10_numberOf s m args below meth c D ad ty 6 0 0 (Ez below D ad ty nI0 (fun r τ => σ = τ ∧ post r) (fun _ _ => False) args s 0 0) σ 20 [(0, .ref (ad 43)), (1, .ref (ad a1)), (2, .int y2), (3, .int y3), (4, .int y4), (5, .int y5)] [] := by
          intro n_20; induction n_20 with
          | zero => intro y2 y3 y4 y5 hp; exact False.elim hp
          | succ n_20 ih_20 =>
            intro y2 y3 y4 y5 hp
            have hp : B_X10_numberOf_20 σ a1 n1 post (L_X10_numberOf_4 σ a1 n1 post  n_4) (L_X10_numberOf_20 σ a1 n1 post (L_X10_numberOf_4 σ a1 n1 post  n_4) n_20) y2 y3 y4 y5 := hp
            unfold B_X10_numberOf_20 at hp
            have bb_46 : ∀ (y2 : Int32) (y3 : Int32) (y5 : Int32) (z0 : Int32) (z1 : Int32) , B_X10_numberOf_46 σ a1 n1 post (L_X10_numberOf_4 σ a1 n1 post  n_4) (L_X10_numberOf_20 σ a1 n1 post (L_X10_numberOf_4 σ a1 n1 post  n_4) n_20) y2 y3 y5 z0 z1 → Gz p l e r_X10_numberOf s m args below meth c D ad ty 6 0 0 (Ez below D ad ty nI0 (fun r τ => σ = τ ∧ post r) (fun _ _ => False) args s 0 0) σ 46 [(0, .ref (ad 43)), (1, .ref (ad a1)), (2, .int y2), (3, .int y3), (5, .int y5)] [.int z0, .int z1] := by
              intro y2 y3 y5 z0 z1 hp
              unfold B_X10_numberOf_46 at hp
              refine gz_iadd K dX10_numberOf_46 ?_
              refine gz_istore K [(4, .int (z1 + z0)), (0, .ref (ad 43)), (1, .ref (ad a1)), (2, .int y2), (3, .int y3), (5, .int y5)] dX10_numberOf_47 (by decide) rfl ?_
              refine gz_iinc K (v := (y5 + 1)) [(5, .int (y5 + 1)), (4, .int (z1 + z0)), (0, .ref (ad 43)), (1, .ref (ad a1)), (2, .int y2), (3, .int y3)] dX10_numberOf_49 5 rfl (by first | rfl | decide) (by decide) rfl ?_
              refine gz_goto K 20 dX10_numberOf_52 (by decide) ?_
              refine gz_sub [2, 3, 4, 5, 1, 0] rfl ?_
              exact ih_20 y2 y3 (z1 + z0) (y5 + 1)  hp
            refine gz_iload K dX10_numberOf_20 5 rfl ?_
            refine gz_aload_n K dX10_numberOf_22 0 rfl ?_
            refine gz_get K (v := .int (gz_i σ 43 1)) (by decide) (ce_43 _ _ _ _ _ _) rfl inz_X10 1 (by decide) zq5_32 rfl dX10_numberOf_23 ?_
            refine gz_icmp_gt K 55 dX10_numberOf_26 (by decide) (fun h => ?_) (fun h => ?_)
            · have hp := hp.1 h
              refine gz_iload_n K dX10_numberOf_55 2 rfl ?_
              refine gz_aload_n K dX10_numberOf_56 0 rfl ?_
              refine gz_get K (v := .int (gz_i σ 43 1)) (by decide) (ce_43 _ _ _ _ _ _) rfl inz_X10 1 (by decide) zq5_32 rfl dX10_numberOf_57 ?_
              refine gz_iload_n K dX10_numberOf_60 3 rfl ?_
              refine gz_isub K dX10_numberOf_61 ?_
              refine gz_iconst K (v := (1 : Int32)) dX10_numberOf_62 (by decide) ?_
              refine gz_iadd K dX10_numberOf_63 ?_
              refine gz_imul K dX10_numberOf_64 ?_
              refine gz_iload K dX10_numberOf_65 4 rfl ?_
              refine gz_iadd K dX10_numberOf_67 ?_
              refine gz_istore_n K [(2, .int ((y2 * (((gz_i σ 43 1) - y3) + (1 : Int32))) + y4)), (0, .ref (ad 43)), (1, .ref (ad a1)), (3, .int y3), (4, .int y4), (5, .int y5)] dX10_numberOf_68 (by decide) rfl ?_
              refine gz_iinc K (v := (y3 + 1)) [(3, .int (y3 + 1)), (2, .int ((y2 * (((gz_i σ 43 1) - y3) + (1 : Int32))) + y4)), (0, .ref (ad 43)), (1, .ref (ad a1)), (4, .int y4), (5, .int y5)] dX10_numberOf_69 3 rfl (by first | rfl | decide) (by decide) rfl ?_
              refine gz_goto K 4 dX10_numberOf_72 (by decide) ?_
              refine gz_sub [2, 3, 1, 0] rfl ?_
              exact ih_4 ((y2 * (((gz_i σ 43 1) - y3) + (1 : Int32))) + y4) (y3 + 1)  hp
            · have hp := hp.2 h
              refine gz_iload K dX10_numberOf_29 4 rfl ?_
              refine gz_aload_n K dX10_numberOf_31 1 rfl ?_
              refine gz_iload K dX10_numberOf_32 5 rfl ?_
              obtain ⟨h, hp⟩ := hp
              refine gz_iald K h1.1 (h1.2 _ _ _ _ _ _) h dX10_numberOf_34 ?_
              refine gz_aload_n K dX10_numberOf_35 1 rfl ?_
              refine gz_iload_n K dX10_numberOf_36 3 rfl ?_
              obtain ⟨h, hp⟩ := hp
              refine gz_iald K h1.1 (h1.2 _ _ _ _ _ _) h dX10_numberOf_37 ?_
              refine gz_icmp_ge K 45 dX10_numberOf_38 (by decide) (fun h => ?_) (fun h => ?_)
              · have hp := hp.1 h
                refine gz_iconst K (v := (0 : Int32)) dX10_numberOf_45 (by decide) ?_
                refine gz_sub [0, 1, 2, 3, 5] rfl ?_
                exact bb_46 y2 y3 y5 (0 : Int32) y4  hp
              · have hp := hp.2 h
                refine gz_iconst K (v := (1 : Int32)) dX10_numberOf_41 (by decide) ?_
                refine gz_goto K 46 dX10_numberOf_42 (by decide) ?_
                refine gz_sub [0, 1, 2, 3, 5] rfl ?_
                exact bb_46 y2 y3 y5 (1 : Int32) y4  hp
        obtain ⟨n, hp⟩ := hp
        exact ll_20 n y2 y3 (0 : Int32) (y3 + (1 : Int32))  hp
  obtain ⟨n, hp⟩ := hp
  exact ll_4 n (0 : Int32) (1 : Int32)  hp
set_option maxRecDepth 100000 in
set_option maxHeartbeats 4000000 in
theorem c_X10_packed {l : Launch} {D : va_G} {ad : Nat → Nat} {ty : Nat → ClassId} (hl : l.stackTraces = false) (hj : ∀ i j, i < 68 → j < 68 → ad i = ad j → i = j) {σ : Dz} {a1 : Nat} {n1 : Nat} (h1 : isA a1 n1) {post : Int32 → Prop} (hp : P_X10_packed σ a1 n1 post) : Mz l D ad ty yX10_packed cX10_packed 4 (some .int) r_X10_packed nI0 σ [.ref (ad 43), .ref (ad a1)] (fun r τ => σ = τ ∧ post r) (fun _ _ => False) := by
  refine mz_of (by decide) hl hj (Nat.le_of_ble_eq_true rfl) ?_
  intro p e s m args below meth c K hex hr
  unfold P_X10_packed at hp
  show Gz p l e r_X10_packed s m args below meth c D ad ty 4 0 0 (Ez below D ad ty nI0 (fun r τ => σ = τ ∧ post r) (fun _ _ => False) args s 0 0) σ 0 [(0, .ref (ad 43)), (1, .ref (ad a1))] []
  refine gz_iconst K (v := (0 : Int32)) dX10_packed_0 (by decide) ?_
  refine gz_istore_n K [(2, .int (0 : Int32)), (0, .ref (ad 43)), (1, .ref (ad a1))] dX10_packed_1 (by decide) rfl ?_
  refine gz_iconst K (v := (1 : Int32)) dX10_packed_2 (by decide) ?_
  refine gz_istore_n K [(3, .int (1 : Int32)), (2, .int (0 : Int32)), (0, .ref (ad 43)), (1, .ref (ad a1))] dX10_packed_3 (by decide) rfl ?_
  refine gz_sub [2, 3, 1, 0] rfl ?_
  have ll_4 : ∀ (n_4 : Nat) (y2 : Int32) (y3 : Int32) , L_X10_packed_4 σ a1 n1 post  n_4 y2 y3 → Gz p l e r_X10_packed s m args below meth c D ad ty 4 0 0 (Ez below D ad ty nI0 (fun r τ => σ = τ ∧ post r) (fun _ _ => False) args s 0 0) σ 4 [(0, .ref (ad 43)), (1, .ref (ad a1)), (2, .int y2), (3, .int y3)] [] := by
    intro n_4; induction n_4 with
    | zero => intro y2 y3 hp; exact False.elim hp
    | succ n_4 ih_4 =>
      intro y2 y3 hp
      have hp : B_X10_packed_4 σ a1 n1 post  (L_X10_packed_4 σ a1 n1 post  n_4) y2 y3 := hp
      unfold B_X10_packed_4 at hp
      refine gz_iload_n K dX10_packed_4 3 rfl ?_
      refine gz_aload_n K dX10_packed_5 0 rfl ?_
      refine gz_get K (v := .int (gz_i σ 43 1)) (by decide) (ce_43 _ _ _ _ _ _) rfl inz_X10 1 (by decide) zq5_32 rfl dX10_packed_6 ?_
      refine gz_icmp_gt K 28 dX10_packed_9 (by decide) (fun h => ?_) (fun h => ?_)
      · have hp := hp.1 h
        refine gz_iload_n K dX10_packed_28 2 rfl ?_
        exact gz_iret K hr ⟨rfl, hp⟩ dX10_packed_29 (Nat.le_of_ble_eq_true rfl) (Nat.le_of_ble_eq_true rfl)
      · have hp := hp.2 h
        refine gz_iload_n K dX10_packed_12 2 rfl ?_
        refine gz_aload_n K dX10_packed_13 1 rfl ?_
        refine gz_iload_n K dX10_packed_14 3 rfl ?_
        obtain ⟨h, hp⟩ := hp
        refine gz_iald K h1.1 (h1.2 _ _ _ _ _ _) h dX10_packed_15 ?_
        refine gz_iconst K (v := (3 : Int32)) dX10_packed_16 (by decide) ?_
        refine gz_iload_n K dX10_packed_17 3 rfl ?_
        refine gz_imul K dX10_packed_18 ?_
        refine gz_ishl K dX10_packed_19 ?_
        refine gz_ior K dX10_packed_20 ?_
        refine gz_istore_n K [(2, .int (y2 ||| ((gz_i σ a1 (y3).toNatClampNeg) <<< (((3 : Int32) * y3) &&& 31)))), (0, .ref (ad 43)), (1, .ref (ad a1)), (3, .int y3)] dX10_packed_21 (by decide) rfl ?_
        refine gz_iinc K (v := (y3 + 1)) [(3, .int (y3 + 1)), (2, .int (y2 ||| ((gz_i σ a1 (y3).toNatClampNeg) <<< (((3 : Int32) * y3) &&& 31)))), (0, .ref (ad 43)), (1, .ref (ad a1))] dX10_packed_22 3 rfl (by first | rfl | decide) (by decide) rfl ?_
        refine gz_goto K 4 dX10_packed_25 (by decide) ?_
        refine gz_sub [2, 3, 1, 0] rfl ?_
        exact ih_4 (y2 ||| ((gz_i σ a1 (y3).toNatClampNeg) <<< (((3 : Int32) * y3) &&& 31))) (y3 + 1)  hp
  obtain ⟨n, hp⟩ := hp
  exact ll_4 n (0 : Int32) (1 : Int32)  hp
set_option maxRecDepth 100000 in
set_option maxHeartbeats 4000000 in
theorem c_X10_unpacks {l : Launch} {D : va_G} {ad : Nat → Nat} {ty : Nat → ClassId} (hl : l.stackTraces = false) (hj : ∀ i j, i < 68 → j < 68 → ad i = ad j → i = j) {σ : Dz} {x1 : Int32} {post : Dz → Prop} (hp : P_X10_unpacks σ x1 post) : Mz l D ad ty yX10_unpacks cX10_unpacks 3 none r_X10_unpacks nV0 σ [.ref (ad 43), .int x1] (fun _ τ => post τ) (fun _ _ => False) := by
  refine mz_of (by decide) hl hj (Nat.le_of_ble_eq_true rfl) ?_
  intro p e s m args below meth c K hex hr
  unfold P_X10_unpacks at hp
  show Gz p l e r_X10_unpacks s m args below meth c D ad ty 3 0 0 (Ez below D ad ty nV0 (fun _ τ => post τ) (fun _ _ => False) args s 0 0) σ 0 [(0, .ref (ad 43)), (1, .int x1)] []
  refine gz_iconst K (v := (1 : Int32)) dX10_unpacks_0 (by decide) ?_
  refine gz_istore_n K [(2, .int (1 : Int32)), (0, .ref (ad 43)), (1, .int x1)] dX10_unpacks_1 (by decide) rfl ?_
  refine gz_sub [1, 2, 0] rfl ?_
  have ll_2 : ∀ (n_2 : Nat) (σ : Dz) (y1 : Int32) (y2 : Int32) , L_X10_unpacks_2 post  n_2 σ y1 y2 → Gz p l e r_X10_unpacks s m args below meth c D ad ty 3 0 0 (Ez below D ad ty nV0 (fun _ τ => post τ) (fun _ _ => False) args s 0 0) σ 2 [(0, .ref (ad 43)), (1, .int y1), (2, .int y2)] [] := by
    intro n_2; induction n_2 with
    | zero => intro σ y1 y2 hp; exact False.elim hp
    | succ n_2 ih_2 =>
      intro σ y1 y2 hp
      have hp : B_X10_unpacks_2 post  (L_X10_unpacks_2 post  n_2) σ y1 y2 := hp
      unfold B_X10_unpacks_2 at hp
      refine gz_iload_n K dX10_unpacks_2 2 rfl ?_
      refine gz_aload_n K dX10_unpacks_3 0 rfl ?_
      refine gz_get K (v := .int (gz_i σ 43 1)) (by decide) (ce_43 _ _ _ _ _ _) rfl inz_X10 1 (by decide) zq5_32 rfl dX10_unpacks_4 ?_
      refine gz_icmp_gt K 30 dX10_unpacks_7 (by decide) (fun h => ?_) (fun h => ?_)
      · have hp := hp.1 h
        exact gz_vret K hr hp dX10_unpacks_30 (Nat.le_of_ble_eq_true rfl) (Nat.le_of_ble_eq_true rfl)
      · have hp := hp.2 h
        refine gz_aload_n K dX10_unpacks_10 0 rfl ?_
        refine gz_get K (v := .ref (ad 63)) (by decide) (ce_43 _ _ _ _ _ _) rfl inz_X10 30 (by decide) zq5_61 rfl dX10_unpacks_11 ?_
        refine gz_iload_n K dX10_unpacks_14 2 rfl ?_
        refine gz_iload_n K dX10_unpacks_15 1 rfl ?_
        refine gz_iconst K (v := (3 : Int32)) dX10_unpacks_16 (by decide) ?_
        refine gz_iload_n K dX10_unpacks_17 2 rfl ?_
        refine gz_imul K dX10_unpacks_18 ?_
        refine gz_ishr K dX10_unpacks_19 ?_
        refine gz_bipush K (v := (7 : Int32)) dX10_unpacks_20 (by decide) ?_
        refine gz_iand K dX10_unpacks_22 ?_
        obtain ⟨h, hp⟩ := hp
        refine gz_iast K (x := ((y1 >>> (((3 : Int32) * y2) &&& 31)) &&& (7 : Int32))) (by decide) (ce_63 ad ty) h dX10_unpacks_23 ?_
        refine gz_iinc K (v := (y2 + 1)) [(2, .int (y2 + 1)), (0, .ref (ad 43)), (1, .int y1)] dX10_unpacks_24 2 rfl (by first | rfl | decide) (by decide) rfl ?_
        refine gz_goto K 2 dX10_unpacks_27 (by decide) ?_
        refine gz_sub [1, 2, 0] rfl ?_
        exact ih_2 (sz_i σ 63 (y2).toNatClampNeg ((y1 >>> (((3 : Int32) * y2) &&& 31)) &&& (7 : Int32))) y1 (y2 + 1)  hp
  obtain ⟨n, hp⟩ := hp
  exact ll_2 n σ x1 (1 : Int32)  hp
set_option maxRecDepth 100000 in
set_option maxHeartbeats 4000000 in
theorem c_X10_isLetter {l : Launch} {D : va_G} {ad : Nat → Nat} {ty : Nat → ClassId} (hl : l.stackTraces = false) (hj : ∀ i j, i < 68 → j < 68 → ad i = ad j → i = j) {σ : Dz} {x1 : Int32} {post : Int32 → Prop} (hp : P_X10_isLetter σ x1 post) : Mz l D ad ty yX10_isLetter cX10_isLetter 2 (some .boolean) r_X10_isLetter nI0 σ [.ref (ad 43), .int x1] (fun r τ => σ = τ ∧ post r) (fun _ _ => False) := by
  refine mz_of (by decide) hl hj (Nat.le_of_ble_eq_true rfl) ?_
  intro p e s m args below meth c K hex hr
  unfold P_X10_isLetter at hp
  show Gz p l e r_X10_isLetter s m args below meth c D ad ty 2 0 0 (Ez below D ad ty nI0 (fun r τ => σ = τ ∧ post r) (fun _ _ => False) args s 0 0) σ 0 [(0, .ref (ad 43)), (1, .int x1)] []
  refine gz_aload_n K dX10_isLetter_0 0 rfl ?_
  refine gz_get K (v := .ref (ad 45)) (by decide) (ce_43 _ _ _ _ _ _) rfl inz_X10 3 (by decide) zq5_34 rfl dX10_isLetter_1 ?_
  refine gz_iload_n K dX10_isLetter_4 1 rfl ?_
  refine gz_iconst K (v := (2 : Int32)) dX10_isLetter_5 (by decide) ?_
  refine gz_idiv K dX10_isLetter_6 (by decide) ?_
  obtain ⟨h, hp⟩ := hp
  refine gz_zald K (by decide) (ce_45 _ _ _ _ _ _) h dX10_isLetter_7 ?_
  exact gz_zret K hr (nB hp.1) ⟨rfl, hp.2⟩ dX10_isLetter_8 (Nat.le_of_ble_eq_true rfl) (Nat.le_of_ble_eq_true rfl)
set_option maxRecDepth 100000 in
set_option maxHeartbeats 4000000 in
theorem c_X10_moves {l : Launch} {D : va_G} {ad : Nat → Nat} {ty : Nat → ClassId} (hl : l.stackTraces = false) (hj : ∀ i j, i < 68 → j < 68 → ad i = ad j → i = j) {σ : Dz} {x1 : Int32} {post : Dz → Prop} (hp : P_X10_moves σ x1 post) : Mz l D ad ty yX10_moves cX10_moves 3 none r_X10_moves nV0 σ [.ref (ad 43), .int x1] (fun _ τ => post τ) (fun _ _ => False) := by
  refine mz_of (by decide) hl hj (Nat.le_of_ble_eq_true rfl) ?_
  intro p e s m args below meth c K hex hr
  unfold P_X10_moves at hp
  show Gz p l e r_X10_moves s m args below meth c D ad ty 3 0 0 (Ez below D ad ty nV0 (fun _ τ => post τ) (fun _ _ => False) args s 0 0) σ 0 [(0, .ref (ad 43)), (1, .int x1)] []
  refine gz_iconst K (v := (1 : Int32)) dX10_moves_0 (by decide) ?_
  refine gz_istore_n K [(2, .int (1 : Int32)), (0, .ref (ad 43)), (1, .int x1)] dX10_moves_1 (by decide) rfl ?_
  refine gz_sub [1, 2, 0] rfl ?_
  have ll_2 : ∀ (n_2 : Nat) (σ : Dz) (y1 : Int32) (y2 : Int32) , L_X10_moves_2 post  n_2 σ y1 y2 → Gz p l e r_X10_moves s m args below meth c D ad ty 3 0 0 (Ez below D ad ty nV0 (fun _ τ => post τ) (fun _ _ => False) args s 0 0) σ 2 [(0, .ref (ad 43)), (1, .int y1), (2, .int y2)] [] := by
    intro n_2; induction n_2 with
    | zero => intro σ y1 y2 hp; exact False.elim hp
    | succ n_2 ih_2 =>
      intro σ y1 y2 hp
      have hp : B_X10_moves_2 post  (L_X10_moves_2 post  n_2) σ y1 y2 := hp
      unfold B_X10_moves_2 at hp
      refine gz_iload_n K dX10_moves_2 2 rfl ?_
      refine gz_aload_n K dX10_moves_3 0 rfl ?_
      refine gz_get K (v := .int (gz_i σ 43 1)) (by decide) (ce_43 _ _ _ _ _ _) rfl inz_X10 1 (by decide) zq5_32 rfl dX10_moves_4 ?_
      refine gz_icmp_gt K 38 dX10_moves_7 (by decide) (fun h => ?_) (fun h => ?_)
      · have hp := hp.1 h
        exact gz_vret K hr hp dX10_moves_38 (Nat.le_of_ble_eq_true rfl) (Nat.le_of_ble_eq_true rfl)
      · have hp := hp.2 h
        refine gz_aload_n K dX10_moves_10 0 rfl ?_
        refine gz_get K (v := .ref (ad 64)) (by decide) (ce_43 _ _ _ _ _ _) rfl inz_X10 31 (by decide) zq5_62 rfl dX10_moves_11 ?_
        refine gz_aload_n K dX10_moves_14 0 rfl ?_
        refine gz_get K (v := .ref (ad 46)) (by decide) (ce_43 _ _ _ _ _ _) rfl inz_X10 4 (by decide) zq5_35 rfl dX10_moves_15 ?_
        refine gz_bipush K (v := (8 : Int32)) dX10_moves_18 (by decide) ?_
        refine gz_iload_n K dX10_moves_20 1 rfl ?_
        refine gz_imul K dX10_moves_21 ?_
        refine gz_iload_n K dX10_moves_22 2 rfl ?_
        refine gz_iadd K dX10_moves_23 ?_
        obtain ⟨h, hp⟩ := hp
        refine gz_iald K (by decide) (ce_46 _ _ _ _ _ _) h dX10_moves_24 ?_
        refine gz_aload_n K dX10_moves_25 0 rfl ?_
        refine gz_get K (v := .ref (ad 63)) (by decide) (ce_43 _ _ _ _ _ _) rfl inz_X10 30 (by decide) zq5_61 rfl dX10_moves_26 ?_
        refine gz_iload_n K dX10_moves_29 2 rfl ?_
        obtain ⟨h, hp⟩ := hp
        refine gz_iald K (by decide) (ce_63 _ _ _ _ _ _) h dX10_moves_30 ?_
        obtain ⟨h, hp⟩ := hp
        refine gz_iast K (x := (gz_i σ 63 (y2).toNatClampNeg)) (by decide) (ce_64 ad ty) h dX10_moves_31 ?_
        refine gz_iinc K (v := (y2 + 1)) [(2, .int (y2 + 1)), (0, .ref (ad 43)), (1, .int y1)] dX10_moves_32 2 rfl (by first | rfl | decide) (by decide) rfl ?_
        refine gz_goto K 2 dX10_moves_35 (by decide) ?_
        refine gz_sub [1, 2, 0] rfl ?_
        exact ih_2 (sz_i σ 64 ((gz_i σ 46 ((((8 : Int32) * y1) + y2)).toNatClampNeg)).toNatClampNeg (gz_i σ 63 (y2).toNatClampNeg)) y1 (y2 + 1)  hp
  obtain ⟨n, hp⟩ := hp
  exact ll_2 n σ x1 (1 : Int32)  hp
set_option maxRecDepth 100000 in
set_option maxHeartbeats 4000000 in
theorem c_X10_tellDepths {l : Launch} {D : va_G} {ad : Nat → Nat} {ty : Nat → ClassId} (hl : l.stackTraces = false) (hj : ∀ i j, i < 68 → j < 68 → ad i = ad j → i = j) {σ : Dz} {post : Dz → Prop} (hp : P_X10_tellDepths σ post) : Mz l D ad ty yX10_tellDepths cX10_tellDepths 5 none r_X10_tellDepths nV0 σ [.ref (ad 43)] (fun _ τ => post τ) (fun _ _ => False) := by
  refine mz_of (by decide) hl hj (Nat.le_of_ble_eq_true rfl) ?_
  intro p e s m args below meth c K hex hr
  unfold P_X10_tellDepths at hp
  show Gz p l e r_X10_tellDepths s m args below meth c D ad ty 5 0 0 (Ez below D ad ty nV0 (fun _ τ => post τ) (fun _ _ => False) args s 0 0) σ 0 [(0, .ref (ad 43))] []
  refine gz_aload_n K dX10_tellDepths_0 0 rfl ?_
  refine gz_get K (v := .int (gz_i σ 43 27)) (by decide) (ce_43 _ _ _ _ _ _) rfl inz_X10 27 (by decide) zq5_58 rfl dX10_tellDepths_1 ?_
  refine gz_if_eq K 8 dX10_tellDepths_4 (by decide) (fun h => ?_) (fun h => ?_)
  · have hp := hp.1 h
    refine gz_aload_n K dX10_tellDepths_8 0 rfl ?_
    refine gz_iconst K (v := (1 : Int32)) dX10_tellDepths_9 (by decide) ?_
    refine gz_put K (x := (1 : Int32)) (by decide) (ce_43 _ _ _ _ _ _) rfl inz_X10 tyX10 tyX10_ok nmX10 27 (by decide) zq5_58 rfl (tyX10_ok _ (by decide)) rfl rfl (Nat.le_of_ble_eq_true rfl) peX10_27 dX10_tellDepths_10 ?_
    refine gz_iconst K (v := (0 : Int32)) dX10_tellDepths_13 (by decide) ?_
    refine gz_istore_n K [(1, .int (0 : Int32)), (0, .ref (ad 43))] dX10_tellDepths_14 (by decide) rfl ?_
    refine gz_sub [1, 0] rfl ?_
    have ll_15 : ∀ (n_15 : Nat) (σ : Dz) (y1 : Int32) , L_X10_tellDepths_15 post  n_15 σ y1 → Gz p l e r_X10_tellDepths s m args below meth c D ad ty 5 0 0 (Ez below D ad ty nV0 (fun _ τ => post τ) (fun _ _ => False) args s 0 0) σ 15 [(0, .ref (ad 43)), (1, .int y1)] [] := by
      intro n_15; induction n_15 with
      | zero => intro σ y1 hp; exact False.elim hp
      | succ n_15 ih_15 =>
        intro σ y1 hp
        have hp : B_X10_tellDepths_15 post  (L_X10_tellDepths_15 post  n_15) σ y1 := hp
        unfold B_X10_tellDepths_15 at hp
        refine gz_iload_n K dX10_tellDepths_15 1 rfl ?_
        refine gz_sipush K (v := (5040 : Int32)) dX10_tellDepths_16 (by decide) ?_
        refine gz_icmp_ge K 42 dX10_tellDepths_19 (by decide) (fun h => ?_) (fun h => ?_)
        · have hp := hp.1 h
          refine gz_iconst K (v := (1 : Int32)) dX10_tellDepths_42 (by decide) ?_
          refine gz_istore_n K [(1, .int (1 : Int32)), (0, .ref (ad 43))] dX10_tellDepths_43 (by decide) rfl ?_
          refine gz_sub [1, 0] rfl ?_
          have ll_44 : ∀ (n_44 : Nat) (σ : Dz) (y1 : Int32) , L_X10_tellDepths_44 post  n_44 σ y1 → Gz p l e r_X10_tellDepths s m args below meth c D ad ty 5 0 0 (Ez below D ad ty nV0 (fun _ τ => post τ) (fun _ _ => False) args s 0 0) σ 44 [(0, .ref (ad 43)), (1, .int y1)] [] := by
            intro n_44; induction n_44 with
            | zero => intro σ y1 hp; exact False.elim hp
            | succ n_44 ih_44 =>
              intro σ y1 hp
              have hp : B_X10_tellDepths_44 post  (L_X10_tellDepths_44 post  n_44) σ y1 := hp
              unfold B_X10_tellDepths_44 at hp
              refine gz_iload_n K dX10_tellDepths_44 1 rfl ?_
              refine gz_aload_n K dX10_tellDepths_45 0 rfl ?_
              refine gz_get K (v := .int (gz_i σ 43 1)) (by decide) (ce_43 _ _ _ _ _ _) rfl inz_X10 1 (by decide) zq5_32 rfl dX10_tellDepths_46 ?_
              refine gz_icmp_gt K 65 dX10_tellDepths_49 (by decide) (fun h => ?_) (fun h => ?_)
              · have hp := hp.1 h
                refine gz_aload_n K dX10_tellDepths_65 0 rfl ?_
                refine gz_get K (v := .ref (ad 61)) (by decide) (ce_43 _ _ _ _ _ _) rfl inz_X10 28 (by decide) zq5_59 rfl dX10_tellDepths_66 ?_
                refine gz_aload_n K dX10_tellDepths_69 0 rfl ?_
                refine gz_aload_n K dX10_tellDepths_70 0 rfl ?_
                refine gz_get K (v := .ref (ad 63)) (by decide) (ce_43 _ _ _ _ _ _) rfl inz_X10 30 (by decide) zq5_61 rfl dX10_tellDepths_71 ?_
                refine gz_callV K hex (c_X10_numberOf K.2.2.2.2.2 K.2.2.1 ⟨by decide, fun ad ty => ce_63 ad ty⟩ hp) cf_X10_numberOf zq6_70 (by decide) (ce_43 _ _ _ _ _ _) rfl dX10_tellDepths_74 rfl rfl (Nat.le_of_ble_eq_true rfl) ⟨Nat.le_of_ble_eq_true rfl, Nat.le_of_ble_eq_true rfl⟩ ⟨Nat.le_of_ble_eq_true rfl, Nat.le_of_ble_eq_true rfl⟩ (Nat.le_of_ble_eq_true rfl) (Nat.le_of_ble_eq_true rfl) (fun _ _ h => h.elim) (fun r74 τ hp => ?_)
                obtain ⟨rfl, hp⟩ := hp
                refine gz_norm (st' := [.int r74, .ref (ad 61)]) (cells' := 0) (slots' := 0) rfl rfl rfl ?_
                refine gz_iconst K (v := (0 : Int32)) dX10_tellDepths_77 (by decide) ?_
                obtain ⟨h, hp⟩ := hp
                refine gz_iast K (x := (0 : Int32)) (by decide) (ce_61 ad ty) h dX10_tellDepths_78 ?_
                refine gz_aload_n K dX10_tellDepths_79 0 rfl ?_
                refine gz_get K (v := .ref (ad 62)) (by decide) (ce_43 _ _ _ _ _ _) rfl inz_X10 29 (by decide) zq5_60 rfl dX10_tellDepths_80 ?_
                refine gz_iconst K (v := (0 : Int32)) dX10_tellDepths_83 (by decide) ?_
                refine gz_aload_n K dX10_tellDepths_84 0 rfl ?_
                refine gz_aload_n K dX10_tellDepths_85 0 rfl ?_
                refine gz_get K (v := .ref (ad 63)) (by decide) (ce_43 _ _ _ _ _ _) rfl inz_X10 30 (by decide) zq5_61 rfl dX10_tellDepths_86 ?_
                refine gz_callV K hex (c_X10_packed K.2.2.2.2.2 K.2.2.1 ⟨by decide, fun ad ty => ce_63 ad ty⟩ hp) cf_X10_packed zq6_74 (by decide) (ce_43 _ _ _ _ _ _) rfl dX10_tellDepths_89 rfl rfl (Nat.le_of_ble_eq_true rfl) ⟨Nat.le_of_ble_eq_true rfl, Nat.le_of_ble_eq_true rfl⟩ ⟨Nat.le_of_ble_eq_true rfl, Nat.le_of_ble_eq_true rfl⟩ (Nat.le_of_ble_eq_true rfl) (Nat.le_of_ble_eq_true rfl) (fun _ _ h => h.elim) (fun r89 τ hp => ?_)
                obtain ⟨rfl, hp⟩ := hp
                refine gz_norm (st' := [.int r89, .int (0 : Int32), .ref (ad 62)]) (cells' := 0) (slots' := 0) rfl rfl rfl ?_
                refine gz_iast K (x := r89) (by decide) (ce_62 ad ty) (by unfold vp_in; decide) dX10_tellDepths_92 ?_
                refine gz_aload_n K dX10_tellDepths_93 0 rfl ?_
                refine gz_iconst K (v := (1 : Int32)) dX10_tellDepths_94 (by decide) ?_
                refine gz_put K (x := (1 : Int32)) (by decide) (ce_43 _ _ _ _ _ _) rfl inz_X10 tyX10 tyX10_ok nmX10 32 (by decide) zq5_63 rfl (tyX10_ok _ (by decide)) rfl rfl (Nat.le_of_ble_eq_true rfl) peX10_32 dX10_tellDepths_95 ?_
                refine gz_iconst K (v := (0 : Int32)) dX10_tellDepths_98 (by decide) ?_
                refine gz_istore_n K [(1, .int (0 : Int32)), (0, .ref (ad 43))] dX10_tellDepths_99 (by decide) rfl ?_
                refine gz_sub [1, 0] rfl ?_
                have ll_100 : ∀ (n_100 : Nat) (σ : Dz) (y1 : Int32) , L_X10_tellDepths_100 post  n_100 σ y1 → Gz p l e r_X10_tellDepths s m args below meth c D ad ty 5 0 0 (Ez below D ad ty nV0 (fun _ τ => post τ) (fun _ _ => False) args s 0 0) σ 100 [(0, .ref (ad 43)), (1, .int y1)] [] := by
                  intro n_100; induction n_100 with
                  | zero => intro σ y1 hp; exact False.elim hp
                  | succ n_100 ih_100 =>
                    intro σ y1 hp
                    have hp : B_X10_tellDepths_100 post  (L_X10_tellDepths_100 post  n_100) σ y1 := hp
                    unfold B_X10_tellDepths_100 at hp
                    refine gz_iload_n K dX10_tellDepths_100 1 rfl ?_
                    refine gz_aload_n K dX10_tellDepths_101 0 rfl ?_
                    refine gz_get K (v := .int (gz_i σ 43 32)) (by decide) (ce_43 _ _ _ _ _ _) rfl inz_X10 32 (by decide) zq5_63 rfl dX10_tellDepths_102 ?_
                    refine gz_icmp_ge K 238 dX10_tellDepths_105 (by decide) (fun h => ?_) (fun h => ?_)
                    · have hp := hp.1 h
                      exact gz_vret K hr hp dX10_tellDepths_238 (Nat.le_of_ble_eq_true rfl) (Nat.le_of_ble_eq_true rfl)
                    · have hp := hp.2 h
                      refine gz_aload_n K dX10_tellDepths_108 0 rfl ?_
                      refine gz_aload_n K dX10_tellDepths_109 0 rfl ?_
                      refine gz_get K (v := .ref (ad 62)) (by decide) (ce_43 _ _ _ _ _ _) rfl inz_X10 29 (by decide) zq5_60 rfl dX10_tellDepths_110 ?_
                      refine gz_iload_n K dX10_tellDepths_113 1 rfl ?_
                      obtain ⟨h, hp⟩ := hp
                      refine gz_iald K (by decide) (ce_62 _ _ _ _ _ _) h dX10_tellDepths_114 ?_
                      refine gz_callV K hex (c_X10_unpacks K.2.2.2.2.2 K.2.2.1 hp) cf_X10_unpacks zq6_78 (by decide) (ce_43 _ _ _ _ _ _) rfl dX10_tellDepths_115 rfl rfl (Nat.le_of_ble_eq_true rfl) ⟨Nat.le_of_ble_eq_true rfl, Nat.le_of_ble_eq_true rfl⟩ ⟨Nat.le_of_ble_eq_true rfl, Nat.le_of_ble_eq_true rfl⟩ (Nat.le_of_ble_eq_true rfl) (Nat.le_of_ble_eq_true rfl) (fun _ _ h => h.elim) (fun _ τ115 hp => ?_)
                      refine gz_norm (st' := []) (cells' := 0) (slots' := 0) rfl rfl rfl ?_
                      refine gz_aload_n K dX10_tellDepths_118 0 rfl ?_
                      refine gz_get K (v := .ref (ad 61)) (by decide) (ce_43 _ _ _ _ _ _) rfl inz_X10 28 (by decide) zq5_59 rfl dX10_tellDepths_119 ?_
                      refine gz_aload_n K dX10_tellDepths_122 0 rfl ?_
                      refine gz_aload_n K dX10_tellDepths_123 0 rfl ?_
                      refine gz_get K (v := .ref (ad 63)) (by decide) (ce_43 _ _ _ _ _ _) rfl inz_X10 30 (by decide) zq5_61 rfl dX10_tellDepths_124 ?_
                      refine gz_callV K hex (c_X10_numberOf K.2.2.2.2.2 K.2.2.1 ⟨by decide, fun ad ty => ce_63 ad ty⟩ hp) cf_X10_numberOf zq6_70 (by decide) (ce_43 _ _ _ _ _ _) rfl dX10_tellDepths_127 rfl rfl (Nat.le_of_ble_eq_true rfl) ⟨Nat.le_of_ble_eq_true rfl, Nat.le_of_ble_eq_true rfl⟩ ⟨Nat.le_of_ble_eq_true rfl, Nat.le_of_ble_eq_true rfl⟩ (Nat.le_of_ble_eq_true rfl) (Nat.le_of_ble_eq_true rfl) (fun _ _ h => h.elim) (fun r127 τ hp => ?_)
                      obtain ⟨rfl, hp⟩ := hp
                      refine gz_norm (st' := [.int r127, .ref (ad 61)]) (cells' := 0) (slots' := 0) rfl rfl rfl ?_
                      obtain ⟨h, hp⟩ := hp
                      refine gz_iald K (by decide) (ce_61 _ _ _ _ _ _) h dX10_tellDepths_130 ?_
                      refine gz_istore_n K [(2, .int (gz_i τ115 61 (r127).toNatClampNeg)), (0, .ref (ad 43)), (1, .int y1)] dX10_tellDepths_131 (by decide) rfl ?_
                      refine gz_aload_n K dX10_tellDepths_132 1 rfl ?_
                      refine gz_get K (v := .ref (ad 65)) (by decide) (ce_43 _ _ _ _ _ _) rfl inz_X10 34 (by decide) zq5_65 rfl dX10_tellDepths_133 ?_
                      refine gz_iload_n K dX10_tellDepths_136 0 rfl ?_
                      refine gz_dup2 K dX10_tellDepths_137 rfl rfl ?_
                      obtain ⟨h, hp⟩ := hp
                      refine gz_iald K (by decide) (ce_65 _ _ _ _ _ _) h dX10_tellDepths_138 ?_
                      refine gz_iconst K (v := (1 : Int32)) dX10_tellDepths_139 (by decide) ?_
                      refine gz_iadd K dX10_tellDepths_140 ?_
                      obtain ⟨h, hp⟩ := hp
                      refine gz_iast K (x := ((gz_i τ115 65 ((gz_i τ115 61 (r127).toNatClampNeg)).toNatClampNeg) + (1 : Int32))) (by decide) (ce_65 ad ty) h dX10_tellDepths_141 ?_
                      refine gz_aload_n K dX10_tellDepths_142 1 rfl ?_
                      refine gz_iload_n K dX10_tellDepths_143 0 rfl ?_
                      refine gz_put K (x := (gz_i τ115 61 (r127).toNatClampNeg)) (by decide) (ce_43 _ _ _ _ _ _) rfl inz_X10 tyX10 tyX10_ok nmX10 33 (by decide) zq5_64 rfl (tyX10_ok _ (by decide)) rfl rfl (Nat.le_of_ble_eq_true rfl) peX10_33 dX10_tellDepths_144 ?_
                      refine gz_iconst K (v := (0 : Int32)) dX10_tellDepths_147 (by decide) ?_
                      refine gz_istore_n K [(3, .int (0 : Int32)), (2, .int (gz_i τ115 61 (r127).toNatClampNeg)), (0, .ref (ad 43)), (1, .int y1)] dX10_tellDepths_148 (by decide) rfl ?_
                      refine gz_sub [2, 3, 1, 0] rfl ?_
                      have ll_149 : ∀ (n_149 : Nat) (σ : Dz) (y1 : Int32) (y2 : Int32) (y3 : Int32) , L_X10_tellDepths_149 post (L_X10_tellDepths_100 post  n_100) n_149 σ y1 y2 y3 → Gz p l e r_X10_tellDepths s m args below meth c D ad ty 5 0 0 (Ez below D ad ty nV0 (fun _ τ => post τ) (fun _ _ => False) args s 0 0) σ 149 [(0, .ref (ad 43)), (1, .int y1), (2, .int y2), (3, .int y3)] [] := by
                        intro n_149; induction n_149 with
                        | zero => intro σ y1 y2 y3 hp; exact False.elim hp
                        | succ n_149 ih_149 =>
                          intro σ y1 y2 y3 hp
                          have hp : B_X10_tellDepths_149 post (L_X10_tellDepths_100 post  n_100) (L_X10_tellDepths_149 post (L_X10_tellDepths_100 post  n_100) n_149) σ y1 y2 y3 := hp
                          unfold B_X10_tellDepths_149 at hp
                          have bb_226 : ∀ (σ : Dz) (y1 : Int32) (y2 : Int32) (y3 : Int32) , B_X10_tellDepths_226 post (L_X10_tellDepths_100 post  n_100) (L_X10_tellDepths_149 post (L_X10_tellDepths_100 post  n_100) n_149) σ y1 y2 y3 → Gz p l e r_X10_tellDepths s m args below meth c D ad ty 5 0 0 (Ez below D ad ty nV0 (fun _ τ => post τ) (fun _ _ => False) args s 0 0) σ 226 [(0, .ref (ad 43)), (1, .int y1), (2, .int y2), (3, .int y3)] [] := by
                            intro σ y1 y2 y3 hp
                            unfold B_X10_tellDepths_226 at hp
                            refine gz_iinc K (v := (y3 + 1)) [(3, .int (y3 + 1)), (0, .ref (ad 43)), (1, .int y1), (2, .int y2)] dX10_tellDepths_226 3 rfl (by first | rfl | decide) (by decide) rfl ?_
                            refine gz_goto K 149 dX10_tellDepths_229 (by decide) ?_
                            refine gz_sub [1, 2, 3, 0] rfl ?_
                            exact ih_149 σ y1 y2 (y3 + 1)  hp
                          refine gz_iload_n K dX10_tellDepths_149 3 rfl ?_
                          refine gz_bipush K (v := (10 : Int32)) dX10_tellDepths_150 (by decide) ?_
                          refine gz_icmp_ge K 232 dX10_tellDepths_152 (by decide) (fun h => ?_) (fun h => ?_)
                          · have hp := hp.1 h
                            refine gz_iinc K (v := (y1 + 1)) [(1, .int (y1 + 1)), (0, .ref (ad 43)), (2, .int y2), (3, .int y3)] dX10_tellDepths_232 1 rfl (by first | rfl | decide) (by decide) rfl ?_
                            refine gz_goto K 100 dX10_tellDepths_235 (by decide) ?_
                            refine gz_sub [1, 0] rfl ?_
                            exact ih_100 σ (y1 + 1)  hp
                          · have hp := hp.2 h
                            refine gz_aload_n K dX10_tellDepths_155 0 rfl ?_
                            refine gz_iload_n K dX10_tellDepths_156 3 rfl ?_
                            refine gz_callV K hex (c_X10_isLetter K.2.2.2.2.2 K.2.2.1 hp) cf_X10_isLetter zq6_82 (by decide) (ce_43 _ _ _ _ _ _) rfl dX10_tellDepths_157 rfl rfl (Nat.le_of_ble_eq_true rfl) ⟨Nat.le_of_ble_eq_true rfl, Nat.le_of_ble_eq_true rfl⟩ ⟨Nat.le_of_ble_eq_true rfl, Nat.le_of_ble_eq_true rfl⟩ (Nat.le_of_ble_eq_true rfl) (Nat.le_of_ble_eq_true rfl) (fun _ _ h => h.elim) (fun r157 τ hp => ?_)
                            obtain ⟨rfl, hp⟩ := hp
                            refine gz_norm (st' := [.int r157]) (cells' := 0) (slots' := 0) rfl rfl rfl ?_
                            refine gz_if_eq K 226 dX10_tellDepths_160 (by decide) (fun h => ?_) (fun h => ?_)
                            · have hp := hp.1 h
                              exact bb_226 σ y1 y2 y3  hp
                            · have hp := hp.2 h
                              refine gz_aload_n K dX10_tellDepths_163 0 rfl ?_
                              refine gz_iload_n K dX10_tellDepths_164 3 rfl ?_
                              refine gz_callV K hex (c_X10_moves K.2.2.2.2.2 K.2.2.1 hp) cf_X10_moves zq6_86 (by decide) (ce_43 _ _ _ _ _ _) rfl dX10_tellDepths_165 rfl rfl (Nat.le_of_ble_eq_true rfl) ⟨Nat.le_of_ble_eq_true rfl, Nat.le_of_ble_eq_true rfl⟩ ⟨Nat.le_of_ble_eq_true rfl, Nat.le_of_ble_eq_true rfl⟩ (Nat.le_of_ble_eq_true rfl) (Nat.le_of_ble_eq_true rfl) (fun _ _ h => h.elim) (fun _ τ165 hp => ?_)
                              refine gz_norm (st' := []) (cells' := 0) (slots' := 0) rfl rfl rfl ?_
                              refine gz_aload_n K dX10_tellDepths_168 0 rfl ?_
                              refine gz_aload_n K dX10_tellDepths_169 0 rfl ?_
                              refine gz_get K (v := .ref (ad 64)) (by decide) (ce_43 _ _ _ _ _ _) rfl inz_X10 31 (by decide) zq5_62 rfl dX10_tellDepths_170 ?_
                              refine gz_callV K hex (c_X10_numberOf K.2.2.2.2.2 K.2.2.1 ⟨by decide, fun ad ty => ce_64 ad ty⟩ hp) cf_X10_numberOf zq6_70 (by decide) (ce_43 _ _ _ _ _ _) rfl dX10_tellDepths_173 rfl rfl (Nat.le_of_ble_eq_true rfl) ⟨Nat.le_of_ble_eq_true rfl, Nat.le_of_ble_eq_true rfl⟩ ⟨Nat.le_of_ble_eq_true rfl, Nat.le_of_ble_eq_true rfl⟩ (Nat.le_of_ble_eq_true rfl) (Nat.le_of_ble_eq_true rfl) (fun _ _ h => h.elim) (fun r173 τ hp => ?_)
                              obtain ⟨rfl, hp⟩ := hp
                              refine gz_norm (st' := [.int r173]) (cells' := 0) (slots' := 0) rfl rfl rfl ?_
                              refine gz_istore K [(4, .int r173), (0, .ref (ad 43)), (1, .int y1), (2, .int y2), (3, .int y3)] dX10_tellDepths_176 (by decide) rfl ?_
                              refine gz_aload_n K dX10_tellDepths_178 1 rfl ?_
                              refine gz_get K (v := .ref (ad 61)) (by decide) (ce_43 _ _ _ _ _ _) rfl inz_X10 28 (by decide) zq5_59 rfl dX10_tellDepths_179 ?_
                              refine gz_iload K dX10_tellDepths_182 0 rfl ?_
                              obtain ⟨h, hp⟩ := hp
                              refine gz_iald K (by decide) (ce_61 _ _ _ _ _ _) h dX10_tellDepths_184 ?_
                              refine gz_iconst K (v := (-1 : Int32)) dX10_tellDepths_185 (by decide) ?_
                              refine gz_icmp_ne K 226 dX10_tellDepths_186 (by decide) (fun h => ?_) (fun h => ?_)
                              · have hp := hp.1 h
                                refine gz_sub [1, 2, 3, 4] rfl ?_
                                exact bb_226 τ165 y1 y2 y3  hp
                              · have hp := hp.2 h
                                refine gz_aload_n K dX10_tellDepths_189 1 rfl ?_
                                refine gz_get K (v := .ref (ad 61)) (by decide) (ce_43 _ _ _ _ _ _) rfl inz_X10 28 (by decide) zq5_59 rfl dX10_tellDepths_190 ?_
                                refine gz_iload K dX10_tellDepths_193 0 rfl ?_
                                refine gz_iload_n K dX10_tellDepths_195 3 rfl ?_
                                refine gz_iconst K (v := (1 : Int32)) dX10_tellDepths_196 (by decide) ?_
                                refine gz_iadd K dX10_tellDepths_197 ?_
                                obtain ⟨h, hp⟩ := hp
                                refine gz_iast K (x := (y2 + (1 : Int32))) (by decide) (ce_61 ad ty) h dX10_tellDepths_198 ?_
                                refine gz_aload_n K dX10_tellDepths_199 1 rfl ?_
                                refine gz_get K (v := .ref (ad 62)) (by decide) (ce_43 _ _ _ _ _ _) rfl inz_X10 29 (by decide) zq5_60 rfl dX10_tellDepths_200 ?_
                                refine gz_aload_n K dX10_tellDepths_203 1 rfl ?_
                                refine gz_get K (v := .int (gz_i (sz_i τ165 61 (r173).toNatClampNeg (y2 + (1 : Int32))) 43 32)) (by decide) (ce_43 _ _ _ _ _ _) rfl inz_X10 32 (by decide) zq5_63 rfl dX10_tellDepths_204 ?_
                                refine gz_aload_n K dX10_tellDepths_207 1 rfl ?_
                                refine gz_aload_n K dX10_tellDepths_208 1 rfl ?_
                                refine gz_get K (v := .ref (ad 64)) (by decide) (ce_43 _ _ _ _ _ _) rfl inz_X10 31 (by decide) zq5_62 rfl dX10_tellDepths_209 ?_
                                refine gz_callV K hex (c_X10_packed K.2.2.2.2.2 K.2.2.1 ⟨by decide, fun ad ty => ce_64 ad ty⟩ hp) cf_X10_packed zq6_74 (by decide) (ce_43 _ _ _ _ _ _) rfl dX10_tellDepths_212 rfl rfl (Nat.le_of_ble_eq_true rfl) ⟨Nat.le_of_ble_eq_true rfl, Nat.le_of_ble_eq_true rfl⟩ ⟨Nat.le_of_ble_eq_true rfl, Nat.le_of_ble_eq_true rfl⟩ (Nat.le_of_ble_eq_true rfl) (Nat.le_of_ble_eq_true rfl) (fun _ _ h => h.elim) (fun r212 τ hp => ?_)
                                obtain ⟨rfl, hp⟩ := hp
                                refine gz_norm (st' := [.int r212, .int (gz_i (sz_i τ165 61 (r173).toNatClampNeg (y2 + (1 : Int32))) 43 32), .ref (ad 62)]) (cells' := 0) (slots' := 0) rfl rfl rfl ?_
                                obtain ⟨h, hp⟩ := hp
                                refine gz_iast K (x := r212) (by decide) (ce_62 ad ty) h dX10_tellDepths_215 ?_
                                refine gz_aload_n K dX10_tellDepths_216 1 rfl ?_
                                refine gz_dup K dX10_tellDepths_217 rfl ?_
                                refine gz_get K (v := .int (gz_i (sz_i (sz_i τ165 61 (r173).toNatClampNeg (y2 + (1 : Int32))) 62 ((gz_i (sz_i τ165 61 (r173).toNatClampNeg (y2 + (1 : Int32))) 43 32)).toNatClampNeg r212) 43 32)) (by decide) (ce_43 _ _ _ _ _ _) rfl inz_X10 32 (by decide) zq5_63 rfl dX10_tellDepths_218 ?_
                                refine gz_iconst K (v := (1 : Int32)) dX10_tellDepths_221 (by decide) ?_
                                refine gz_iadd K dX10_tellDepths_222 ?_
                                refine gz_put K (x := ((gz_i (sz_i (sz_i τ165 61 (r173).toNatClampNeg (y2 + (1 : Int32))) 62 ((gz_i (sz_i τ165 61 (r173).toNatClampNeg (y2 + (1 : Int32))) 43 32)).toNatClampNeg r212) 43 32) + (1 : Int32))) (by decide) (ce_43 _ _ _ _ _ _) rfl inz_X10 tyX10 tyX10_ok nmX10 32 (by decide) zq5_63 rfl (tyX10_ok _ (by decide)) rfl rfl (Nat.le_of_ble_eq_true rfl) peX10_32 dX10_tellDepths_223 ?_
                                refine gz_sub [1, 2, 3, 4] rfl ?_
                                exact bb_226 (sz_i (sz_i (sz_i τ165 61 (r173).toNatClampNeg (y2 + (1 : Int32))) 62 ((gz_i (sz_i τ165 61 (r173).toNatClampNeg (y2 + (1 : Int32))) 43 32)).toNatClampNeg r212) 43 32 ((gz_i (sz_i (sz_i τ165 61 (r173).toNatClampNeg (y2 + (1 : Int32))) 62 ((gz_i (sz_i τ165 61 (r173).toNatClampNeg (y2 + (1 : Int32))) 43 32)).toNatClampNeg r212) 43 32) + (1 : Int32))) y1 y2 y3  hp
                      obtain ⟨n, hp⟩ := hp
                      exact ll_149 n (sz_i (sz_i τ115 65 ((gz_i τ115 61 (r127).toNatClampNeg)).toNatClampNeg ((gz_i τ115 65 ((gz_i τ115 61 (r127).toNatClampNeg)).toNatClampNeg) + (1 : Int32))) 43 33 (gz_i τ115 61 (r127).toNatClampNeg)) y1 (gz_i τ115 61 (r127).toNatClampNeg) (0 : Int32)  hp
                obtain ⟨n, hp⟩ := hp
                exact ll_100 n (sz_i (sz_i (sz_i σ 61 (r74).toNatClampNeg (0 : Int32)) 62 ((0 : Int32)).toNatClampNeg r89) 43 32 (1 : Int32)) (0 : Int32)  hp
              · have hp := hp.2 h
                refine gz_aload_n K dX10_tellDepths_52 0 rfl ?_
                refine gz_get K (v := .ref (ad 63)) (by decide) (ce_43 _ _ _ _ _ _) rfl inz_X10 30 (by decide) zq5_61 rfl dX10_tellDepths_53 ?_
                refine gz_iload_n K dX10_tellDepths_56 1 rfl ?_
                refine gz_iload_n K dX10_tellDepths_57 1 rfl ?_
                obtain ⟨h, hp⟩ := hp
                refine gz_iast K (x := y1) (by decide) (ce_63 ad ty) h dX10_tellDepths_58 ?_
                refine gz_iinc K (v := (y1 + 1)) [(1, .int (y1 + 1)), (0, .ref (ad 43))] dX10_tellDepths_59 1 rfl (by first | rfl | decide) (by decide) rfl ?_
                refine gz_goto K 44 dX10_tellDepths_62 (by decide) ?_
                refine gz_sub [1, 0] rfl ?_
                exact ih_44 (sz_i σ 63 (y1).toNatClampNeg y1) (y1 + 1)  hp
          obtain ⟨n, hp⟩ := hp
          exact ll_44 n σ (1 : Int32)  hp
        · have hp := hp.2 h
          refine gz_aload_n K dX10_tellDepths_22 0 rfl ?_
          refine gz_get K (v := .ref (ad 61)) (by decide) (ce_43 _ _ _ _ _ _) rfl inz_X10 28 (by decide) zq5_59 rfl dX10_tellDepths_23 ?_
          refine gz_iload_n K dX10_tellDepths_26 1 rfl ?_
          refine gz_iconst K (v := (-1 : Int32)) dX10_tellDepths_27 (by decide) ?_
          obtain ⟨h, hp⟩ := hp
          refine gz_iast K (x := (-1 : Int32)) (by decide) (ce_61 ad ty) h dX10_tellDepths_28 ?_
          refine gz_aload_n K dX10_tellDepths_29 0 rfl ?_
          refine gz_get K (v := .ref (ad 65)) (by decide) (ce_43 _ _ _ _ _ _) rfl inz_X10 34 (by decide) zq5_65 rfl dX10_tellDepths_30 ?_
          refine gz_iload_n K dX10_tellDepths_33 1 rfl ?_
          refine gz_iconst K (v := (0 : Int32)) dX10_tellDepths_34 (by decide) ?_
          obtain ⟨h, hp⟩ := hp
          refine gz_iast K (x := (0 : Int32)) (by decide) (ce_65 ad ty) h dX10_tellDepths_35 ?_
          refine gz_iinc K (v := (y1 + 1)) [(1, .int (y1 + 1)), (0, .ref (ad 43))] dX10_tellDepths_36 1 rfl (by first | rfl | decide) (by decide) rfl ?_
          refine gz_goto K 15 dX10_tellDepths_39 (by decide) ?_
          refine gz_sub [1, 0] rfl ?_
          exact ih_15 (sz_i (sz_i σ 61 (y1).toNatClampNeg (-1 : Int32)) 65 (y1).toNatClampNeg (0 : Int32)) (y1 + 1)  hp
    obtain ⟨n, hp⟩ := hp
    exact ll_15 n (sz_i σ 43 27 (1 : Int32)) (0 : Int32)  hp
  · have hp := hp.2 h
    exact gz_vret K hr hp dX10_tellDepths_7 (Nat.le_of_ble_eq_true rfl) (Nat.le_of_ble_eq_true rfl)
set_option maxRecDepth 100000 in
set_option maxHeartbeats 4000000 in
theorem c_X10_depthNow {l : Launch} {D : va_G} {ad : Nat → Nat} {ty : Nat → ClassId} (hl : l.stackTraces = false) (hj : ∀ i j, i < 68 → j < 68 → ad i = ad j → i = j) {σ : Dz} {post : Int32 → Dz → Prop} (hp : P_X10_depthNow σ post) : Mz l D ad ty yX10_depthNow cX10_depthNow 1 (some .int) r_X10_depthNow nI0 σ [.ref (ad 43)] post (fun _ _ => False) := by
  refine mz_of (by decide) hl hj (Nat.le_of_ble_eq_true rfl) ?_
  intro p e s m args below meth c K hex hr
  unfold P_X10_depthNow at hp
  show Gz p l e r_X10_depthNow s m args below meth c D ad ty 1 0 0 (Ez below D ad ty nI0 post (fun _ _ => False) args s 0 0) σ 0 [(0, .ref (ad 43))] []
  refine gz_aload_n K dX10_depthNow_0 0 rfl ?_
  refine gz_callV K hex (c_X10_tellDepths K.2.2.2.2.2 K.2.2.1 hp) cf_X10_tellDepths zq6_66 (by decide) (ce_43 _ _ _ _ _ _) rfl dX10_depthNow_1 rfl rfl (Nat.le_of_ble_eq_true rfl) ⟨Nat.le_of_ble_eq_true rfl, Nat.le_of_ble_eq_true rfl⟩ ⟨Nat.le_of_ble_eq_true rfl, Nat.le_of_ble_eq_true rfl⟩ (Nat.le_of_ble_eq_true rfl) (Nat.le_of_ble_eq_true rfl) (fun _ _ h => h.elim) (fun _ τ1 hp => ?_)
  refine gz_norm (st' := []) (cells' := 0) (slots' := 0) rfl rfl rfl ?_
  refine gz_aload_n K dX10_depthNow_4 0 rfl ?_
  refine gz_get K (v := .ref (ad 61)) (by decide) (ce_43 _ _ _ _ _ _) rfl inz_X10 28 (by decide) zq5_59 rfl dX10_depthNow_5 ?_
  refine gz_aload_n K dX10_depthNow_8 0 rfl ?_
  refine gz_aload_n K dX10_depthNow_9 0 rfl ?_
  refine gz_get K (v := .ref (ad 44)) (by decide) (ce_43 _ _ _ _ _ _) rfl inz_X10 2 (by decide) zq5_33 rfl dX10_depthNow_10 ?_
  refine gz_callV K hex (c_X10_numberOf K.2.2.2.2.2 K.2.2.1 ⟨by decide, fun ad ty => ce_44 ad ty⟩ hp) cf_X10_numberOf zq6_70 (by decide) (ce_43 _ _ _ _ _ _) rfl dX10_depthNow_13 rfl rfl (Nat.le_of_ble_eq_true rfl) ⟨Nat.le_of_ble_eq_true rfl, Nat.le_of_ble_eq_true rfl⟩ ⟨Nat.le_of_ble_eq_true rfl, Nat.le_of_ble_eq_true rfl⟩ (Nat.le_of_ble_eq_true rfl) (Nat.le_of_ble_eq_true rfl) (fun _ _ h => h.elim) (fun r13 τ hp => ?_)
  obtain ⟨rfl, hp⟩ := hp
  refine gz_norm (st' := [.int r13, .ref (ad 61)]) (cells' := 0) (slots' := 0) rfl rfl rfl ?_
  obtain ⟨h, hp⟩ := hp
  refine gz_iald K (by decide) (ce_61 _ _ _ _ _ _) h dX10_depthNow_16 ?_
  exact gz_iret K hr hp dX10_depthNow_17 (Nat.le_of_ble_eq_true rfl) (Nat.le_of_ble_eq_true rfl)
set_option maxRecDepth 100000 in
set_option maxHeartbeats 4000000 in
theorem c_X10_depth {l : Launch} {D : va_G} {ad : Nat → Nat} {ty : Nat → ClassId} (hl : l.stackTraces = false) (hj : ∀ i j, i < 68 → j < 68 → ad i = ad j → i = j) {σ : Dz} {post : Int32 → Dz → Prop} (hp : P_X10_depth σ post) : Mz l D ad ty yX10_depth cX10_depth 2 (some .int) r_X10_depth nI0 σ [.ref (ad 43)] post (fun _ _ => False) := by
  refine mz_of (by decide) hl hj (Nat.le_of_ble_eq_true rfl) ?_
  intro p e s m args below meth c K hex hr
  unfold P_X10_depth at hp
  show Gz p l e r_X10_depth s m args below meth c D ad ty 2 0 0 (Ez below D ad ty nI0 post (fun _ _ => False) args s 0 0) σ 0 [(0, .ref (ad 43))] []
  refine gz_aload_n K dX10_depth_0 0 rfl ?_
  refine gz_callV K hex (c_X10_depthNow K.2.2.2.2.2 K.2.2.1 hp) cf_X10_depthNow zq6_62 (by decide) (ce_43 _ _ _ _ _ _) rfl dX10_depth_1 rfl rfl (Nat.le_of_ble_eq_true rfl) ⟨Nat.le_of_ble_eq_true rfl, Nat.le_of_ble_eq_true rfl⟩ ⟨Nat.le_of_ble_eq_true rfl, Nat.le_of_ble_eq_true rfl⟩ (Nat.le_of_ble_eq_true rfl) (Nat.le_of_ble_eq_true rfl) (fun _ _ h => h.elim) (fun r1 τ1 hp => ?_)
  refine gz_norm (st' := [.int r1]) (cells' := 0) (slots' := 0) rfl rfl rfl ?_
  refine gz_istore_n K [(1, .int r1), (0, .ref (ad 43))] dX10_depth_4 (by decide) rfl ?_
  refine gz_iload_n K dX10_depth_5 0 rfl ?_
  refine gz_iconst K (v := (-1 : Int32)) dX10_depth_6 (by decide) ?_
  refine gz_icmp_ne K 18 dX10_depth_7 (by decide) (fun h => ?_) (fun h => ?_)
  · have hp := hp.1 h
    refine gz_aload_n K dX10_depth_18 1 rfl ?_
    refine gz_iload_n K dX10_depth_19 0 rfl ?_
    refine gz_callV K hex (c_X10_done K.2.2.2.2.2 K.2.2.1 hp) cf_X10_done zq5_153 (by decide) (ce_43 _ _ _ _ _ _) rfl dX10_depth_20 rfl rfl (Nat.le_of_ble_eq_true rfl) ⟨Nat.le_of_ble_eq_true rfl, Nat.le_of_ble_eq_true rfl⟩ ⟨Nat.le_of_ble_eq_true rfl, Nat.le_of_ble_eq_true rfl⟩ (Nat.le_of_ble_eq_true rfl) (Nat.le_of_ble_eq_true rfl) (fun _ _ h => h.elim) (fun r20 τ20 hp => ?_)
    refine gz_norm (st' := [.int r20]) (cells' := 0) (slots' := 0) rfl rfl rfl ?_
    exact gz_iret K hr hp dX10_depth_23 (Nat.le_of_ble_eq_true rfl) (Nat.le_of_ble_eq_true rfl)
  · have hp := hp.2 h
    refine gz_aload_n K dX10_depth_10 1 rfl ?_
    refine gz_iconst K (v := (1 : Int32)) dX10_depth_11 (by decide) ?_
    refine gz_callV K hex (c_X10_fails K.2.2.2.2.2 K.2.2.1 hp) cf_X10_fails zq5_149 (by decide) (ce_43 _ _ _ _ _ _) rfl dX10_depth_12 rfl rfl (Nat.le_of_ble_eq_true rfl) ⟨Nat.le_of_ble_eq_true rfl, Nat.le_of_ble_eq_true rfl⟩ ⟨Nat.le_of_ble_eq_true rfl, Nat.le_of_ble_eq_true rfl⟩ (Nat.le_of_ble_eq_true rfl) (Nat.le_of_ble_eq_true rfl) (fun _ _ h => h.elim) (fun r12 τ12 hp => ?_)
    refine gz_norm (st' := [.int r12]) (cells' := 0) (slots' := 0) rfl rfl rfl ?_
    refine gz_goto K 23 dX10_depth_15 (by decide) ?_
    exact gz_iret K hr hp dX10_depth_23 (Nat.le_of_ble_eq_true rfl) (Nat.le_of_ble_eq_true rfl)
set_option maxRecDepth 100000 in
set_option maxHeartbeats 4000000 in
theorem c_X10_solve {l : Launch} {D : va_G} {ad : Nat → Nat} {ty : Nat → ClassId} (hl : l.stackTraces = false) (hj : ∀ i j, i < 68 → j < 68 → ad i = ad j → i = j) {σ : Dz} {x1 : Int32} {post : Int32 → Dz → Prop} (hp : P_X10_solve σ x1 post) : Mz l D ad ty yX10_solve cX10_solve 6 (some .int) r_X10_solve nI0 σ [.ref (ad 43), .int x1] post (fun _ _ => False) := by
  refine mz_of (by decide) hl hj (Nat.le_of_ble_eq_true rfl) ?_
  intro p e s m args below meth c K hex hr
  unfold P_X10_solve at hp
  show Gz p l e r_X10_solve s m args below meth c D ad ty 6 0 0 (Ez below D ad ty nI0 post (fun _ _ => False) args s 0 0) σ 0 [(0, .ref (ad 43)), (1, .int x1)] []
  refine gz_iload_n K dX10_solve_0 1 rfl ?_
  refine gz_callS K hex (c_X10_isSlot K.2.2.2.2.2 K.2.2.1 hp) cf_X10_isSlot zq5_189 dX10_solve_1 rfl rfl (Nat.le_of_ble_eq_true rfl) ⟨Nat.le_of_ble_eq_true rfl, Nat.le_of_ble_eq_true rfl⟩ ⟨Nat.le_of_ble_eq_true rfl, Nat.le_of_ble_eq_true rfl⟩ (Nat.le_of_ble_eq_true rfl) (Nat.le_of_ble_eq_true rfl) (fun _ _ h => h.elim) (fun r1 τ hp => ?_)
  obtain ⟨rfl, hp⟩ := hp
  refine gz_norm (st' := [.int r1]) (cells' := 0) (slots' := 0) rfl rfl rfl ?_
  refine gz_if_ne K 13 dX10_solve_4 (by decide) (fun h => ?_) (fun h => ?_)
  · have hp := hp.1 h
    refine gz_aload_n K dX10_solve_13 0 rfl ?_
    refine gz_callV K hex (c_X10_depthNow K.2.2.2.2.2 K.2.2.1 hp) cf_X10_depthNow zq6_62 (by decide) (ce_43 _ _ _ _ _ _) rfl dX10_solve_14 rfl rfl (Nat.le_of_ble_eq_true rfl) ⟨Nat.le_of_ble_eq_true rfl, Nat.le_of_ble_eq_true rfl⟩ ⟨Nat.le_of_ble_eq_true rfl, Nat.le_of_ble_eq_true rfl⟩ (Nat.le_of_ble_eq_true rfl) (Nat.le_of_ble_eq_true rfl) (fun _ _ h => h.elim) (fun r14 τ14 hp => ?_)
    refine gz_norm (st' := [.int r14]) (cells' := 0) (slots' := 0) rfl rfl rfl ?_
    refine gz_istore_n K [(2, .int r14), (0, .ref (ad 43)), (1, .int x1)] dX10_solve_17 (by decide) rfl ?_
    refine gz_iload_n K dX10_solve_18 0 rfl ?_
    refine gz_iconst K (v := (-1 : Int32)) dX10_solve_19 (by decide) ?_
    refine gz_icmp_ne K 29 dX10_solve_20 (by decide) (fun h => ?_) (fun h => ?_)
    · have hp := hp.1 h
      refine gz_aload_n K dX10_solve_29 1 rfl ?_
      refine gz_callV K hex (c_X10_clears K.2.2.2.2.2 K.2.2.1 hp) cf_X10_clears zq5_192 (by decide) (ce_43 _ _ _ _ _ _) rfl dX10_solve_30 rfl rfl (Nat.le_of_ble_eq_true rfl) ⟨Nat.le_of_ble_eq_true rfl, Nat.le_of_ble_eq_true rfl⟩ ⟨Nat.le_of_ble_eq_true rfl, Nat.le_of_ble_eq_true rfl⟩ (Nat.le_of_ble_eq_true rfl) (Nat.le_of_ble_eq_true rfl) (fun _ _ h => h.elim) (fun _ τ30 hp => ?_)
      refine gz_norm (st' := []) (cells' := 0) (slots' := 0) rfl rfl rfl ?_
      refine gz_iconst K (v := (1 : Int32)) dX10_solve_33 (by decide) ?_
      refine gz_istore_n K [(3, .int (1 : Int32)), (2, .int r14), (0, .ref (ad 43)), (1, .int x1)] dX10_solve_34 (by decide) rfl ?_
      refine gz_sub [2, 3, 1, 0] rfl ?_
      have ll_35 : ∀ (n_35 : Nat) (σ : Dz) (y1 : Int32) (y2 : Int32) (y3 : Int32) , L_X10_solve_35 post  n_35 σ y1 y2 y3 → Gz p l e r_X10_solve s m args below meth c D ad ty 6 0 0 (Ez below D ad ty nI0 post (fun _ _ => False) args s 0 0) σ 35 [(0, .ref (ad 43)), (1, .int y1), (2, .int y2), (3, .int y3)] [] := by
        intro n_35; induction n_35 with
        | zero => intro σ y1 y2 y3 hp; exact False.elim hp
        | succ n_35 ih_35 =>
          intro σ y1 y2 y3 hp
          have hp : B_X10_solve_35 post  (L_X10_solve_35 post  n_35) σ y1 y2 y3 := hp
          unfold B_X10_solve_35 at hp
          refine gz_iload_n K dX10_solve_35 3 rfl ?_
          refine gz_aload_n K dX10_solve_36 0 rfl ?_
          refine gz_get K (v := .int (gz_i σ 43 1)) (by decide) (ce_43 _ _ _ _ _ _) rfl inz_X10 1 (by decide) zq5_32 rfl dX10_solve_37 ?_
          refine gz_icmp_gt K 61 dX10_solve_40 (by decide) (fun h => ?_) (fun h => ?_)
          · have hp := hp.1 h
            refine gz_sub [0, 1, 2] rfl ?_
            have ll_61 : ∀ (n_61 : Nat) (σ : Dz) (y1 : Int32) (y2 : Int32) , L_X10_solve_61 post  n_61 σ y1 y2 → Gz p l e r_X10_solve s m args below meth c D ad ty 6 0 0 (Ez below D ad ty nI0 post (fun _ _ => False) args s 0 0) σ 61 [(0, .ref (ad 43)), (1, .int y1), (2, .int y2)] [] := by
              intro n_61; induction n_61 with
              | zero => intro σ y1 y2 hp; exact False.elim hp
              | succ n_61 ih_61 =>
                intro σ y1 y2 hp
                have hp : B_X10_solve_61 post  (L_X10_solve_61 post  n_61) σ y1 y2 := hp
                unfold B_X10_solve_61 at hp
                refine gz_iload_n K dX10_solve_61 2 rfl ?_
                refine gz_if_le K 173 dX10_solve_62 (by decide) (fun h => ?_) (fun h => ?_)
                · have hp := hp.1 h
                  refine gz_aload_n K dX10_solve_173 0 rfl ?_
                  refine gz_iload_n K dX10_solve_174 1 rfl ?_
                  refine gz_callV K hex (c_X10_keeps K.2.2.2.2.2 K.2.2.1 hp) cf_X10_keeps zq5_218 (by decide) (ce_43 _ _ _ _ _ _) rfl dX10_solve_175 rfl rfl (Nat.le_of_ble_eq_true rfl) ⟨Nat.le_of_ble_eq_true rfl, Nat.le_of_ble_eq_true rfl⟩ ⟨Nat.le_of_ble_eq_true rfl, Nat.le_of_ble_eq_true rfl⟩ (Nat.le_of_ble_eq_true rfl) (Nat.le_of_ble_eq_true rfl) (fun _ _ h => h.elim) (fun r175 τ175 hp => ?_)
                  refine gz_norm (st' := [.int r175]) (cells' := 0) (slots' := 0) rfl rfl rfl ?_
                  exact gz_iret K hr hp dX10_solve_178 (Nat.le_of_ble_eq_true rfl) (Nat.le_of_ble_eq_true rfl)
                · have hp := hp.2 h
                  refine gz_iconst K (v := (0 : Int32)) dX10_solve_65 (by decide) ?_
                  refine gz_istore_n K [(3, .int (0 : Int32)), (0, .ref (ad 43)), (1, .int y1), (2, .int y2)] dX10_solve_66 (by decide) rfl ?_
                  refine gz_iconst K (v := (0 : Int32)) dX10_solve_67 (by decide) ?_
                  refine gz_istore K [(4, .int (0 : Int32)), (3, .int (0 : Int32)), (0, .ref (ad 43)), (1, .int y1), (2, .int y2)] dX10_solve_68 (by decide) rfl ?_
                  refine gz_sub [2, 3, 4, 1, 0] rfl ?_
                  have ll_70 : ∀ (n_70 : Nat) (σ : Dz) (y1 : Int32) (y2 : Int32) (y3 : Int32) (y4 : Int32) , L_X10_solve_70 post (L_X10_solve_61 post  n_61) n_70 σ y1 y2 y3 y4 → Gz p l e r_X10_solve s m args below meth c D ad ty 6 0 0 (Ez below D ad ty nI0 post (fun _ _ => False) args s 0 0) σ 70 [(0, .ref (ad 43)), (1, .int y1), (2, .int y2), (3, .int y3), (4, .int y4)] [] := by
                    intro n_70; induction n_70 with
                    | zero => intro σ y1 y2 y3 y4 hp; exact False.elim hp
                    | succ n_70 ih_70 =>
                      intro σ y1 y2 y3 y4 hp
                      have hp : B_X10_solve_70 post (L_X10_solve_61 post  n_61) (L_X10_solve_70 post (L_X10_solve_61 post  n_61) n_70) σ y1 y2 y3 y4 := hp
                      unfold B_X10_solve_70 at hp
                      have bb_125 : ∀ (σ : Dz) (y1 : Int32) (y2 : Int32) (y4 : Int32) (z0 : Int32) (z1 : Int32) , B_X10_solve_125 post (L_X10_solve_61 post  n_61) (L_X10_solve_70 post (L_X10_solve_61 post  n_61) n_70) σ y1 y2 y4 z0 z1 → Gz p l e r_X10_solve s m args below meth c D ad ty 6 0 0 (Ez below D ad ty nI0 post (fun _ _ => False) args s 0 0) σ 125 [(0, .ref (ad 43)), (1, .int y1), (2, .int y2), (4, .int y4)] [.int z0, .int z1] := by
                        intro σ y1 y2 y4 z0 z1 hp
                        unfold B_X10_solve_125 at hp
                        refine gz_iadd K dX10_solve_125 ?_
                        refine gz_istore_n K [(3, .int (z1 + z0)), (0, .ref (ad 43)), (1, .int y1), (2, .int y2), (4, .int y4)] dX10_solve_126 (by decide) rfl ?_
                        refine gz_goto K 70 dX10_solve_127 (by decide) ?_
                        refine gz_sub [1, 2, 3, 0, 4] rfl ?_
                        exact ih_70 σ y1 y2 (z1 + z0) y4  hp
                      have bb_114 : ∀ (σ : Dz) (y1 : Int32) (y2 : Int32) (y3 : Int32) (y4 : Int32) , B_X10_solve_114 post (L_X10_solve_61 post  n_61) (L_X10_solve_70 post (L_X10_solve_61 post  n_61) n_70) σ y1 y2 y3 y4 → Gz p l e r_X10_solve s m args below meth c D ad ty 6 0 0 (Ez below D ad ty nI0 post (fun _ _ => False) args s 0 0) σ 114 [(0, .ref (ad 43)), (1, .int y1), (2, .int y2), (3, .int y3), (4, .int y4)] [] := by
                        intro σ y1 y2 y3 y4 hp
                        unfold B_X10_solve_114 at hp
                        refine gz_iload_n K dX10_solve_114 3 rfl ?_
                        refine gz_iload K dX10_solve_115 4 rfl ?_
                        refine gz_if_eq K 124 dX10_solve_117 (by decide) (fun h => ?_) (fun h => ?_)
                        · have hp := hp.1 h
                          refine gz_iconst K (v := (1 : Int32)) dX10_solve_124 (by decide) ?_
                          refine gz_sub [0, 1, 2, 4] rfl ?_
                          exact bb_125 σ y1 y2 y4 (1 : Int32) y3  hp
                        · have hp := hp.2 h
                          refine gz_iconst K (v := (0 : Int32)) dX10_solve_120 (by decide) ?_
                          refine gz_goto K 125 dX10_solve_121 (by decide) ?_
                          refine gz_sub [0, 1, 2, 4] rfl ?_
                          exact bb_125 σ y1 y2 y4 (0 : Int32) y3  hp
                      have bb_112 : ∀ (σ : Dz) (y1 : Int32) (y2 : Int32) (y3 : Int32) (z0 : Int32) , B_X10_solve_112 post (L_X10_solve_61 post  n_61) (L_X10_solve_70 post (L_X10_solve_61 post  n_61) n_70) σ y1 y2 y3 z0 → Gz p l e r_X10_solve s m args below meth c D ad ty 6 0 0 (Ez below D ad ty nI0 post (fun _ _ => False) args s 0 0) σ 112 [(0, .ref (ad 43)), (1, .int y1), (2, .int y2), (3, .int y3)] [.int z0] := by
                        intro σ y1 y2 y3 z0 hp
                        unfold B_X10_solve_112 at hp
                        refine gz_istore K [(4, .int z0), (0, .ref (ad 43)), (1, .int y1), (2, .int y2), (3, .int y3)] dX10_solve_112 (by decide) rfl ?_
                        refine gz_sub [1, 2, 3, 4, 0] rfl ?_
                        exact bb_114 σ y1 y2 y3 z0  hp
                      refine gz_iload K dX10_solve_70 4 rfl ?_
                      refine gz_if_ne K 130 dX10_solve_72 (by decide) (fun h => ?_) (fun h => ?_)
                      · have hp := hp.1 h
                        refine gz_aload_n K dX10_solve_130 0 rfl ?_
                        refine gz_iload_n K dX10_solve_131 3 rfl ?_
                        refine gz_callV K hex (c_X10_comes K.2.2.2.2.2 K.2.2.1 hp) cf_X10_comes zq5_202 (by decide) (ce_43 _ _ _ _ _ _) rfl dX10_solve_132 rfl rfl (Nat.le_of_ble_eq_true rfl) ⟨Nat.le_of_ble_eq_true rfl, Nat.le_of_ble_eq_true rfl⟩ ⟨Nat.le_of_ble_eq_true rfl, Nat.le_of_ble_eq_true rfl⟩ (Nat.le_of_ble_eq_true rfl) (Nat.le_of_ble_eq_true rfl) (fun _ _ h => h.elim) (fun _ τ132 hp => ?_)
                        refine gz_norm (st' := []) (cells' := 0) (slots' := 0) rfl rfl rfl ?_
                        refine gz_iconst K (v := (1 : Int32)) dX10_solve_135 (by decide) ?_
                        refine gz_istore K [(5, .int (1 : Int32)), (0, .ref (ad 43)), (1, .int y1), (2, .int y2), (3, .int y3), (4, .int y4)] dX10_solve_136 (by decide) rfl ?_
                        refine gz_sub [1, 2, 3, 0] rfl ?_
                        have ll_138 : ∀ (n_138 : Nat) (σ : Dz) (y1 : Int32) (y2 : Int32) (y5 : Int32) , L_X10_solve_138 post (L_X10_solve_61 post  n_61) n_138 σ y1 y2 y5 → Gz p l e r_X10_solve s m args below meth c D ad ty 6 0 0 (Ez below D ad ty nI0 post (fun _ _ => False) args s 0 0) σ 138 [(0, .ref (ad 43)), (1, .int y1), (2, .int y2), (5, .int y5)] [] := by
                          intro n_138; induction n_138 with
                          | zero => intro σ y1 y2 y5 hp; exact False.elim hp
                          | succ n_138 ih_138 =>
                            intro σ y1 y2 y5 hp
                            have hp : B_X10_solve_138 post (L_X10_solve_61 post  n_61) (L_X10_solve_138 post (L_X10_solve_61 post  n_61) n_138) σ y1 y2 y5 := hp
                            unfold B_X10_solve_138 at hp
                            refine gz_iload K dX10_solve_138 3 rfl ?_
                            refine gz_aload_n K dX10_solve_140 0 rfl ?_
                            refine gz_get K (v := .int (gz_i σ 43 1)) (by decide) (ce_43 _ _ _ _ _ _) rfl inz_X10 1 (by decide) zq5_32 rfl dX10_solve_141 ?_
                            refine gz_icmp_gt K 167 dX10_solve_144 (by decide) (fun h => ?_) (fun h => ?_)
                            · have hp := hp.1 h
                              refine gz_iinc K (v := (y2 + (-1))) [(2, .int (y2 + (-1))), (0, .ref (ad 43)), (1, .int y1), (5, .int y5)] dX10_solve_167 2 rfl (by first | rfl | decide) (by decide) rfl ?_
                              refine gz_goto K 61 dX10_solve_170 (by decide) ?_
                              refine gz_sub [1, 2, 0] rfl ?_
                              exact ih_61 σ y1 (y2 + (-1))  hp
                            · have hp := hp.2 h
                              refine gz_aload_n K dX10_solve_147 0 rfl ?_
                              refine gz_get K (v := .ref (ad 63)) (by decide) (ce_43 _ _ _ _ _ _) rfl inz_X10 30 (by decide) zq5_61 rfl dX10_solve_148 ?_
                              refine gz_iload K dX10_solve_151 3 rfl ?_
                              refine gz_aload_n K dX10_solve_153 0 rfl ?_
                              refine gz_get K (v := .ref (ad 64)) (by decide) (ce_43 _ _ _ _ _ _) rfl inz_X10 31 (by decide) zq5_62 rfl dX10_solve_154 ?_
                              refine gz_iload K dX10_solve_157 3 rfl ?_
                              obtain ⟨h, hp⟩ := hp
                              refine gz_iald K (by decide) (ce_64 _ _ _ _ _ _) h dX10_solve_159 ?_
                              obtain ⟨h, hp⟩ := hp
                              refine gz_iast K (x := (gz_i σ 64 (y5).toNatClampNeg)) (by decide) (ce_63 ad ty) h dX10_solve_160 ?_
                              refine gz_iinc K (v := (y5 + 1)) [(5, .int (y5 + 1)), (0, .ref (ad 43)), (1, .int y1), (2, .int y2)] dX10_solve_161 3 rfl (by first | rfl | decide) (by decide) rfl ?_
                              refine gz_goto K 138 dX10_solve_164 (by decide) ?_
                              refine gz_sub [1, 2, 3, 0] rfl ?_
                              exact ih_138 (sz_i σ 63 (y5).toNatClampNeg (gz_i σ 64 (y5).toNatClampNeg)) y1 y2 (y5 + 1)  hp
                        obtain ⟨n, hp⟩ := hp
                        exact ll_138 n τ132 y1 y2 (1 : Int32)  hp
                      · have hp := hp.2 h
                        refine gz_aload_n K dX10_solve_75 0 rfl ?_
                        refine gz_iload_n K dX10_solve_76 3 rfl ?_
                        refine gz_callV K hex (c_X10_isLetter K.2.2.2.2.2 K.2.2.1 hp) cf_X10_isLetter zq6_82 (by decide) (ce_43 _ _ _ _ _ _) rfl dX10_solve_77 rfl rfl (Nat.le_of_ble_eq_true rfl) ⟨Nat.le_of_ble_eq_true rfl, Nat.le_of_ble_eq_true rfl⟩ ⟨Nat.le_of_ble_eq_true rfl, Nat.le_of_ble_eq_true rfl⟩ (Nat.le_of_ble_eq_true rfl) (Nat.le_of_ble_eq_true rfl) (fun _ _ h => h.elim) (fun r77 τ hp => ?_)
                        obtain ⟨rfl, hp⟩ := hp
                        refine gz_norm (st' := [.int r77]) (cells' := 0) (slots' := 0) rfl rfl rfl ?_
                        refine gz_if_eq K 114 dX10_solve_80 (by decide) (fun h => ?_) (fun h => ?_)
                        · have hp := hp.1 h
                          exact bb_114 σ y1 y2 y3 y4  hp
                        · have hp := hp.2 h
                          refine gz_aload_n K dX10_solve_83 0 rfl ?_
                          refine gz_iload_n K dX10_solve_84 3 rfl ?_
                          refine gz_callV K hex (c_X10_moves K.2.2.2.2.2 K.2.2.1 hp) cf_X10_moves zq6_86 (by decide) (ce_43 _ _ _ _ _ _) rfl dX10_solve_85 rfl rfl (Nat.le_of_ble_eq_true rfl) ⟨Nat.le_of_ble_eq_true rfl, Nat.le_of_ble_eq_true rfl⟩ ⟨Nat.le_of_ble_eq_true rfl, Nat.le_of_ble_eq_true rfl⟩ (Nat.le_of_ble_eq_true rfl) (Nat.le_of_ble_eq_true rfl) (fun _ _ h => h.elim) (fun _ τ85 hp => ?_)
                          refine gz_norm (st' := []) (cells' := 0) (slots' := 0) rfl rfl rfl ?_
                          refine gz_aload_n K dX10_solve_88 0 rfl ?_
                          refine gz_get K (v := .ref (ad 61)) (by decide) (ce_43 _ _ _ _ _ _) rfl inz_X10 28 (by decide) zq5_59 rfl dX10_solve_89 ?_
                          refine gz_aload_n K dX10_solve_92 0 rfl ?_
                          refine gz_aload_n K dX10_solve_93 0 rfl ?_
                          refine gz_get K (v := .ref (ad 64)) (by decide) (ce_43 _ _ _ _ _ _) rfl inz_X10 31 (by decide) zq5_62 rfl dX10_solve_94 ?_
                          refine gz_callV K hex (c_X10_numberOf K.2.2.2.2.2 K.2.2.1 ⟨by decide, fun ad ty => ce_64 ad ty⟩ hp) cf_X10_numberOf zq6_70 (by decide) (ce_43 _ _ _ _ _ _) rfl dX10_solve_97 rfl rfl (Nat.le_of_ble_eq_true rfl) ⟨Nat.le_of_ble_eq_true rfl, Nat.le_of_ble_eq_true rfl⟩ ⟨Nat.le_of_ble_eq_true rfl, Nat.le_of_ble_eq_true rfl⟩ (Nat.le_of_ble_eq_true rfl) (Nat.le_of_ble_eq_true rfl) (fun _ _ h => h.elim) (fun r97 τ hp => ?_)
                          obtain ⟨rfl, hp⟩ := hp
                          refine gz_norm (st' := [.int r97, .ref (ad 61)]) (cells' := 0) (slots' := 0) rfl rfl rfl ?_
                          obtain ⟨h, hp⟩ := hp
                          refine gz_iald K (by decide) (ce_61 _ _ _ _ _ _) h dX10_solve_100 ?_
                          refine gz_iload_n K dX10_solve_101 2 rfl ?_
                          refine gz_iconst K (v := (1 : Int32)) dX10_solve_102 (by decide) ?_
                          refine gz_isub K dX10_solve_103 ?_
                          refine gz_icmp_ne K 111 dX10_solve_104 (by decide) (fun h => ?_) (fun h => ?_)
                          · have hp := hp.1 h
                            refine gz_iconst K (v := (0 : Int32)) dX10_solve_111 (by decide) ?_
                            refine gz_sub [0, 1, 2, 3] rfl ?_
                            exact bb_112 τ85 y1 y2 y3 (0 : Int32)  hp
                          · have hp := hp.2 h
                            refine gz_iconst K (v := (1 : Int32)) dX10_solve_107 (by decide) ?_
                            refine gz_goto K 112 dX10_solve_108 (by decide) ?_
                            refine gz_sub [0, 1, 2, 3] rfl ?_
                            exact bb_112 τ85 y1 y2 y3 (1 : Int32)  hp
                  obtain ⟨n, hp⟩ := hp
                  exact ll_70 n σ y1 y2 (0 : Int32) (0 : Int32)  hp
            obtain ⟨n, hp⟩ := hp
            exact ll_61 n σ y1 y2  hp
          · have hp := hp.2 h
            refine gz_aload_n K dX10_solve_43 0 rfl ?_
            refine gz_get K (v := .ref (ad 63)) (by decide) (ce_43 _ _ _ _ _ _) rfl inz_X10 30 (by decide) zq5_61 rfl dX10_solve_44 ?_
            refine gz_iload_n K dX10_solve_47 3 rfl ?_
            refine gz_aload_n K dX10_solve_48 0 rfl ?_
            refine gz_get K (v := .ref (ad 44)) (by decide) (ce_43 _ _ _ _ _ _) rfl inz_X10 2 (by decide) zq5_33 rfl dX10_solve_49 ?_
            refine gz_iload_n K dX10_solve_52 3 rfl ?_
            obtain ⟨h, hp⟩ := hp
            refine gz_iald K (by decide) (ce_44 _ _ _ _ _ _) h dX10_solve_53 ?_
            obtain ⟨h, hp⟩ := hp
            refine gz_iast K (x := (gz_i σ 44 (y3).toNatClampNeg)) (by decide) (ce_63 ad ty) h dX10_solve_54 ?_
            refine gz_iinc K (v := (y3 + 1)) [(3, .int (y3 + 1)), (0, .ref (ad 43)), (1, .int y1), (2, .int y2)] dX10_solve_55 3 rfl (by first | rfl | decide) (by decide) rfl ?_
            refine gz_goto K 35 dX10_solve_58 (by decide) ?_
            refine gz_sub [1, 2, 3, 0] rfl ?_
            exact ih_35 (sz_i σ 63 (y3).toNatClampNeg (gz_i σ 44 (y3).toNatClampNeg)) y1 y2 (y3 + 1)  hp
      obtain ⟨n, hp⟩ := hp
      exact ll_35 n τ30 x1 r14 (1 : Int32)  hp
    · have hp := hp.2 h
      refine gz_aload_n K dX10_solve_23 1 rfl ?_
      refine gz_iconst K (v := (2 : Int32)) dX10_solve_24 (by decide) ?_
      refine gz_callV K hex (c_X10_fails K.2.2.2.2.2 K.2.2.1 hp) cf_X10_fails zq5_149 (by decide) (ce_43 _ _ _ _ _ _) rfl dX10_solve_25 rfl rfl (Nat.le_of_ble_eq_true rfl) ⟨Nat.le_of_ble_eq_true rfl, Nat.le_of_ble_eq_true rfl⟩ ⟨Nat.le_of_ble_eq_true rfl, Nat.le_of_ble_eq_true rfl⟩ (Nat.le_of_ble_eq_true rfl) (Nat.le_of_ble_eq_true rfl) (fun _ _ h => h.elim) (fun r25 τ25 hp => ?_)
      refine gz_norm (st' := [.int r25]) (cells' := 0) (slots' := 0) rfl rfl rfl ?_
      exact gz_iret K hr hp dX10_solve_28 (Nat.le_of_ble_eq_true rfl) (Nat.le_of_ble_eq_true rfl)
  · have hp := hp.2 h
    refine gz_aload_n K dX10_solve_7 0 rfl ?_
    refine gz_iconst K (v := (1 : Int32)) dX10_solve_8 (by decide) ?_
    refine gz_callV K hex (c_X10_fails K.2.2.2.2.2 K.2.2.1 hp) cf_X10_fails zq5_149 (by decide) (ce_43 _ _ _ _ _ _) rfl dX10_solve_9 rfl rfl (Nat.le_of_ble_eq_true rfl) ⟨Nat.le_of_ble_eq_true rfl, Nat.le_of_ble_eq_true rfl⟩ ⟨Nat.le_of_ble_eq_true rfl, Nat.le_of_ble_eq_true rfl⟩ (Nat.le_of_ble_eq_true rfl) (Nat.le_of_ble_eq_true rfl) (fun _ _ h => h.elim) (fun r9 τ9 hp => ?_)
    refine gz_norm (st' := [.int r9]) (cells' := 0) (slots' := 0) rfl rfl rfl ?_
    exact gz_iret K hr hp dX10_solve_12 (Nat.le_of_ble_eq_true rfl) (Nat.le_of_ble_eq_true rfl)
set_option maxRecDepth 100000 in
set_option maxHeartbeats 4000000 in
theorem c_X10_countAt {l : Launch} {D : va_G} {ad : Nat → Nat} {ty : Nat → ClassId} (hl : l.stackTraces = false) (hj : ∀ i j, i < 68 → j < 68 → ad i = ad j → i = j) {σ : Dz} {x1 : Int32} {post : Int32 → Dz → Prop} (hp : P_X10_countAt σ x1 post) : Mz l D ad ty yX10_countAt cX10_countAt 2 (some .int) r_X10_countAt nI0 σ [.ref (ad 43), .int x1] post (fun _ _ => False) := by
  refine mz_of (by decide) hl hj (Nat.le_of_ble_eq_true rfl) ?_
  intro p e s m args below meth c K hex hr
  unfold P_X10_countAt at hp
  show Gz p l e r_X10_countAt s m args below meth c D ad ty 2 0 0 (Ez below D ad ty nI0 post (fun _ _ => False) args s 0 0) σ 0 [(0, .ref (ad 43)), (1, .int x1)] []
  refine gz_aload_n K dX10_countAt_0 0 rfl ?_
  refine gz_callV K hex (c_X10_tellDepths K.2.2.2.2.2 K.2.2.1 hp) cf_X10_tellDepths zq6_66 (by decide) (ce_43 _ _ _ _ _ _) rfl dX10_countAt_1 rfl rfl (Nat.le_of_ble_eq_true rfl) ⟨Nat.le_of_ble_eq_true rfl, Nat.le_of_ble_eq_true rfl⟩ ⟨Nat.le_of_ble_eq_true rfl, Nat.le_of_ble_eq_true rfl⟩ (Nat.le_of_ble_eq_true rfl) (Nat.le_of_ble_eq_true rfl) (fun _ _ h => h.elim) (fun _ τ1 hp => ?_)
  refine gz_norm (st' := []) (cells' := 0) (slots' := 0) rfl rfl rfl ?_
  refine gz_aload_n K dX10_countAt_4 0 rfl ?_
  refine gz_iload_n K dX10_countAt_5 1 rfl ?_
  refine gz_iconst K (v := (0 : Int32)) dX10_countAt_6 (by decide) ?_
  refine gz_sipush K (v := (5039 : Int32)) dX10_countAt_7 (by decide) ?_
  refine gz_callS K hex (c_X10_in K.2.2.2.2.2 K.2.2.1 hp) cf_X10_in zq5_146 dX10_countAt_10 rfl rfl (Nat.le_of_ble_eq_true rfl) ⟨Nat.le_of_ble_eq_true rfl, Nat.le_of_ble_eq_true rfl⟩ ⟨Nat.le_of_ble_eq_true rfl, Nat.le_of_ble_eq_true rfl⟩ (Nat.le_of_ble_eq_true rfl) (Nat.le_of_ble_eq_true rfl) (fun _ _ h => h.elim) (fun r10 τ hp => ?_)
  obtain ⟨rfl, hp⟩ := hp
  refine gz_norm (st' := [.int r10, .ref (ad 43)]) (cells' := 0) (slots' := 0) rfl rfl rfl ?_
  refine gz_if_eq K 25 dX10_countAt_13 (by decide) (fun h => ?_) (fun h => ?_)
  · have hp := hp.1 h
    refine gz_iconst K (v := (0 : Int32)) dX10_countAt_25 (by decide) ?_
    refine gz_callV K hex (c_X10_done K.2.2.2.2.2 K.2.2.1 hp) cf_X10_done zq5_153 (by decide) (ce_43 _ _ _ _ _ _) rfl dX10_countAt_26 rfl rfl (Nat.le_of_ble_eq_true rfl) ⟨Nat.le_of_ble_eq_true rfl, Nat.le_of_ble_eq_true rfl⟩ ⟨Nat.le_of_ble_eq_true rfl, Nat.le_of_ble_eq_true rfl⟩ (Nat.le_of_ble_eq_true rfl) (Nat.le_of_ble_eq_true rfl) (fun _ _ h => h.elim) (fun r26 τ26 hp => ?_)
    refine gz_norm (st' := [.int r26]) (cells' := 0) (slots' := 0) rfl rfl rfl ?_
    exact gz_iret K hr hp dX10_countAt_29 (Nat.le_of_ble_eq_true rfl) (Nat.le_of_ble_eq_true rfl)
  · have hp := hp.2 h
    refine gz_aload_n K dX10_countAt_16 0 rfl ?_
    refine gz_get K (v := .ref (ad 65)) (by decide) (ce_43 _ _ _ _ _ _) rfl inz_X10 34 (by decide) zq5_65 rfl dX10_countAt_17 ?_
    refine gz_iload_n K dX10_countAt_20 1 rfl ?_
    obtain ⟨h, hp⟩ := hp
    refine gz_iald K (by decide) (ce_65 _ _ _ _ _ _) h dX10_countAt_21 ?_
    refine gz_goto K 26 dX10_countAt_22 (by decide) ?_
    refine gz_callV K hex (c_X10_done K.2.2.2.2.2 K.2.2.1 hp) cf_X10_done zq5_153 (by decide) (ce_43 _ _ _ _ _ _) rfl dX10_countAt_26 rfl rfl (Nat.le_of_ble_eq_true rfl) ⟨Nat.le_of_ble_eq_true rfl, Nat.le_of_ble_eq_true rfl⟩ ⟨Nat.le_of_ble_eq_true rfl, Nat.le_of_ble_eq_true rfl⟩ (Nat.le_of_ble_eq_true rfl) (Nat.le_of_ble_eq_true rfl) (fun _ _ h => h.elim) (fun r26 τ26 hp => ?_)
    refine gz_norm (st' := [.int r26]) (cells' := 0) (slots' := 0) rfl rfl rfl ?_
    exact gz_iret K hr hp dX10_countAt_29 (Nat.le_of_ble_eq_true rfl) (Nat.le_of_ble_eq_true rfl)
set_option maxRecDepth 100000 in
set_option maxHeartbeats 4000000 in
theorem c_X10_reachable {l : Launch} {D : va_G} {ad : Nat → Nat} {ty : Nat → ClassId} (hl : l.stackTraces = false) (hj : ∀ i j, i < 68 → j < 68 → ad i = ad j → i = j) {σ : Dz} {post : Int32 → Dz → Prop} (hp : P_X10_reachable σ post) : Mz l D ad ty yX10_reachable cX10_reachable 1 (some .int) r_X10_reachable nI0 σ [.ref (ad 43)] post (fun _ _ => False) := by
  refine mz_of (by decide) hl hj (Nat.le_of_ble_eq_true rfl) ?_
  intro p e s m args below meth c K hex hr
  unfold P_X10_reachable at hp
  show Gz p l e r_X10_reachable s m args below meth c D ad ty 1 0 0 (Ez below D ad ty nI0 post (fun _ _ => False) args s 0 0) σ 0 [(0, .ref (ad 43))] []
  refine gz_aload_n K dX10_reachable_0 0 rfl ?_
  refine gz_callV K hex (c_X10_tellDepths K.2.2.2.2.2 K.2.2.1 hp) cf_X10_tellDepths zq6_66 (by decide) (ce_43 _ _ _ _ _ _) rfl dX10_reachable_1 rfl rfl (Nat.le_of_ble_eq_true rfl) ⟨Nat.le_of_ble_eq_true rfl, Nat.le_of_ble_eq_true rfl⟩ ⟨Nat.le_of_ble_eq_true rfl, Nat.le_of_ble_eq_true rfl⟩ (Nat.le_of_ble_eq_true rfl) (Nat.le_of_ble_eq_true rfl) (fun _ _ h => h.elim) (fun _ τ1 hp => ?_)
  refine gz_norm (st' := []) (cells' := 0) (slots' := 0) rfl rfl rfl ?_
  refine gz_aload_n K dX10_reachable_4 0 rfl ?_
  refine gz_aload_n K dX10_reachable_5 0 rfl ?_
  refine gz_get K (v := .int (gz_i τ1 43 32)) (by decide) (ce_43 _ _ _ _ _ _) rfl inz_X10 32 (by decide) zq5_63 rfl dX10_reachable_6 ?_
  refine gz_callV K hex (c_X10_done K.2.2.2.2.2 K.2.2.1 hp) cf_X10_done zq5_153 (by decide) (ce_43 _ _ _ _ _ _) rfl dX10_reachable_9 rfl rfl (Nat.le_of_ble_eq_true rfl) ⟨Nat.le_of_ble_eq_true rfl, Nat.le_of_ble_eq_true rfl⟩ ⟨Nat.le_of_ble_eq_true rfl, Nat.le_of_ble_eq_true rfl⟩ (Nat.le_of_ble_eq_true rfl) (Nat.le_of_ble_eq_true rfl) (fun _ _ h => h.elim) (fun r9 τ9 hp => ?_)
  refine gz_norm (st' := [.int r9]) (cells' := 0) (slots' := 0) rfl rfl rfl ?_
  exact gz_iret K hr hp dX10_reachable_12 (Nat.le_of_ble_eq_true rfl) (Nat.le_of_ble_eq_true rfl)
set_option maxRecDepth 100000 in
set_option maxHeartbeats 4000000 in
theorem c_X10_greatestDepth {l : Launch} {D : va_G} {ad : Nat → Nat} {ty : Nat → ClassId} (hl : l.stackTraces = false) (hj : ∀ i j, i < 68 → j < 68 → ad i = ad j → i = j) {σ : Dz} {post : Int32 → Dz → Prop} (hp : P_X10_greatestDepth σ post) : Mz l D ad ty yX10_greatestDepth cX10_greatestDepth 1 (some .int) r_X10_greatestDepth nI0 σ [.ref (ad 43)] post (fun _ _ => False) := by
  refine mz_of (by decide) hl hj (Nat.le_of_ble_eq_true rfl) ?_
  intro p e s m args below meth c K hex hr
  unfold P_X10_greatestDepth at hp
  show Gz p l e r_X10_greatestDepth s m args below meth c D ad ty 1 0 0 (Ez below D ad ty nI0 post (fun _ _ => False) args s 0 0) σ 0 [(0, .ref (ad 43))] []
  refine gz_aload_n K dX10_greatestDepth_0 0 rfl ?_
  refine gz_callV K hex (c_X10_tellDepths K.2.2.2.2.2 K.2.2.1 hp) cf_X10_tellDepths zq6_66 (by decide) (ce_43 _ _ _ _ _ _) rfl dX10_greatestDepth_1 rfl rfl (Nat.le_of_ble_eq_true rfl) ⟨Nat.le_of_ble_eq_true rfl, Nat.le_of_ble_eq_true rfl⟩ ⟨Nat.le_of_ble_eq_true rfl, Nat.le_of_ble_eq_true rfl⟩ (Nat.le_of_ble_eq_true rfl) (Nat.le_of_ble_eq_true rfl) (fun _ _ h => h.elim) (fun _ τ1 hp => ?_)
  refine gz_norm (st' := []) (cells' := 0) (slots' := 0) rfl rfl rfl ?_
  refine gz_aload_n K dX10_greatestDepth_4 0 rfl ?_
  refine gz_aload_n K dX10_greatestDepth_5 0 rfl ?_
  refine gz_get K (v := .int (gz_i τ1 43 33)) (by decide) (ce_43 _ _ _ _ _ _) rfl inz_X10 33 (by decide) zq5_64 rfl dX10_greatestDepth_6 ?_
  refine gz_callV K hex (c_X10_done K.2.2.2.2.2 K.2.2.1 hp) cf_X10_done zq5_153 (by decide) (ce_43 _ _ _ _ _ _) rfl dX10_greatestDepth_9 rfl rfl (Nat.le_of_ble_eq_true rfl) ⟨Nat.le_of_ble_eq_true rfl, Nat.le_of_ble_eq_true rfl⟩ ⟨Nat.le_of_ble_eq_true rfl, Nat.le_of_ble_eq_true rfl⟩ (Nat.le_of_ble_eq_true rfl) (Nat.le_of_ble_eq_true rfl) (fun _ _ h => h.elim) (fun r9 τ9 hp => ?_)
  refine gz_norm (st' := [.int r9]) (cells' := 0) (slots' := 0) rfl rfl rfl ?_
  exact gz_iret K hr hp dX10_greatestDepth_12 (Nat.le_of_ble_eq_true rfl) (Nat.le_of_ble_eq_true rfl)
set_option maxRecDepth 100000 in
set_option maxHeartbeats 4000000 in
theorem c_X10_averageDepth {l : Launch} {D : va_G} {ad : Nat → Nat} {ty : Nat → ClassId} (hl : l.stackTraces = false) (hj : ∀ i j, i < 68 → j < 68 → ad i = ad j → i = j) {σ : Dz} {post : UInt64 → Dz → Prop} (hp : P_X10_averageDepth σ post) : Mz l D ad ty yX10_averageDepth cX10_averageDepth 3 (some .double) r_X10_averageDepth nD0 σ [.ref (ad 43)] post (fun _ _ => False) := by
  refine mz_of (by decide) hl hj (Nat.le_of_ble_eq_true rfl) ?_
  intro p e s m args below meth c K hex hr
  unfold P_X10_averageDepth at hp
  show Gz p l e r_X10_averageDepth s m args below meth c D ad ty 3 0 0 (Ez below D ad ty nD0 post (fun _ _ => False) args s 0 0) σ 0 [(0, .ref (ad 43))] []
  refine gz_aload_n K dX10_averageDepth_0 0 rfl ?_
  refine gz_callV K hex (c_X10_tellDepths K.2.2.2.2.2 K.2.2.1 hp) cf_X10_tellDepths zq6_66 (by decide) (ce_43 _ _ _ _ _ _) rfl dX10_averageDepth_1 rfl rfl (Nat.le_of_ble_eq_true rfl) ⟨Nat.le_of_ble_eq_true rfl, Nat.le_of_ble_eq_true rfl⟩ ⟨Nat.le_of_ble_eq_true rfl, Nat.le_of_ble_eq_true rfl⟩ (Nat.le_of_ble_eq_true rfl) (Nat.le_of_ble_eq_true rfl) (fun _ _ h => h.elim) (fun _ τ1 hp => ?_)
  refine gz_norm (st' := []) (cells' := 0) (slots' := 0) rfl rfl rfl ?_
  refine gz_iconst K (v := (0 : Int32)) dX10_averageDepth_4 (by decide) ?_
  refine gz_istore_n K [(1, .int (0 : Int32)), (0, .ref (ad 43))] dX10_averageDepth_5 (by decide) rfl ?_
  refine gz_iconst K (v := (0 : Int32)) dX10_averageDepth_6 (by decide) ?_
  refine gz_istore_n K [(2, .int (0 : Int32)), (1, .int (0 : Int32)), (0, .ref (ad 43))] dX10_averageDepth_7 (by decide) rfl ?_
  refine gz_sub [2, 1, 0] rfl ?_
  have ll_8 : ∀ (n_8 : Nat) (σ : Dz) (y1 : Int32) (y2 : Int32) , L_X10_averageDepth_8 post  n_8 σ y1 y2 → Gz p l e r_X10_averageDepth s m args below meth c D ad ty 3 0 0 (Ez below D ad ty nD0 post (fun _ _ => False) args s 0 0) σ 8 [(0, .ref (ad 43)), (1, .int y1), (2, .int y2)] [] := by
    intro n_8; induction n_8 with
    | zero => intro σ y1 y2 hp; exact False.elim hp
    | succ n_8 ih_8 =>
      intro σ y1 y2 hp
      have hp : B_X10_averageDepth_8 post  (L_X10_averageDepth_8 post  n_8) σ y1 y2 := hp
      unfold B_X10_averageDepth_8 at hp
      refine gz_iload_n K dX10_averageDepth_8 2 rfl ?_
      refine gz_aload_n K dX10_averageDepth_9 0 rfl ?_
      refine gz_get K (v := .int (gz_i σ 43 33)) (by decide) (ce_43 _ _ _ _ _ _) rfl inz_X10 33 (by decide) zq5_64 rfl dX10_averageDepth_10 ?_
      refine gz_icmp_gt K 33 dX10_averageDepth_13 (by decide) (fun h => ?_) (fun h => ?_)
      · have hp := hp.1 h
        refine gz_aload_n K dX10_averageDepth_33 0 rfl ?_
        refine gz_iconst K (v := (0 : Int32)) dX10_averageDepth_34 (by decide) ?_
        refine gz_put K (x := (0 : Int32)) (by decide) (ce_43 _ _ _ _ _ _) rfl inz_X10 tyX10 tyX10_ok nmX10 0 (by decide) zq5_31 rfl (tyX10_ok _ (by decide)) rfl rfl (Nat.le_of_ble_eq_true rfl) peX10_0 dX10_averageDepth_35 ?_
        refine gz_iload_n K dX10_averageDepth_38 1 rfl ?_
        refine gz_i2d K dX10_averageDepth_39 ?_
        refine gz_aload_n K dX10_averageDepth_40 0 rfl ?_
        refine gz_get K (v := .int (gz_i (sz_i σ 43 0 (0 : Int32)) 43 32)) (by decide) (ce_43 _ _ _ _ _ _) rfl inz_X10 32 (by decide) zq5_63 rfl dX10_averageDepth_41 ?_
        refine gz_i2d K dX10_averageDepth_44 ?_
        obtain ⟨h, hp⟩ := hp
        refine gz_ddiv K dX10_averageDepth_45 h ?_
        exact gz_dret K hr hp dX10_averageDepth_46 (Nat.le_of_ble_eq_true rfl) (Nat.le_of_ble_eq_true rfl)
      · have hp := hp.2 h
        refine gz_iload_n K dX10_averageDepth_16 1 rfl ?_
        refine gz_iload_n K dX10_averageDepth_17 2 rfl ?_
        refine gz_aload_n K dX10_averageDepth_18 0 rfl ?_
        refine gz_get K (v := .ref (ad 65)) (by decide) (ce_43 _ _ _ _ _ _) rfl inz_X10 34 (by decide) zq5_65 rfl dX10_averageDepth_19 ?_
        refine gz_iload_n K dX10_averageDepth_22 2 rfl ?_
        obtain ⟨h, hp⟩ := hp
        refine gz_iald K (by decide) (ce_65 _ _ _ _ _ _) h dX10_averageDepth_23 ?_
        refine gz_imul K dX10_averageDepth_24 ?_
        refine gz_iadd K dX10_averageDepth_25 ?_
        refine gz_istore_n K [(1, .int (y1 + (y2 * (gz_i σ 65 (y2).toNatClampNeg)))), (0, .ref (ad 43)), (2, .int y2)] dX10_averageDepth_26 (by decide) rfl ?_
        refine gz_iinc K (v := (y2 + 1)) [(2, .int (y2 + 1)), (1, .int (y1 + (y2 * (gz_i σ 65 (y2).toNatClampNeg)))), (0, .ref (ad 43))] dX10_averageDepth_27 2 rfl (by first | rfl | decide) (by decide) rfl ?_
        refine gz_goto K 8 dX10_averageDepth_30 (by decide) ?_
        refine gz_sub [2, 1, 0] rfl ?_
        exact ih_8 σ (y1 + (y2 * (gz_i σ 65 (y2).toNatClampNeg))) (y2 + 1)  hp
  obtain ⟨n, hp⟩ := hp
  exact ll_8 n τ1 (0 : Int32) (0 : Int32)  hp
set_option maxRecDepth 100000 in
set_option maxHeartbeats 4000000 in
theorem c_X10_orbit {l : Launch} {D : va_G} {ad : Nat → Nat} {ty : Nat → ClassId} (hl : l.stackTraces = false) (hj : ∀ i j, i < 68 → j < 68 → ad i = ad j → i = j) {σ : Dz} {x1 : Int32} {post : Int32 → Dz → Prop} (hp : P_X10_orbit σ x1 post) : Mz l D ad ty yX10_orbit cX10_orbit 6 (some .int) r_X10_orbit nI0 σ [.ref (ad 43), .int x1] post (fun _ _ => False) := by
  refine mz_of (by decide) hl hj (Nat.le_of_ble_eq_true rfl) ?_
  intro p e s m args below meth c K hex hr
  unfold P_X10_orbit at hp
  show Gz p l e r_X10_orbit s m args below meth c D ad ty 6 0 0 (Ez below D ad ty nI0 post (fun _ _ => False) args s 0 0) σ 0 [(0, .ref (ad 43)), (1, .int x1)] []
  refine gz_aload_n K dX10_orbit_0 0 rfl ?_
  refine gz_iload_n K dX10_orbit_1 1 rfl ?_
  refine gz_callV K hex (c_X10_isPosition K.2.2.2.2.2 K.2.2.1 hp) cf_X10_isPosition zq5_181 (by decide) (ce_43 _ _ _ _ _ _) rfl dX10_orbit_2 rfl rfl (Nat.le_of_ble_eq_true rfl) ⟨Nat.le_of_ble_eq_true rfl, Nat.le_of_ble_eq_true rfl⟩ ⟨Nat.le_of_ble_eq_true rfl, Nat.le_of_ble_eq_true rfl⟩ (Nat.le_of_ble_eq_true rfl) (Nat.le_of_ble_eq_true rfl) (fun _ _ h => h.elim) (fun r2 τ hp => ?_)
  obtain ⟨rfl, hp⟩ := hp
  refine gz_norm (st' := [.int r2]) (cells' := 0) (slots' := 0) rfl rfl rfl ?_
  refine gz_if_ne K 14 dX10_orbit_5 (by decide) (fun h => ?_) (fun h => ?_)
  · have hp := hp.1 h
    refine gz_iconst K (v := (1 : Int32)) dX10_orbit_14 (by decide) ?_
    refine gz_iload_n K dX10_orbit_15 1 rfl ?_
    refine gz_iconst K (v := (1 : Int32)) dX10_orbit_16 (by decide) ?_
    refine gz_isub K dX10_orbit_17 ?_
    refine gz_ishl K dX10_orbit_18 ?_
    refine gz_istore_n K [(2, .int ((1 : Int32) <<< ((x1 - (1 : Int32)) &&& 31))), (0, .ref (ad 43)), (1, .int x1)] dX10_orbit_19 (by decide) rfl ?_
    refine gz_iconst K (v := (0 : Int32)) dX10_orbit_20 (by decide) ?_
    refine gz_istore_n K [(3, .int (0 : Int32)), (2, .int ((1 : Int32) <<< ((x1 - (1 : Int32)) &&& 31))), (0, .ref (ad 43)), (1, .int x1)] dX10_orbit_21 (by decide) rfl ?_
    refine gz_sub [2, 1, 0] rfl ?_
    have ll_22 : ∀ (n_22 : Nat) (σ : Dz) (y2 : Int32) (y3 : Int32) , L_X10_orbit_22 post  n_22 σ y2 y3 → Gz p l e r_X10_orbit s m args below meth c D ad ty 6 0 0 (Ez below D ad ty nI0 post (fun _ _ => False) args s 0 0) σ 22 [(0, .ref (ad 43)), (2, .int y2), (3, .int y3)] [] := by
      intro n_22; induction n_22 with
      | zero => intro σ y2 y3 hp; exact False.elim hp
      | succ n_22 ih_22 =>
        intro σ y2 y3 hp
        have hp : B_X10_orbit_22 post  (L_X10_orbit_22 post  n_22) σ y2 y3 := hp
        unfold B_X10_orbit_22 at hp
        refine gz_iload_n K dX10_orbit_22 2 rfl ?_
        refine gz_iload_n K dX10_orbit_23 1 rfl ?_
        refine gz_icmp_eq K 111 dX10_orbit_24 (by decide) (fun h => ?_) (fun h => ?_)
        · have hp := hp.1 h
          refine gz_aload_n K dX10_orbit_111 0 rfl ?_
          refine gz_iload_n K dX10_orbit_112 1 rfl ?_
          refine gz_callV K hex (c_X10_done K.2.2.2.2.2 K.2.2.1 hp) cf_X10_done zq5_153 (by decide) (ce_43 _ _ _ _ _ _) rfl dX10_orbit_113 rfl rfl (Nat.le_of_ble_eq_true rfl) ⟨Nat.le_of_ble_eq_true rfl, Nat.le_of_ble_eq_true rfl⟩ ⟨Nat.le_of_ble_eq_true rfl, Nat.le_of_ble_eq_true rfl⟩ (Nat.le_of_ble_eq_true rfl) (Nat.le_of_ble_eq_true rfl) (fun _ _ h => h.elim) (fun r113 τ113 hp => ?_)
          refine gz_norm (st' := [.int r113]) (cells' := 0) (slots' := 0) rfl rfl rfl ?_
          exact gz_iret K hr hp dX10_orbit_116 (Nat.le_of_ble_eq_true rfl) (Nat.le_of_ble_eq_true rfl)
        · have hp := hp.2 h
          refine gz_iload_n K dX10_orbit_27 1 rfl ?_
          refine gz_istore_n K [(3, .int y2), (0, .ref (ad 43)), (2, .int y2)] dX10_orbit_28 (by decide) rfl ?_
          refine gz_iconst K (v := (0 : Int32)) dX10_orbit_29 (by decide) ?_
          refine gz_istore K [(4, .int (0 : Int32)), (3, .int y2), (0, .ref (ad 43)), (2, .int y2)] dX10_orbit_30 (by decide) rfl ?_
          refine gz_sub [2, 3, 1, 0] rfl ?_
          have ll_32 : ∀ (n_32 : Nat) (σ : Dz) (y2 : Int32) (y3 : Int32) (y4 : Int32) , L_X10_orbit_32 post (L_X10_orbit_22 post  n_22) n_32 σ y2 y3 y4 → Gz p l e r_X10_orbit s m args below meth c D ad ty 6 0 0 (Ez below D ad ty nI0 post (fun _ _ => False) args s 0 0) σ 32 [(0, .ref (ad 43)), (2, .int y2), (3, .int y3), (4, .int y4)] [] := by
            intro n_32; induction n_32 with
            | zero => intro σ y2 y3 y4 hp; exact False.elim hp
            | succ n_32 ih_32 =>
              intro σ y2 y3 y4 hp
              have hp : B_X10_orbit_32 post (L_X10_orbit_22 post  n_22) (L_X10_orbit_32 post (L_X10_orbit_22 post  n_22) n_32) σ y2 y3 y4 := hp
              unfold B_X10_orbit_32 at hp
              have bb_102 : ∀ (σ : Dz) (y2 : Int32) (y3 : Int32) (y4 : Int32) , B_X10_orbit_102 post (L_X10_orbit_22 post  n_22) (L_X10_orbit_32 post (L_X10_orbit_22 post  n_22) n_32) σ y2 y3 y4 → Gz p l e r_X10_orbit s m args below meth c D ad ty 6 0 0 (Ez below D ad ty nI0 post (fun _ _ => False) args s 0 0) σ 102 [(0, .ref (ad 43)), (2, .int y2), (3, .int y3), (4, .int y4)] [] := by
                intro σ y2 y3 y4 hp
                unfold B_X10_orbit_102 at hp
                refine gz_iinc K (v := (y4 + 1)) [(4, .int (y4 + 1)), (0, .ref (ad 43)), (2, .int y2), (3, .int y3)] dX10_orbit_102 3 rfl (by first | rfl | decide) (by decide) rfl ?_
                refine gz_goto K 32 dX10_orbit_105 (by decide) ?_
                refine gz_sub [1, 2, 3, 0] rfl ?_
                exact ih_32 σ y2 y3 (y4 + 1)  hp
              refine gz_iload K dX10_orbit_32 3 rfl ?_
              refine gz_bipush K (v := (10 : Int32)) dX10_orbit_34 (by decide) ?_
              refine gz_icmp_ge K 108 dX10_orbit_36 (by decide) (fun h => ?_) (fun h => ?_)
              · have hp := hp.1 h
                refine gz_goto K 22 dX10_orbit_108 (by decide) ?_
                refine gz_sub [0, 1, 2] rfl ?_
                exact ih_22 σ y2 y3  hp
              · have hp := hp.2 h
                refine gz_iconst K (v := (1 : Int32)) dX10_orbit_39 (by decide) ?_
                refine gz_istore K [(5, .int (1 : Int32)), (0, .ref (ad 43)), (2, .int y2), (3, .int y3), (4, .int y4)] dX10_orbit_40 (by decide) rfl ?_
                refine gz_sub [1, 2, 3, 4, 0] rfl ?_
                have ll_42 : ∀ (n_42 : Nat) (σ : Dz) (y2 : Int32) (y3 : Int32) (y4 : Int32) (y5 : Int32) , L_X10_orbit_42 post (L_X10_orbit_22 post  n_22) (L_X10_orbit_32 post (L_X10_orbit_22 post  n_22) n_32) n_42 σ y2 y3 y4 y5 → Gz p l e r_X10_orbit s m args below meth c D ad ty 6 0 0 (Ez below D ad ty nI0 post (fun _ _ => False) args s 0 0) σ 42 [(0, .ref (ad 43)), (2, .int y2), (3, .int y3), (4, .int y4), (5, .int y5)] [] := by
                  intro n_42; induction n_42 with
                  | zero => intro σ y2 y3 y4 y5 hp; exact False.elim hp
                  | succ n_42 ih_42 =>
                    intro σ y2 y3 y4 y5 hp
                    have hp : B_X10_orbit_42 post (L_X10_orbit_22 post  n_22) (L_X10_orbit_32 post (L_X10_orbit_22 post  n_22) n_32) (L_X10_orbit_42 post (L_X10_orbit_22 post  n_22) (L_X10_orbit_32 post (L_X10_orbit_22 post  n_22) n_32) n_42) σ y2 y3 y4 y5 := hp
                    unfold B_X10_orbit_42 at hp
                    have bb_94 : ∀ (σ : Dz) (y3 : Int32) (y4 : Int32) (y5 : Int32) (z0 : Int32) (z1 : Int32) , B_X10_orbit_94 post (L_X10_orbit_22 post  n_22) (L_X10_orbit_32 post (L_X10_orbit_22 post  n_22) n_32) (L_X10_orbit_42 post (L_X10_orbit_22 post  n_22) (L_X10_orbit_32 post (L_X10_orbit_22 post  n_22) n_32) n_42) σ y3 y4 y5 z0 z1 → Gz p l e r_X10_orbit s m args below meth c D ad ty 6 0 0 (Ez below D ad ty nI0 post (fun _ _ => False) args s 0 0) σ 94 [(0, .ref (ad 43)), (3, .int y3), (4, .int y4), (5, .int y5)] [.int z0, .int z1] := by
                      intro σ y3 y4 y5 z0 z1 hp
                      unfold B_X10_orbit_94 at hp
                      refine gz_ior K dX10_orbit_94 ?_
                      refine gz_istore_n K [(2, .int (z1 ||| z0)), (0, .ref (ad 43)), (3, .int y3), (4, .int y4), (5, .int y5)] dX10_orbit_95 (by decide) rfl ?_
                      refine gz_iinc K (v := (y5 + 1)) [(5, .int (y5 + 1)), (2, .int (z1 ||| z0)), (0, .ref (ad 43)), (3, .int y3), (4, .int y4)] dX10_orbit_96 4 rfl (by first | rfl | decide) (by decide) rfl ?_
                      refine gz_goto K 42 dX10_orbit_99 (by decide) ?_
                      refine gz_sub [2, 1, 3, 4, 0] rfl ?_
                      exact ih_42 σ (z1 ||| z0) y3 y4 (y5 + 1)  hp
                    refine gz_iload K dX10_orbit_42 4 rfl ?_
                    refine gz_aload_n K dX10_orbit_44 0 rfl ?_
                    refine gz_get K (v := .int (gz_i σ 43 1)) (by decide) (ce_43 _ _ _ _ _ _) rfl inz_X10 1 (by decide) zq5_32 rfl dX10_orbit_45 ?_
                    refine gz_icmp_gt K 102 dX10_orbit_48 (by decide) (fun h => ?_) (fun h => ?_)
                    · have hp := hp.1 h
                      refine gz_sub [0, 1, 2, 3] rfl ?_
                      exact bb_102 σ y2 y3 y4  hp
                    · have hp := hp.2 h
                      refine gz_aload_n K dX10_orbit_51 0 rfl ?_
                      refine gz_iload K dX10_orbit_52 3 rfl ?_
                      refine gz_callV K hex (c_X10_isLetter K.2.2.2.2.2 K.2.2.1 hp) cf_X10_isLetter zq6_82 (by decide) (ce_43 _ _ _ _ _ _) rfl dX10_orbit_54 rfl rfl (Nat.le_of_ble_eq_true rfl) ⟨Nat.le_of_ble_eq_true rfl, Nat.le_of_ble_eq_true rfl⟩ ⟨Nat.le_of_ble_eq_true rfl, Nat.le_of_ble_eq_true rfl⟩ (Nat.le_of_ble_eq_true rfl) (Nat.le_of_ble_eq_true rfl) (fun _ _ h => h.elim) (fun r54 τ hp => ?_)
                      obtain ⟨rfl, hp⟩ := hp
                      refine gz_norm (st' := [.int r54]) (cells' := 0) (slots' := 0) rfl rfl rfl ?_
                      refine gz_if_eq K 102 dX10_orbit_57 (by decide) (fun h => ?_) (fun h => ?_)
                      · have hp := hp.1 h
                        refine gz_sub [0, 1, 2, 3] rfl ?_
                        exact bb_102 σ y2 y3 y4  hp
                      · have hp := hp.2 h
                        refine gz_iload_n K dX10_orbit_60 1 rfl ?_
                        refine gz_iload_n K dX10_orbit_61 1 rfl ?_
                        refine gz_iload K dX10_orbit_62 4 rfl ?_
                        refine gz_iconst K (v := (1 : Int32)) dX10_orbit_64 (by decide) ?_
                        refine gz_isub K dX10_orbit_65 ?_
                        refine gz_ishr K dX10_orbit_66 ?_
                        refine gz_iconst K (v := (1 : Int32)) dX10_orbit_67 (by decide) ?_
                        refine gz_iand K dX10_orbit_68 ?_
                        refine gz_iconst K (v := (1 : Int32)) dX10_orbit_69 (by decide) ?_
                        refine gz_icmp_ne K 93 dX10_orbit_70 (by decide) (fun h => ?_) (fun h => ?_)
                        · have hp := hp.1 h
                          refine gz_iconst K (v := (0 : Int32)) dX10_orbit_93 (by decide) ?_
                          refine gz_sub [0, 2, 3, 4] rfl ?_
                          exact bb_94 σ y3 y4 y5 (0 : Int32) y2  hp
                        · have hp := hp.2 h
                          refine gz_iconst K (v := (1 : Int32)) dX10_orbit_73 (by decide) ?_
                          refine gz_aload_n K dX10_orbit_74 0 rfl ?_
                          refine gz_get K (v := .ref (ad 46)) (by decide) (ce_43 _ _ _ _ _ _) rfl inz_X10 4 (by decide) zq5_35 rfl dX10_orbit_75 ?_
                          refine gz_bipush K (v := (8 : Int32)) dX10_orbit_78 (by decide) ?_
                          refine gz_iload K dX10_orbit_80 3 rfl ?_
                          refine gz_imul K dX10_orbit_82 ?_
                          refine gz_iload K dX10_orbit_83 4 rfl ?_
                          refine gz_iadd K dX10_orbit_85 ?_
                          obtain ⟨h, hp⟩ := hp
                          refine gz_iald K (by decide) (ce_46 _ _ _ _ _ _) h dX10_orbit_86 ?_
                          refine gz_iconst K (v := (1 : Int32)) dX10_orbit_87 (by decide) ?_
                          refine gz_isub K dX10_orbit_88 ?_
                          refine gz_ishl K dX10_orbit_89 ?_
                          refine gz_goto K 94 dX10_orbit_90 (by decide) ?_
                          refine gz_sub [0, 2, 3, 4] rfl ?_
                          exact bb_94 σ y3 y4 y5 ((1 : Int32) <<< (((gz_i σ 46 ((((8 : Int32) * y4) + y5)).toNatClampNeg) - (1 : Int32)) &&& 31)) y2  hp
                obtain ⟨n, hp⟩ := hp
                exact ll_42 n σ y2 y3 y4 (1 : Int32)  hp
          obtain ⟨n, hp⟩ := hp
          exact ll_32 n σ y2 y2 (0 : Int32)  hp
    obtain ⟨n, hp⟩ := hp
    exact ll_22 n σ ((1 : Int32) <<< ((x1 - (1 : Int32)) &&& 31)) (0 : Int32)  hp
  · have hp := hp.2 h
    refine gz_aload_n K dX10_orbit_8 0 rfl ?_
    refine gz_iconst K (v := (1 : Int32)) dX10_orbit_9 (by decide) ?_
    refine gz_callV K hex (c_X10_fails K.2.2.2.2.2 K.2.2.1 hp) cf_X10_fails zq5_149 (by decide) (ce_43 _ _ _ _ _ _) rfl dX10_orbit_10 rfl rfl (Nat.le_of_ble_eq_true rfl) ⟨Nat.le_of_ble_eq_true rfl, Nat.le_of_ble_eq_true rfl⟩ ⟨Nat.le_of_ble_eq_true rfl, Nat.le_of_ble_eq_true rfl⟩ (Nat.le_of_ble_eq_true rfl) (Nat.le_of_ble_eq_true rfl) (fun _ _ h => h.elim) (fun r10 τ10 hp => ?_)
    refine gz_norm (st' := [.int r10]) (cells' := 0) (slots' := 0) rfl rfl rfl ?_
    exact gz_iret K hr hp dX10_orbit_13 (Nat.le_of_ble_eq_true rfl) (Nat.le_of_ble_eq_true rfl)
set_option maxRecDepth 100000 in
set_option maxHeartbeats 4000000 in
theorem c_X10_shortLed {l : Launch} {D : va_G} {ad : Nat → Nat} {ty : Nat → ClassId} (hl : l.stackTraces = false) (hj : ∀ i j, i < 68 → j < 68 → ad i = ad j → i = j) {σ : Dz} {x1 : Int32} {x2 : Int32} {x3 : Int32} {x4 : Int32} {post : Int32 → Prop} (hp : P_X10_shortLed σ x1 x2 x3 x4 post) : Mz l D ad ty yX10_shortLed cX10_shortLed 8 (some .int) r_X10_shortLed nI0 σ [.ref (ad 43), .int x1, .int x2, .int x3, .int x4] (fun r τ => σ = τ ∧ post r) (fun _ _ => False) := by
  refine mz_of (by decide) hl hj (Nat.le_of_ble_eq_true rfl) ?_
  intro p e s m args below meth c K hex hr
  unfold P_X10_shortLed at hp
  have bb_70 : ∀ (y3 : Int32) (y4 : Int32) (y5 : Int32) (y6 : Int32) (z0 : Int32) (z1 : Int32) , B_X10_shortLed_70 σ post  y3 y4 y5 y6 z0 z1 → Gz p l e r_X10_shortLed s m args below meth c D ad ty 8 0 0 (Ez below D ad ty nI0 (fun r τ => σ = τ ∧ post r) (fun _ _ => False) args s 0 0) σ 70 [(0, .ref (ad 43)), (3, .int y3), (4, .int y4), (5, .int y5), (6, .int y6)] [.int z0, .int z1, .ref (ad 46)] := by
    intro y3 y4 y5 y6 z0 z1 hp
    unfold B_X10_shortLed_70 at hp
    refine gz_imul K dX10_shortLed_70 ?_
    refine gz_iload K dX10_shortLed_71 2 rfl ?_
    refine gz_iadd K dX10_shortLed_73 ?_
    obtain ⟨h, hp⟩ := hp
    refine gz_iald K (by decide) (ce_46 _ _ _ _ _ _) h dX10_shortLed_74 ?_
    refine gz_istore K [(7, .int (gz_i σ 46 (((z1 * z0) + y4)).toNatClampNeg)), (0, .ref (ad 43)), (3, .int y3), (4, .int y4), (5, .int y5), (6, .int y6)] dX10_shortLed_75 (by decide) rfl ?_
    refine gz_aload_n K dX10_shortLed_77 1 rfl ?_
    refine gz_get K (v := .ref (ad 46)) (by decide) (ce_43 _ _ _ _ _ _) rfl inz_X10 4 (by decide) zq5_35 rfl dX10_shortLed_78 ?_
    refine gz_bipush K (v := (8 : Int32)) dX10_shortLed_81 (by decide) ?_
    refine gz_iload_n K dX10_shortLed_83 2 rfl ?_
    refine gz_if_eq K 94 dX10_shortLed_84 (by decide) (fun h => ?_) (fun h => ?_)
    · have hp := hp.1 h
      refine gz_iload K dX10_shortLed_94 5 rfl ?_
      refine gz_imul K dX10_shortLed_96 ?_
      refine gz_iload K dX10_shortLed_97 0 rfl ?_
      refine gz_iadd K dX10_shortLed_99 ?_
      obtain ⟨h, hp⟩ := hp
      refine gz_iald K (by decide) (ce_46 _ _ _ _ _ _) h dX10_shortLed_100 ?_
      exact gz_iret K hr ⟨rfl, hp⟩ dX10_shortLed_101 (Nat.le_of_ble_eq_true rfl) (Nat.le_of_ble_eq_true rfl)
    · have hp := hp.2 h
      refine gz_iload K dX10_shortLed_87 4 rfl ?_
      refine gz_iconst K (v := (1 : Int32)) dX10_shortLed_89 (by decide) ?_
      refine gz_ixor K dX10_shortLed_90 ?_
      refine gz_goto K 96 dX10_shortLed_91 (by decide) ?_
      refine gz_imul K dX10_shortLed_96 ?_
      refine gz_iload K dX10_shortLed_97 0 rfl ?_
      refine gz_iadd K dX10_shortLed_99 ?_
      obtain ⟨h, hp⟩ := hp
      refine gz_iald K (by decide) (ce_46 _ _ _ _ _ _) h dX10_shortLed_100 ?_
      exact gz_iret K hr ⟨rfl, hp⟩ dX10_shortLed_101 (Nat.le_of_ble_eq_true rfl) (Nat.le_of_ble_eq_true rfl)
  have bb_13 : ∀ (y1 : Int32) (y2 : Int32) (y3 : Int32) (y4 : Int32) (z0 : Int32) , B_X10_shortLed_13 σ post  y1 y2 y3 y4 z0 → Gz p l e r_X10_shortLed s m args below meth c D ad ty 8 0 0 (Ez below D ad ty nI0 (fun r τ => σ = τ ∧ post r) (fun _ _ => False) args s 0 0) σ 13 [(0, .ref (ad 43)), (1, .int y1), (2, .int y2), (3, .int y3), (4, .int y4)] [.int z0] := by
    intro y1 y2 y3 y4 z0 hp
    unfold B_X10_shortLed_13 at hp
    refine gz_istore K [(5, .int z0), (0, .ref (ad 43)), (1, .int y1), (2, .int y2), (3, .int y3), (4, .int y4)] dX10_shortLed_13 (by decide) rfl ?_
    refine gz_iload_n K dX10_shortLed_15 3 rfl ?_
    refine gz_bipush K (v := (10 : Int32)) dX10_shortLed_16 (by decide) ?_
    refine gz_irem K dX10_shortLed_18 (by decide) ?_
    refine gz_istore K [(6, .int (y2 - y2 / (10 : Int32) * (10 : Int32))), (5, .int z0), (0, .ref (ad 43)), (1, .int y1), (2, .int y2), (3, .int y3), (4, .int y4)] dX10_shortLed_19 (by decide) rfl ?_
    refine gz_iload_n K dX10_shortLed_21 3 rfl ?_
    refine gz_iconst K (v := (1 : Int32)) dX10_shortLed_22 (by decide) ?_
    refine gz_icmp_ne K 51 dX10_shortLed_23 (by decide) (fun h => ?_) (fun h => ?_)
    · have hp := hp.1 h
      refine gz_aload_n K dX10_shortLed_51 2 rfl ?_
      refine gz_get K (v := .ref (ad 46)) (by decide) (ce_43 _ _ _ _ _ _) rfl inz_X10 4 (by decide) zq5_35 rfl dX10_shortLed_52 ?_
      refine gz_bipush K (v := (8 : Int32)) dX10_shortLed_55 (by decide) ?_
      refine gz_iload_n K dX10_shortLed_57 5 rfl ?_
      refine gz_if_eq K 68 dX10_shortLed_58 (by decide) (fun h => ?_) (fun h => ?_)
      · have hp := hp.1 h
        refine gz_iload K dX10_shortLed_68 1 rfl ?_
        refine gz_sub [2, 5, 6, 1, 0] rfl ?_
        exact bb_70 y3 y4 z0 (y2 - y2 / (10 : Int32) * (10 : Int32)) z0 (8 : Int32)  hp
      · have hp := hp.2 h
        refine gz_iload K dX10_shortLed_61 0 rfl ?_
        refine gz_iconst K (v := (1 : Int32)) dX10_shortLed_63 (by decide) ?_
        refine gz_ixor K dX10_shortLed_64 ?_
        refine gz_goto K 70 dX10_shortLed_65 (by decide) ?_
        refine gz_sub [2, 5, 6, 1, 0] rfl ?_
        exact bb_70 y3 y4 z0 (y2 - y2 / (10 : Int32) * (10 : Int32)) ((y2 - y2 / (10 : Int32) * (10 : Int32)) ^^^ (1 : Int32)) (8 : Int32)  hp
    · have hp := hp.2 h
      refine gz_aload_n K dX10_shortLed_26 2 rfl ?_
      refine gz_get K (v := .ref (ad 46)) (by decide) (ce_43 _ _ _ _ _ _) rfl inz_X10 4 (by decide) zq5_35 rfl dX10_shortLed_27 ?_
      refine gz_bipush K (v := (8 : Int32)) dX10_shortLed_30 (by decide) ?_
      refine gz_iload_n K dX10_shortLed_32 5 rfl ?_
      refine gz_if_eq K 43 dX10_shortLed_33 (by decide) (fun h => ?_) (fun h => ?_)
      · have hp := hp.1 h
        refine gz_iload K dX10_shortLed_43 1 rfl ?_
        refine gz_imul K dX10_shortLed_45 ?_
        refine gz_iload K dX10_shortLed_46 6 rfl ?_
        refine gz_iadd K dX10_shortLed_48 ?_
        obtain ⟨h, hp⟩ := hp
        refine gz_iald K (by decide) (ce_46 _ _ _ _ _ _) h dX10_shortLed_49 ?_
        exact gz_iret K hr ⟨rfl, hp⟩ dX10_shortLed_50 (Nat.le_of_ble_eq_true rfl) (Nat.le_of_ble_eq_true rfl)
      · have hp := hp.2 h
        refine gz_iload K dX10_shortLed_36 1 rfl ?_
        refine gz_iconst K (v := (1 : Int32)) dX10_shortLed_38 (by decide) ?_
        refine gz_ixor K dX10_shortLed_39 ?_
        refine gz_goto K 45 dX10_shortLed_40 (by decide) ?_
        refine gz_imul K dX10_shortLed_45 ?_
        refine gz_iload K dX10_shortLed_46 6 rfl ?_
        refine gz_iadd K dX10_shortLed_48 ?_
        obtain ⟨h, hp⟩ := hp
        refine gz_iald K (by decide) (ce_46 _ _ _ _ _ _) h dX10_shortLed_49 ?_
        exact gz_iret K hr ⟨rfl, hp⟩ dX10_shortLed_50 (Nat.le_of_ble_eq_true rfl) (Nat.le_of_ble_eq_true rfl)
  show Gz p l e r_X10_shortLed s m args below meth c D ad ty 8 0 0 (Ez below D ad ty nI0 (fun r τ => σ = τ ∧ post r) (fun _ _ => False) args s 0 0) σ 0 [(0, .ref (ad 43)), (1, .int x1), (2, .int x2), (3, .int x3), (4, .int x4)] []
  refine gz_iload_n K dX10_shortLed_0 1 rfl ?_
  refine gz_iconst K (v := (1 : Int32)) dX10_shortLed_1 (by decide) ?_
  refine gz_icmp_ne K 9 dX10_shortLed_2 (by decide) (fun h => ?_) (fun h => ?_)
  · have hp := hp.1 h
    refine gz_iload_n K dX10_shortLed_9 2 rfl ?_
    refine gz_bipush K (v := (10 : Int32)) dX10_shortLed_10 (by decide) ?_
    refine gz_idiv K dX10_shortLed_12 (by decide) ?_
    exact bb_13 x1 x2 x3 x4 (x2 / (10 : Int32))  hp
  · have hp := hp.2 h
    refine gz_iload_n K dX10_shortLed_5 2 rfl ?_
    refine gz_goto K 13 dX10_shortLed_6 (by decide) ?_
    exact bb_13 x1 x2 x3 x4 x2  hp
set_option maxRecDepth 100000 in
set_option maxHeartbeats 4000000 in
theorem c_X10_isShort {l : Launch} {D : va_G} {ad : Nat → Nat} {ty : Nat → ClassId} (hl : l.stackTraces = false) (hj : ∀ i j, i < 68 → j < 68 → ad i = ad j → i = j) {σ : Dz} {x1 : Int32} {x2 : Int32} {post : Int32 → Prop} (hp : P_X10_isShort σ x1 x2 post) : Mz l D ad ty yX10_isShort cX10_isShort 3 (some .boolean) r_X10_isShort nI0 σ [.ref (ad 43), .int x1, .int x2] (fun r τ => σ = τ ∧ post r) (fun _ _ => False) := by
  refine mz_of (by decide) hl hj (Nat.le_of_ble_eq_true rfl) ?_
  intro p e s m args below meth c K hex hr
  unfold P_X10_isShort at hp
  show Gz p l e r_X10_isShort s m args below meth c D ad ty 3 0 0 (Ez below D ad ty nI0 (fun r τ => σ = τ ∧ post r) (fun _ _ => False) args s 0 0) σ 0 [(0, .ref (ad 43)), (1, .int x1), (2, .int x2)] []
  refine gz_aload_n K dX10_isShort_0 0 rfl ?_
  refine gz_iload_n K dX10_isShort_1 2 rfl ?_
  refine gz_bipush K (v := (10 : Int32)) dX10_isShort_2 (by decide) ?_
  refine gz_irem K dX10_isShort_4 (by decide) ?_
  refine gz_callV K hex (c_X10_isLetter K.2.2.2.2.2 K.2.2.1 hp) cf_X10_isLetter zq6_82 (by decide) (ce_43 _ _ _ _ _ _) rfl dX10_isShort_5 rfl rfl (Nat.le_of_ble_eq_true rfl) ⟨Nat.le_of_ble_eq_true rfl, Nat.le_of_ble_eq_true rfl⟩ ⟨Nat.le_of_ble_eq_true rfl, Nat.le_of_ble_eq_true rfl⟩ (Nat.le_of_ble_eq_true rfl) (Nat.le_of_ble_eq_true rfl) (fun _ _ h => h.elim) (fun r5 τ hp => ?_)
  obtain ⟨rfl, hp⟩ := hp
  refine gz_norm (st' := [.int r5]) (cells' := 0) (slots' := 0) rfl rfl rfl ?_
  refine gz_if_eq K 31 dX10_isShort_8 (by decide) (fun h => ?_) (fun h => ?_)
  · have hp := hp.1 h
    refine gz_iconst K (v := (0 : Int32)) dX10_isShort_31 (by decide) ?_
    exact gz_zret K hr (by decide) ⟨rfl, hp⟩ dX10_isShort_32 (Nat.le_of_ble_eq_true rfl) (Nat.le_of_ble_eq_true rfl)
  · have hp := hp.2 h
    refine gz_iload_n K dX10_isShort_11 1 rfl ?_
    refine gz_iconst K (v := (1 : Int32)) dX10_isShort_12 (by decide) ?_
    refine gz_icmp_eq K 27 dX10_isShort_13 (by decide) (fun h => ?_) (fun h => ?_)
    · have hp := hp.1 h
      refine gz_iconst K (v := (1 : Int32)) dX10_isShort_27 (by decide) ?_
      refine gz_goto K 32 dX10_isShort_28 (by decide) ?_
      exact gz_zret K hr (by decide) ⟨rfl, hp⟩ dX10_isShort_32 (Nat.le_of_ble_eq_true rfl) (Nat.le_of_ble_eq_true rfl)
    · have hp := hp.2 h
      refine gz_aload_n K dX10_isShort_16 0 rfl ?_
      refine gz_iload_n K dX10_isShort_17 2 rfl ?_
      refine gz_bipush K (v := (10 : Int32)) dX10_isShort_18 (by decide) ?_
      refine gz_idiv K dX10_isShort_20 (by decide) ?_
      refine gz_callV K hex (c_X10_isLetter K.2.2.2.2.2 K.2.2.1 hp) cf_X10_isLetter zq6_82 (by decide) (ce_43 _ _ _ _ _ _) rfl dX10_isShort_21 rfl rfl (Nat.le_of_ble_eq_true rfl) ⟨Nat.le_of_ble_eq_true rfl, Nat.le_of_ble_eq_true rfl⟩ ⟨Nat.le_of_ble_eq_true rfl, Nat.le_of_ble_eq_true rfl⟩ (Nat.le_of_ble_eq_true rfl) (Nat.le_of_ble_eq_true rfl) (fun _ _ h => h.elim) (fun r21 τ hp => ?_)
      obtain ⟨rfl, hp⟩ := hp
      refine gz_norm (st' := [.int r21]) (cells' := 0) (slots' := 0) rfl rfl rfl ?_
      refine gz_if_eq K 31 dX10_isShort_24 (by decide) (fun h => ?_) (fun h => ?_)
      · have hp := hp.1 h
        refine gz_iconst K (v := (0 : Int32)) dX10_isShort_31 (by decide) ?_
        exact gz_zret K hr (by decide) ⟨rfl, hp⟩ dX10_isShort_32 (Nat.le_of_ble_eq_true rfl) (Nat.le_of_ble_eq_true rfl)
      · have hp := hp.2 h
        refine gz_iconst K (v := (1 : Int32)) dX10_isShort_27 (by decide) ?_
        refine gz_goto K 32 dX10_isShort_28 (by decide) ?_
        exact gz_zret K hr (by decide) ⟨rfl, hp⟩ dX10_isShort_32 (Nat.le_of_ble_eq_true rfl) (Nat.le_of_ble_eq_true rfl)
set_option maxRecDepth 100000 in
set_option maxHeartbeats 4000000 in
theorem c_X10_movedBy {l : Launch} {D : va_G} {ad : Nat → Nat} {ty : Nat → ClassId} (hl : l.stackTraces = false) (hj : ∀ i j, i < 68 → j < 68 → ad i = ad j → i = j) {σ : Dz} {x1 : Int32} {x2 : Int32} {x3 : Int32} {x4 : Int32} {post : Int32 → Prop} (hp : P_X10_movedBy σ x1 x2 x3 x4 post) : Mz l D ad ty yX10_movedBy cX10_movedBy 8 (some .int) r_X10_movedBy nI0 σ [.ref (ad 43), .int x1, .int x2, .int x3, .int x4] (fun r τ => σ = τ ∧ post r) (fun _ _ => False) := by
  refine mz_of (by decide) hl hj (Nat.le_of_ble_eq_true rfl) ?_
  intro p e s m args below meth c K hex hr
  unfold P_X10_movedBy at hp
  show Gz p l e r_X10_movedBy s m args below meth c D ad ty 8 0 0 (Ez below D ad ty nI0 (fun r τ => σ = τ ∧ post r) (fun _ _ => False) args s 0 0) σ 0 [(0, .ref (ad 43)), (1, .int x1), (2, .int x2), (3, .int x3), (4, .int x4)] []
  refine gz_iconst K (v := (0 : Int32)) dX10_movedBy_0 (by decide) ?_
  refine gz_istore K [(5, .int (0 : Int32)), (0, .ref (ad 43)), (1, .int x1), (2, .int x2), (3, .int x3), (4, .int x4)] dX10_movedBy_1 (by decide) rfl ?_
  refine gz_iconst K (v := (1 : Int32)) dX10_movedBy_3 (by decide) ?_
  refine gz_istore K [(6, .int (1 : Int32)), (5, .int (0 : Int32)), (0, .ref (ad 43)), (1, .int x1), (2, .int x2), (3, .int x3), (4, .int x4)] dX10_movedBy_4 (by decide) rfl ?_
  refine gz_sub [2, 3, 4, 5, 6, 1, 0] rfl ?_
  have ll_6 : ∀ (n_6 : Nat) (y1 : Int32) (y2 : Int32) (y3 : Int32) (y4 : Int32) (y5 : Int32) (y6 : Int32) , L_X10_movedBy_6 σ post  n_6 y1 y2 y3 y4 y5 y6 → Gz p l e r_X10_movedBy s m args below meth c D ad ty 8 0 0 (Ez below D ad ty nI0 (fun r τ => σ = τ ∧ post r) (fun _ _ => False) args s 0 0) σ 6 [(0, .ref (ad 43)), (1, .int y1), (2, .int y2), (3, .int y3), (4, .int y4), (5, .int y5), (6, .int y6)] [] := by
    intro n_6; induction n_6 with
    | zero => intro y1 y2 y3 y4 y5 y6 hp; exact False.elim hp
    | succ n_6 ih_6 =>
      intro y1 y2 y3 y4 y5 y6 hp
      have hp : B_X10_movedBy_6 σ post  (L_X10_movedBy_6 σ post  n_6) y1 y2 y3 y4 y5 y6 := hp
      unfold B_X10_movedBy_6 at hp
      have bb_67 : ∀ (y1 : Int32) (y2 : Int32) (y3 : Int32) (y4 : Int32) (y6 : Int32) (z0 : Int32) (z1 : Int32) , B_X10_movedBy_67 σ post (L_X10_movedBy_6 σ post  n_6) y1 y2 y3 y4 y6 z0 z1 → Gz p l e r_X10_movedBy s m args below meth c D ad ty 8 0 0 (Ez below D ad ty nI0 (fun r τ => σ = τ ∧ post r) (fun _ _ => False) args s 0 0) σ 67 [(0, .ref (ad 43)), (1, .int y1), (2, .int y2), (3, .int y3), (4, .int y4), (6, .int y6)] [.int z0, .int z1] := by
        intro y1 y2 y3 y4 y6 z0 z1 hp
        unfold B_X10_movedBy_67 at hp
        refine gz_iadd K dX10_movedBy_67 ?_
        refine gz_istore K [(5, .int (z1 + z0)), (0, .ref (ad 43)), (1, .int y1), (2, .int y2), (3, .int y3), (4, .int y4), (6, .int y6)] dX10_movedBy_68 (by decide) rfl ?_
        refine gz_iinc K (v := (y6 + 1)) [(6, .int (y6 + 1)), (5, .int (z1 + z0)), (0, .ref (ad 43)), (1, .int y1), (2, .int y2), (3, .int y3), (4, .int y4)] dX10_movedBy_70 6 rfl (by first | rfl | decide) (by decide) rfl ?_
        refine gz_goto K 6 dX10_movedBy_73 (by decide) ?_
        refine gz_sub [2, 3, 4, 5, 6, 1, 0] rfl ?_
        exact ih_6 y1 y2 y3 y4 (z1 + z0) (y6 + 1)  hp
      refine gz_iload K dX10_movedBy_6 6 rfl ?_
      refine gz_aload_n K dX10_movedBy_8 0 rfl ?_
      refine gz_get K (v := .int (gz_i σ 43 1)) (by decide) (ce_43 _ _ _ _ _ _) rfl inz_X10 1 (by decide) zq5_32 rfl dX10_movedBy_9 ?_
      refine gz_icmp_gt K 76 dX10_movedBy_12 (by decide) (fun h => ?_) (fun h => ?_)
      · have hp := hp.1 h
        refine gz_iload K dX10_movedBy_76 5 rfl ?_
        exact gz_iret K hr ⟨rfl, hp⟩ dX10_movedBy_78 (Nat.le_of_ble_eq_true rfl) (Nat.le_of_ble_eq_true rfl)
      · have hp := hp.2 h
        refine gz_aload_n K dX10_movedBy_15 0 rfl ?_
        refine gz_iload_n K dX10_movedBy_16 3 rfl ?_
        refine gz_iload K dX10_movedBy_17 4 rfl ?_
        refine gz_iconst K (v := (0 : Int32)) dX10_movedBy_19 (by decide) ?_
        refine gz_aload_n K dX10_movedBy_20 0 rfl ?_
        refine gz_iload_n K dX10_movedBy_21 1 rfl ?_
        refine gz_iload_n K dX10_movedBy_22 2 rfl ?_
        refine gz_iconst K (v := (0 : Int32)) dX10_movedBy_23 (by decide) ?_
        refine gz_iload K dX10_movedBy_24 6 rfl ?_
        refine gz_callV K hex (c_X10_shortLed K.2.2.2.2.2 K.2.2.1 hp) cf_X10_shortLed zq6_130 (by decide) (ce_43 _ _ _ _ _ _) rfl dX10_movedBy_26 rfl rfl (Nat.le_of_ble_eq_true rfl) ⟨Nat.le_of_ble_eq_true rfl, Nat.le_of_ble_eq_true rfl⟩ ⟨Nat.le_of_ble_eq_true rfl, Nat.le_of_ble_eq_true rfl⟩ (Nat.le_of_ble_eq_true rfl) (Nat.le_of_ble_eq_true rfl) (fun _ _ h => h.elim) (fun r26 τ hp => ?_)
        obtain ⟨rfl, hp⟩ := hp
        refine gz_norm (st' := [.int r26, .int (0 : Int32), .int y4, .int y3, .ref (ad 43)]) (cells' := 0) (slots' := 0) rfl rfl rfl ?_
        refine gz_callV K hex (c_X10_shortLed K.2.2.2.2.2 K.2.2.1 hp) cf_X10_shortLed zq6_130 (by decide) (ce_43 _ _ _ _ _ _) rfl dX10_movedBy_29 rfl rfl (Nat.le_of_ble_eq_true rfl) ⟨Nat.le_of_ble_eq_true rfl, Nat.le_of_ble_eq_true rfl⟩ ⟨Nat.le_of_ble_eq_true rfl, Nat.le_of_ble_eq_true rfl⟩ (Nat.le_of_ble_eq_true rfl) (Nat.le_of_ble_eq_true rfl) (fun _ _ h => h.elim) (fun r29 τ hp => ?_)
        obtain ⟨rfl, hp⟩ := hp
        refine gz_norm (st' := [.int r29]) (cells' := 0) (slots' := 0) rfl rfl rfl ?_
        refine gz_istore K [(7, .int r29), (0, .ref (ad 43)), (1, .int y1), (2, .int y2), (3, .int y3), (4, .int y4), (5, .int y5), (6, .int y6)] dX10_movedBy_32 (by decide) rfl ?_
        refine gz_aload_n K dX10_movedBy_34 1 rfl ?_
        refine gz_iload_n K dX10_movedBy_35 4 rfl ?_
        refine gz_iload K dX10_movedBy_36 5 rfl ?_
        refine gz_iconst K (v := (1 : Int32)) dX10_movedBy_38 (by decide) ?_
        refine gz_aload_n K dX10_movedBy_39 1 rfl ?_
        refine gz_iload_n K dX10_movedBy_40 2 rfl ?_
        refine gz_iload_n K dX10_movedBy_41 3 rfl ?_
        refine gz_iconst K (v := (1 : Int32)) dX10_movedBy_42 (by decide) ?_
        refine gz_iload K dX10_movedBy_43 0 rfl ?_
        refine gz_callV K hex (c_X10_shortLed K.2.2.2.2.2 K.2.2.1 hp) cf_X10_shortLed zq6_130 (by decide) (ce_43 _ _ _ _ _ _) rfl dX10_movedBy_45 rfl rfl (Nat.le_of_ble_eq_true rfl) ⟨Nat.le_of_ble_eq_true rfl, Nat.le_of_ble_eq_true rfl⟩ ⟨Nat.le_of_ble_eq_true rfl, Nat.le_of_ble_eq_true rfl⟩ (Nat.le_of_ble_eq_true rfl) (Nat.le_of_ble_eq_true rfl) (fun _ _ h => h.elim) (fun r45 τ hp => ?_)
        obtain ⟨rfl, hp⟩ := hp
        refine gz_norm (st' := [.int r45, .int (1 : Int32), .int y4, .int y3, .ref (ad 43)]) (cells' := 0) (slots' := 0) rfl rfl rfl ?_
        refine gz_callV K hex (c_X10_shortLed K.2.2.2.2.2 K.2.2.1 hp) cf_X10_shortLed zq6_130 (by decide) (ce_43 _ _ _ _ _ _) rfl dX10_movedBy_48 rfl rfl (Nat.le_of_ble_eq_true rfl) ⟨Nat.le_of_ble_eq_true rfl, Nat.le_of_ble_eq_true rfl⟩ ⟨Nat.le_of_ble_eq_true rfl, Nat.le_of_ble_eq_true rfl⟩ (Nat.le_of_ble_eq_true rfl) (Nat.le_of_ble_eq_true rfl) (fun _ _ h => h.elim) (fun r48 τ hp => ?_)
        obtain ⟨rfl, hp⟩ := hp
        refine gz_norm (st' := [.int r48]) (cells' := 0) (slots' := 0) rfl rfl rfl ?_
        refine gz_istore K [(7, .int r48), (0, .ref (ad 43)), (1, .int y1), (2, .int y2), (3, .int y3), (4, .int y4), (5, .int y5), (6, .int y6)] dX10_movedBy_51 (by decide) rfl ?_
        refine gz_iload K dX10_movedBy_53 6 rfl ?_
        refine gz_iload K dX10_movedBy_55 0 rfl ?_
        refine gz_iload K dX10_movedBy_57 7 rfl ?_
        refine gz_icmp_eq K 66 dX10_movedBy_59 (by decide) (fun h => ?_) (fun h => ?_)
        · have hp := hp.1 h
          refine gz_iconst K (v := (0 : Int32)) dX10_movedBy_66 (by decide) ?_
          refine gz_sub [1, 2, 3, 4, 5, 7] rfl ?_
          exact bb_67 y1 y2 y3 y4 y6 (0 : Int32) y5  hp
        · have hp := hp.2 h
          refine gz_iconst K (v := (1 : Int32)) dX10_movedBy_62 (by decide) ?_
          refine gz_goto K 67 dX10_movedBy_63 (by decide) ?_
          refine gz_sub [1, 2, 3, 4, 5, 7] rfl ?_
          exact bb_67 y1 y2 y3 y4 y6 (1 : Int32) y5  hp
  obtain ⟨n, hp⟩ := hp
  exact ll_6 n x1 x2 x3 x4 (0 : Int32) (1 : Int32)  hp
set_option maxRecDepth 100000 in
set_option maxHeartbeats 4000000 in
theorem c_X10_comesShort {l : Launch} {D : va_G} {ad : Nat → Nat} {ty : Nat → ClassId} (hl : l.stackTraces = false) (hj : ∀ i j, i < 68 → j < 68 → ad i = ad j → i = j) {σ : Dz} {x1 : Int32} {x2 : Int32} {x3 : Int32} {post : Dz → Prop} (hp : P_X10_comesShort σ x1 x2 x3 post) : Mz l D ad ty yX10_comesShort cX10_comesShort 4 none r_X10_comesShort nV0 σ [.ref (ad 43), .int x1, .int x2, .int x3] (fun _ τ => post τ) (fun _ _ => False) := by
  refine mz_of (by decide) hl hj (Nat.le_of_ble_eq_true rfl) ?_
  intro p e s m args below meth c K hex hr
  unfold P_X10_comesShort at hp
  have bb_41 : ∀ (σ : Dz) (y2 : Int32) (y3 : Int32) (z0 : Int32) , B_X10_comesShort_41 post  σ y2 y3 z0 → Gz p l e r_X10_comesShort s m args below meth c D ad ty 4 0 0 (Ez below D ad ty nV0 (fun _ τ => post τ) (fun _ _ => False) args s 0 0) σ 41 [(0, .ref (ad 43)), (2, .int y2), (3, .int y3)] [.int z0, .ref (ad 43)] := by
    intro σ y2 y3 z0 hp
    unfold B_X10_comesShort_41 at hp
    refine gz_callV K hex (c_X10_comes K.2.2.2.2.2 K.2.2.1 hp) cf_X10_comes zq5_202 (by decide) (ce_43 _ _ _ _ _ _) rfl dX10_comesShort_41 rfl rfl (Nat.le_of_ble_eq_true rfl) ⟨Nat.le_of_ble_eq_true rfl, Nat.le_of_ble_eq_true rfl⟩ ⟨Nat.le_of_ble_eq_true rfl, Nat.le_of_ble_eq_true rfl⟩ (Nat.le_of_ble_eq_true rfl) (Nat.le_of_ble_eq_true rfl) (fun _ _ h => h.elim) (fun _ τ41 hp => ?_)
    refine gz_norm (st' := []) (cells' := 0) (slots' := 0) rfl rfl rfl ?_
    refine gz_aload_n K dX10_comesShort_44 0 rfl ?_
    refine gz_iload_n K dX10_comesShort_45 2 rfl ?_
    refine gz_if_eq K 58 dX10_comesShort_46 (by decide) (fun h => ?_) (fun h => ?_)
    · have hp := hp.1 h
      refine gz_iload_n K dX10_comesShort_58 1 rfl ?_
      refine gz_bipush K (v := (10 : Int32)) dX10_comesShort_59 (by decide) ?_
      refine gz_irem K dX10_comesShort_61 (by decide) ?_
      refine gz_callV K hex (c_X10_comes K.2.2.2.2.2 K.2.2.1 hp) cf_X10_comes zq5_202 (by decide) (ce_43 _ _ _ _ _ _) rfl dX10_comesShort_62 rfl rfl (Nat.le_of_ble_eq_true rfl) ⟨Nat.le_of_ble_eq_true rfl, Nat.le_of_ble_eq_true rfl⟩ ⟨Nat.le_of_ble_eq_true rfl, Nat.le_of_ble_eq_true rfl⟩ (Nat.le_of_ble_eq_true rfl) (Nat.le_of_ble_eq_true rfl) (fun _ _ h => h.elim) (fun _ τ62 hp => ?_)
      refine gz_norm (st' := []) (cells' := 0) (slots' := 0) rfl rfl rfl ?_
      exact gz_vret K hr hp dX10_comesShort_65 (Nat.le_of_ble_eq_true rfl) (Nat.le_of_ble_eq_true rfl)
    · have hp := hp.2 h
      refine gz_iload_n K dX10_comesShort_49 1 rfl ?_
      refine gz_bipush K (v := (10 : Int32)) dX10_comesShort_50 (by decide) ?_
      refine gz_idiv K dX10_comesShort_52 (by decide) ?_
      refine gz_iconst K (v := (1 : Int32)) dX10_comesShort_53 (by decide) ?_
      refine gz_ixor K dX10_comesShort_54 ?_
      refine gz_goto K 62 dX10_comesShort_55 (by decide) ?_
      refine gz_callV K hex (c_X10_comes K.2.2.2.2.2 K.2.2.1 hp) cf_X10_comes zq5_202 (by decide) (ce_43 _ _ _ _ _ _) rfl dX10_comesShort_62 rfl rfl (Nat.le_of_ble_eq_true rfl) ⟨Nat.le_of_ble_eq_true rfl, Nat.le_of_ble_eq_true rfl⟩ ⟨Nat.le_of_ble_eq_true rfl, Nat.le_of_ble_eq_true rfl⟩ (Nat.le_of_ble_eq_true rfl) (Nat.le_of_ble_eq_true rfl) (fun _ _ h => h.elim) (fun _ τ62 hp => ?_)
      refine gz_norm (st' := []) (cells' := 0) (slots' := 0) rfl rfl rfl ?_
      exact gz_vret K hr hp dX10_comesShort_65 (Nat.le_of_ble_eq_true rfl) (Nat.le_of_ble_eq_true rfl)
  show Gz p l e r_X10_comesShort s m args below meth c D ad ty 4 0 0 (Ez below D ad ty nV0 (fun _ τ => post τ) (fun _ _ => False) args s 0 0) σ 0 [(0, .ref (ad 43)), (1, .int x1), (2, .int x2), (3, .int x3)] []
  refine gz_iload_n K dX10_comesShort_0 1 rfl ?_
  refine gz_iconst K (v := (1 : Int32)) dX10_comesShort_1 (by decide) ?_
  refine gz_icmp_ne K 23 dX10_comesShort_2 (by decide) (fun h => ?_) (fun h => ?_)
  · have hp := hp.1 h
    refine gz_aload_n K dX10_comesShort_23 0 rfl ?_
    refine gz_iload_n K dX10_comesShort_24 3 rfl ?_
    refine gz_if_eq K 37 dX10_comesShort_25 (by decide) (fun h => ?_) (fun h => ?_)
    · have hp := hp.1 h
      refine gz_iload_n K dX10_comesShort_37 2 rfl ?_
      refine gz_bipush K (v := (10 : Int32)) dX10_comesShort_38 (by decide) ?_
      refine gz_idiv K dX10_comesShort_40 (by decide) ?_
      refine gz_sub [0, 2, 3] rfl ?_
      exact bb_41 σ x2 x3 (x2 / (10 : Int32))  hp
    · have hp := hp.2 h
      refine gz_iload_n K dX10_comesShort_28 2 rfl ?_
      refine gz_bipush K (v := (10 : Int32)) dX10_comesShort_29 (by decide) ?_
      refine gz_irem K dX10_comesShort_31 (by decide) ?_
      refine gz_iconst K (v := (1 : Int32)) dX10_comesShort_32 (by decide) ?_
      refine gz_ixor K dX10_comesShort_33 ?_
      refine gz_goto K 41 dX10_comesShort_34 (by decide) ?_
      refine gz_sub [0, 2, 3] rfl ?_
      exact bb_41 σ x2 x3 ((x2 - x2 / (10 : Int32) * (10 : Int32)) ^^^ (1 : Int32))  hp
  · have hp := hp.2 h
    refine gz_aload_n K dX10_comesShort_5 0 rfl ?_
    refine gz_iload_n K dX10_comesShort_6 3 rfl ?_
    refine gz_if_eq K 16 dX10_comesShort_7 (by decide) (fun h => ?_) (fun h => ?_)
    · have hp := hp.1 h
      refine gz_iload_n K dX10_comesShort_16 2 rfl ?_
      refine gz_callV K hex (c_X10_comes K.2.2.2.2.2 K.2.2.1 hp) cf_X10_comes zq5_202 (by decide) (ce_43 _ _ _ _ _ _) rfl dX10_comesShort_17 rfl rfl (Nat.le_of_ble_eq_true rfl) ⟨Nat.le_of_ble_eq_true rfl, Nat.le_of_ble_eq_true rfl⟩ ⟨Nat.le_of_ble_eq_true rfl, Nat.le_of_ble_eq_true rfl⟩ (Nat.le_of_ble_eq_true rfl) (Nat.le_of_ble_eq_true rfl) (fun _ _ h => h.elim) (fun _ τ17 hp => ?_)
      refine gz_norm (st' := []) (cells' := 0) (slots' := 0) rfl rfl rfl ?_
      refine gz_goto K 65 dX10_comesShort_20 (by decide) ?_
      exact gz_vret K hr hp dX10_comesShort_65 (Nat.le_of_ble_eq_true rfl) (Nat.le_of_ble_eq_true rfl)
    · have hp := hp.2 h
      refine gz_iload_n K dX10_comesShort_10 2 rfl ?_
      refine gz_iconst K (v := (1 : Int32)) dX10_comesShort_11 (by decide) ?_
      refine gz_ixor K dX10_comesShort_12 ?_
      refine gz_goto K 17 dX10_comesShort_13 (by decide) ?_
      refine gz_callV K hex (c_X10_comes K.2.2.2.2.2 K.2.2.1 hp) cf_X10_comes zq5_202 (by decide) (ce_43 _ _ _ _ _ _) rfl dX10_comesShort_17 rfl rfl (Nat.le_of_ble_eq_true rfl) ⟨Nat.le_of_ble_eq_true rfl, Nat.le_of_ble_eq_true rfl⟩ ⟨Nat.le_of_ble_eq_true rfl, Nat.le_of_ble_eq_true rfl⟩ (Nat.le_of_ble_eq_true rfl) (Nat.le_of_ble_eq_true rfl) (fun _ _ h => h.elim) (fun _ τ17 hp => ?_)
      refine gz_norm (st' := []) (cells' := 0) (slots' := 0) rfl rfl rfl ?_
      refine gz_goto K 65 dX10_comesShort_20 (by decide) ?_
      exact gz_vret K hr hp dX10_comesShort_65 (Nat.le_of_ble_eq_true rfl) (Nat.le_of_ble_eq_true rfl)
set_option maxRecDepth 100000 in
set_option maxHeartbeats 4000000 in
theorem c_X10_finds {l : Launch} {D : va_G} {ad : Nat → Nat} {ty : Nat → ClassId} (hl : l.stackTraces = false) (hj : ∀ i j, i < 68 → j < 68 → ad i = ad j → i = j) {σ : Dz} {x1 : Int32} {x2 : Int32} {x3 : Int32} {x4 : Int32} {post : Int32 → Dz → Prop} (hp : P_X10_finds σ x1 x2 x3 x4 post) : Mz l D ad ty yX10_finds cX10_finds 9 (some .boolean) r_X10_finds nI0 σ [.ref (ad 43), .int x1, .int x2, .int x3, .int x4] post (fun _ _ => False) := by
  refine mz_of (by decide) hl hj (Nat.le_of_ble_eq_true rfl) ?_
  intro p e s m args below meth c K hex hr
  unfold P_X10_finds at hp
  have bb_27 : ∀ (σ : Dz) (y2 : Int32) (y3 : Int32) (y4 : Int32) (y5 : Int32) (z0 : Int32) , B_X10_finds_27 post  σ y2 y3 y4 y5 z0 → Gz p l e r_X10_finds s m args below meth c D ad ty 9 0 0 (Ez below D ad ty nI0 post (fun _ _ => False) args s 0 0) σ 27 [(0, .ref (ad 43)), (2, .int y2), (3, .int y3), (4, .int y4), (5, .int y5)] [.int z0] := by
    intro σ y2 y3 y4 y5 z0 hp
    unfold B_X10_finds_27 at hp
    refine gz_istore K [(6, .int z0), (0, .ref (ad 43)), (2, .int y2), (3, .int y3), (4, .int y4), (5, .int y5)] dX10_finds_27 (by decide) rfl ?_
    refine gz_iconst K (v := (0 : Int32)) dX10_finds_29 (by decide) ?_
    refine gz_istore K [(7, .int (0 : Int32)), (6, .int z0), (0, .ref (ad 43)), (2, .int y2), (3, .int y3), (4, .int y4), (5, .int y5)] dX10_finds_30 (by decide) rfl ?_
    refine gz_sub [2, 3, 4, 5, 6, 1, 0] rfl ?_
    have ll_32 : ∀ (n_32 : Nat) (σ : Dz) (y2 : Int32) (y3 : Int32) (y4 : Int32) (y5 : Int32) (y6 : Int32) (y7 : Int32) , L_X10_finds_32 post  n_32 σ y2 y3 y4 y5 y6 y7 → Gz p l e r_X10_finds s m args below meth c D ad ty 9 0 0 (Ez below D ad ty nI0 post (fun _ _ => False) args s 0 0) σ 32 [(0, .ref (ad 43)), (2, .int y2), (3, .int y3), (4, .int y4), (5, .int y5), (6, .int y6), (7, .int y7)] [] := by
      intro n_32; induction n_32 with
      | zero => intro σ y2 y3 y4 y5 y6 y7 hp; exact False.elim hp
      | succ n_32 ih_32 =>
        intro σ y2 y3 y4 y5 y6 y7 hp
        have hp : B_X10_finds_32 post  (L_X10_finds_32 post  n_32) σ y2 y3 y4 y5 y6 y7 := hp
        unfold B_X10_finds_32 at hp
        have bb_131 : ∀ (σ : Dz) (y2 : Int32) (y3 : Int32) (y4 : Int32) (y5 : Int32) (y6 : Int32) (y7 : Int32) , B_X10_finds_131 post (L_X10_finds_32 post  n_32) σ y2 y3 y4 y5 y6 y7 → Gz p l e r_X10_finds s m args below meth c D ad ty 9 0 0 (Ez below D ad ty nI0 post (fun _ _ => False) args s 0 0) σ 131 [(0, .ref (ad 43)), (2, .int y2), (3, .int y3), (4, .int y4), (5, .int y5), (6, .int y6), (7, .int y7)] [] := by
          intro σ y2 y3 y4 y5 y6 y7 hp
          unfold B_X10_finds_131 at hp
          refine gz_iinc K (v := (y7 + 1)) [(7, .int (y7 + 1)), (0, .ref (ad 43)), (2, .int y2), (3, .int y3), (4, .int y4), (5, .int y5), (6, .int y6)] dX10_finds_131 6 rfl (by first | rfl | decide) (by decide) rfl ?_
          refine gz_goto K 32 dX10_finds_134 (by decide) ?_
          refine gz_sub [1, 2, 3, 4, 5, 6, 0] rfl ?_
          exact ih_32 σ y2 y3 y4 y5 y6 (y7 + 1)  hp
        refine gz_iload K dX10_finds_32 6 rfl ?_
        refine gz_iload K dX10_finds_34 4 rfl ?_
        refine gz_icmp_ge K 137 dX10_finds_36 (by decide) (fun h => ?_) (fun h => ?_)
        · have hp := hp.1 h
          refine gz_iconst K (v := (0 : Int32)) dX10_finds_137 (by decide) ?_
          exact gz_zret K hr (by decide) hp dX10_finds_138 (Nat.le_of_ble_eq_true rfl) (Nat.le_of_ble_eq_true rfl)
        · have hp := hp.2 h
          refine gz_iconst K (v := (0 : Int32)) dX10_finds_39 (by decide) ?_
          refine gz_istore K [(8, .int (0 : Int32)), (0, .ref (ad 43)), (2, .int y2), (3, .int y3), (4, .int y4), (5, .int y5), (6, .int y6), (7, .int y7)] dX10_finds_40 (by decide) rfl ?_
          refine gz_sub [1, 2, 3, 4, 5, 6, 7, 0] rfl ?_
          have ll_42 : ∀ (n_42 : Nat) (σ : Dz) (y2 : Int32) (y3 : Int32) (y4 : Int32) (y5 : Int32) (y6 : Int32) (y7 : Int32) (y8 : Int32) , L_X10_finds_42 post (L_X10_finds_32 post  n_32) n_42 σ y2 y3 y4 y5 y6 y7 y8 → Gz p l e r_X10_finds s m args below meth c D ad ty 9 0 0 (Ez below D ad ty nI0 post (fun _ _ => False) args s 0 0) σ 42 [(0, .ref (ad 43)), (2, .int y2), (3, .int y3), (4, .int y4), (5, .int y5), (6, .int y6), (7, .int y7), (8, .int y8)] [] := by
            intro n_42; induction n_42 with
            | zero => intro σ y2 y3 y4 y5 y6 y7 y8 hp; exact False.elim hp
            | succ n_42 ih_42 =>
              intro σ y2 y3 y4 y5 y6 y7 y8 hp
              have hp : B_X10_finds_42 post (L_X10_finds_32 post  n_32) (L_X10_finds_42 post (L_X10_finds_32 post  n_32) n_42) σ y2 y3 y4 y5 y6 y7 y8 := hp
              unfold B_X10_finds_42 at hp
              have bb_125 : ∀ (σ : Dz) (y2 : Int32) (y3 : Int32) (y4 : Int32) (y5 : Int32) (y6 : Int32) (y7 : Int32) (y8 : Int32) , B_X10_finds_125 post (L_X10_finds_32 post  n_32) (L_X10_finds_42 post (L_X10_finds_32 post  n_32) n_42) σ y2 y3 y4 y5 y6 y7 y8 → Gz p l e r_X10_finds s m args below meth c D ad ty 9 0 0 (Ez below D ad ty nI0 post (fun _ _ => False) args s 0 0) σ 125 [(0, .ref (ad 43)), (2, .int y2), (3, .int y3), (4, .int y4), (5, .int y5), (6, .int y6), (7, .int y7), (8, .int y8)] [] := by
                intro σ y2 y3 y4 y5 y6 y7 y8 hp
                unfold B_X10_finds_125 at hp
                refine gz_iinc K (v := (y8 + 1)) [(8, .int (y8 + 1)), (0, .ref (ad 43)), (2, .int y2), (3, .int y3), (4, .int y4), (5, .int y5), (6, .int y6), (7, .int y7)] dX10_finds_125 7 rfl (by first | rfl | decide) (by decide) rfl ?_
                refine gz_goto K 42 dX10_finds_128 (by decide) ?_
                refine gz_sub [1, 2, 3, 4, 5, 6, 7, 0] rfl ?_
                exact ih_42 σ y2 y3 y4 y5 y6 y7 (y8 + 1)  hp
              refine gz_iload K dX10_finds_42 7 rfl ?_
              refine gz_iload K dX10_finds_44 5 rfl ?_
              refine gz_icmp_ge K 131 dX10_finds_46 (by decide) (fun h => ?_) (fun h => ?_)
              · have hp := hp.1 h
                refine gz_sub [0, 1, 2, 3, 4, 5, 6] rfl ?_
                exact bb_131 σ y2 y3 y4 y5 y6 y7  hp
              · have hp := hp.2 h
                refine gz_aload_n K dX10_finds_49 0 rfl ?_
                refine gz_iload_n K dX10_finds_50 2 rfl ?_
                refine gz_iload K dX10_finds_51 6 rfl ?_
                refine gz_callV K hex (c_X10_isShort K.2.2.2.2.2 K.2.2.1 hp) cf_X10_isShort zq6_122 (by decide) (ce_43 _ _ _ _ _ _) rfl dX10_finds_53 rfl rfl (Nat.le_of_ble_eq_true rfl) ⟨Nat.le_of_ble_eq_true rfl, Nat.le_of_ble_eq_true rfl⟩ ⟨Nat.le_of_ble_eq_true rfl, Nat.le_of_ble_eq_true rfl⟩ (Nat.le_of_ble_eq_true rfl) (Nat.le_of_ble_eq_true rfl) (fun _ _ h => h.elim) (fun r53 τ hp => ?_)
                obtain ⟨rfl, hp⟩ := hp
                refine gz_norm (st' := [.int r53]) (cells' := 0) (slots' := 0) rfl rfl rfl ?_
                refine gz_if_eq K 131 dX10_finds_56 (by decide) (fun h => ?_) (fun h => ?_)
                · have hp := hp.1 h
                  refine gz_sub [0, 1, 2, 3, 4, 5, 6] rfl ?_
                  exact bb_131 σ y2 y3 y4 y5 y6 y7  hp
                · have hp := hp.2 h
                  refine gz_aload_n K dX10_finds_59 0 rfl ?_
                  refine gz_iload K dX10_finds_60 3 rfl ?_
                  refine gz_iload K dX10_finds_62 7 rfl ?_
                  refine gz_callV K hex (c_X10_isShort K.2.2.2.2.2 K.2.2.1 hp) cf_X10_isShort zq6_122 (by decide) (ce_43 _ _ _ _ _ _) rfl dX10_finds_64 rfl rfl (Nat.le_of_ble_eq_true rfl) ⟨Nat.le_of_ble_eq_true rfl, Nat.le_of_ble_eq_true rfl⟩ ⟨Nat.le_of_ble_eq_true rfl, Nat.le_of_ble_eq_true rfl⟩ (Nat.le_of_ble_eq_true rfl) (Nat.le_of_ble_eq_true rfl) (fun _ _ h => h.elim) (fun r64 τ hp => ?_)
                  obtain ⟨rfl, hp⟩ := hp
                  refine gz_norm (st' := [.int r64]) (cells' := 0) (slots' := 0) rfl rfl rfl ?_
                  refine gz_if_eq K 125 dX10_finds_67 (by decide) (fun h => ?_) (fun h => ?_)
                  · have hp := hp.1 h
                    exact bb_125 σ y2 y3 y4 y5 y6 y7 y8  hp
                  · have hp := hp.2 h
                    refine gz_aload_n K dX10_finds_70 0 rfl ?_
                    refine gz_iload_n K dX10_finds_71 2 rfl ?_
                    refine gz_iload K dX10_finds_72 6 rfl ?_
                    refine gz_iload K dX10_finds_74 3 rfl ?_
                    refine gz_iload K dX10_finds_76 7 rfl ?_
                    refine gz_callV K hex (c_X10_movedBy K.2.2.2.2.2 K.2.2.1 hp) cf_X10_movedBy zq6_126 (by decide) (ce_43 _ _ _ _ _ _) rfl dX10_finds_78 rfl rfl (Nat.le_of_ble_eq_true rfl) ⟨Nat.le_of_ble_eq_true rfl, Nat.le_of_ble_eq_true rfl⟩ ⟨Nat.le_of_ble_eq_true rfl, Nat.le_of_ble_eq_true rfl⟩ (Nat.le_of_ble_eq_true rfl) (Nat.le_of_ble_eq_true rfl) (fun _ _ h => h.elim) (fun r78 τ hp => ?_)
                    obtain ⟨rfl, hp⟩ := hp
                    refine gz_norm (st' := [.int r78]) (cells' := 0) (slots' := 0) rfl rfl rfl ?_
                    refine gz_iload_n K dX10_finds_81 1 rfl ?_
                    refine gz_icmp_ne K 125 dX10_finds_82 (by decide) (fun h => ?_) (fun h => ?_)
                    · have hp := hp.1 h
                      exact bb_125 σ y2 y3 y4 y5 y6 y7 y8  hp
                    · have hp := hp.2 h
                      refine gz_aload_n K dX10_finds_85 0 rfl ?_
                      refine gz_callV K hex (c_X10_clears K.2.2.2.2.2 K.2.2.1 hp) cf_X10_clears zq5_192 (by decide) (ce_43 _ _ _ _ _ _) rfl dX10_finds_86 rfl rfl (Nat.le_of_ble_eq_true rfl) ⟨Nat.le_of_ble_eq_true rfl, Nat.le_of_ble_eq_true rfl⟩ ⟨Nat.le_of_ble_eq_true rfl, Nat.le_of_ble_eq_true rfl⟩ (Nat.le_of_ble_eq_true rfl) (Nat.le_of_ble_eq_true rfl) (fun _ _ h => h.elim) (fun _ τ86 hp => ?_)
                      refine gz_norm (st' := []) (cells' := 0) (slots' := 0) rfl rfl rfl ?_
                      refine gz_aload_n K dX10_finds_89 0 rfl ?_
                      refine gz_iload_n K dX10_finds_90 2 rfl ?_
                      refine gz_iload K dX10_finds_91 6 rfl ?_
                      refine gz_iconst K (v := (0 : Int32)) dX10_finds_93 (by decide) ?_
                      refine gz_callV K hex (c_X10_comesShort K.2.2.2.2.2 K.2.2.1 hp) cf_X10_comesShort zq6_134 (by decide) (ce_43 _ _ _ _ _ _) rfl dX10_finds_94 rfl rfl (Nat.le_of_ble_eq_true rfl) ⟨Nat.le_of_ble_eq_true rfl, Nat.le_of_ble_eq_true rfl⟩ ⟨Nat.le_of_ble_eq_true rfl, Nat.le_of_ble_eq_true rfl⟩ (Nat.le_of_ble_eq_true rfl) (Nat.le_of_ble_eq_true rfl) (fun _ _ h => h.elim) (fun _ τ94 hp => ?_)
                      refine gz_norm (st' := []) (cells' := 0) (slots' := 0) rfl rfl rfl ?_
                      refine gz_aload_n K dX10_finds_97 0 rfl ?_
                      refine gz_iload K dX10_finds_98 3 rfl ?_
                      refine gz_iload K dX10_finds_100 7 rfl ?_
                      refine gz_iconst K (v := (0 : Int32)) dX10_finds_102 (by decide) ?_
                      refine gz_callV K hex (c_X10_comesShort K.2.2.2.2.2 K.2.2.1 hp) cf_X10_comesShort zq6_134 (by decide) (ce_43 _ _ _ _ _ _) rfl dX10_finds_103 rfl rfl (Nat.le_of_ble_eq_true rfl) ⟨Nat.le_of_ble_eq_true rfl, Nat.le_of_ble_eq_true rfl⟩ ⟨Nat.le_of_ble_eq_true rfl, Nat.le_of_ble_eq_true rfl⟩ (Nat.le_of_ble_eq_true rfl) (Nat.le_of_ble_eq_true rfl) (fun _ _ h => h.elim) (fun _ τ103 hp => ?_)
                      refine gz_norm (st' := []) (cells' := 0) (slots' := 0) rfl rfl rfl ?_
                      refine gz_aload_n K dX10_finds_106 0 rfl ?_
                      refine gz_iload_n K dX10_finds_107 2 rfl ?_
                      refine gz_iload K dX10_finds_108 6 rfl ?_
                      refine gz_iconst K (v := (1 : Int32)) dX10_finds_110 (by decide) ?_
                      refine gz_callV K hex (c_X10_comesShort K.2.2.2.2.2 K.2.2.1 hp) cf_X10_comesShort zq6_134 (by decide) (ce_43 _ _ _ _ _ _) rfl dX10_finds_111 rfl rfl (Nat.le_of_ble_eq_true rfl) ⟨Nat.le_of_ble_eq_true rfl, Nat.le_of_ble_eq_true rfl⟩ ⟨Nat.le_of_ble_eq_true rfl, Nat.le_of_ble_eq_true rfl⟩ (Nat.le_of_ble_eq_true rfl) (Nat.le_of_ble_eq_true rfl) (fun _ _ h => h.elim) (fun _ τ111 hp => ?_)
                      refine gz_norm (st' := []) (cells' := 0) (slots' := 0) rfl rfl rfl ?_
                      refine gz_aload_n K dX10_finds_114 0 rfl ?_
                      refine gz_iload K dX10_finds_115 3 rfl ?_
                      refine gz_iload K dX10_finds_117 7 rfl ?_
                      refine gz_iconst K (v := (1 : Int32)) dX10_finds_119 (by decide) ?_
                      refine gz_callV K hex (c_X10_comesShort K.2.2.2.2.2 K.2.2.1 hp) cf_X10_comesShort zq6_134 (by decide) (ce_43 _ _ _ _ _ _) rfl dX10_finds_120 rfl rfl (Nat.le_of_ble_eq_true rfl) ⟨Nat.le_of_ble_eq_true rfl, Nat.le_of_ble_eq_true rfl⟩ ⟨Nat.le_of_ble_eq_true rfl, Nat.le_of_ble_eq_true rfl⟩ (Nat.le_of_ble_eq_true rfl) (Nat.le_of_ble_eq_true rfl) (fun _ _ h => h.elim) (fun _ τ120 hp => ?_)
                      refine gz_norm (st' := []) (cells' := 0) (slots' := 0) rfl rfl rfl ?_
                      refine gz_iconst K (v := (1 : Int32)) dX10_finds_123 (by decide) ?_
                      exact gz_zret K hr (by decide) hp dX10_finds_124 (Nat.le_of_ble_eq_true rfl) (Nat.le_of_ble_eq_true rfl)
          obtain ⟨n, hp⟩ := hp
          exact ll_42 n σ y2 y3 y4 y5 y6 y7 (0 : Int32)  hp
    obtain ⟨n, hp⟩ := hp
    exact ll_32 n σ y2 y3 y4 y5 z0 (0 : Int32)  hp
  have bb_12 : ∀ (σ : Dz) (y2 : Int32) (y3 : Int32) (y4 : Int32) (z0 : Int32) , B_X10_finds_12 post  σ y2 y3 y4 z0 → Gz p l e r_X10_finds s m args below meth c D ad ty 9 0 0 (Ez below D ad ty nI0 post (fun _ _ => False) args s 0 0) σ 12 [(0, .ref (ad 43)), (2, .int y2), (3, .int y3), (4, .int y4)] [.int z0] := by
    intro σ y2 y3 y4 z0 hp
    unfold B_X10_finds_12 at hp
    refine gz_istore K [(5, .int z0), (0, .ref (ad 43)), (2, .int y2), (3, .int y3), (4, .int y4)] dX10_finds_12 (by decide) rfl ?_
    refine gz_iload K dX10_finds_14 4 rfl ?_
    refine gz_iconst K (v := (1 : Int32)) dX10_finds_16 (by decide) ?_
    refine gz_icmp_ne K 25 dX10_finds_17 (by decide) (fun h => ?_) (fun h => ?_)
    · have hp := hp.1 h
      refine gz_bipush K (v := (100 : Int32)) dX10_finds_25 (by decide) ?_
      refine gz_sub [1, 2, 3, 4, 0] rfl ?_
      exact bb_27 σ y2 y3 y4 z0 (100 : Int32)  hp
    · have hp := hp.2 h
      refine gz_bipush K (v := (10 : Int32)) dX10_finds_20 (by decide) ?_
      refine gz_goto K 27 dX10_finds_22 (by decide) ?_
      refine gz_sub [1, 2, 3, 4, 0] rfl ?_
      exact bb_27 σ y2 y3 y4 z0 (10 : Int32)  hp
  show Gz p l e r_X10_finds s m args below meth c D ad ty 9 0 0 (Ez below D ad ty nI0 post (fun _ _ => False) args s 0 0) σ 0 [(0, .ref (ad 43)), (1, .int x1), (2, .int x2), (3, .int x3), (4, .int x4)] []
  refine gz_iload_n K dX10_finds_0 3 rfl ?_
  refine gz_iconst K (v := (1 : Int32)) dX10_finds_1 (by decide) ?_
  refine gz_icmp_ne K 10 dX10_finds_2 (by decide) (fun h => ?_) (fun h => ?_)
  · have hp := hp.1 h
    refine gz_bipush K (v := (100 : Int32)) dX10_finds_10 (by decide) ?_
    refine gz_sub [0, 2, 3, 4] rfl ?_
    exact bb_12 σ x2 x3 x4 (100 : Int32)  hp
  · have hp := hp.2 h
    refine gz_bipush K (v := (10 : Int32)) dX10_finds_5 (by decide) ?_
    refine gz_goto K 12 dX10_finds_7 (by decide) ?_
    refine gz_sub [0, 2, 3, 4] rfl ?_
    exact bb_12 σ x2 x3 x4 (10 : Int32)  hp
set_option maxRecDepth 100000 in
set_option maxHeartbeats 4000000 in
theorem c_X10_findCommutator {l : Launch} {D : va_G} {ad : Nat → Nat} {ty : Nat → ClassId} (hl : l.stackTraces = false) (hj : ∀ i j, i < 68 → j < 68 → ad i = ad j → i = j) {σ : Dz} {x1 : Int32} {x2 : Int32} {post : Int32 → Dz → Prop} (hp : P_X10_findCommutator σ x1 x2 post) : Mz l D ad ty yX10_findCommutator cX10_findCommutator 4 (some .int) r_X10_findCommutator nI0 σ [.ref (ad 43), .int x1, .int x2] post (fun _ _ => False) := by
  refine mz_of (by decide) hl hj (Nat.le_of_ble_eq_true rfl) ?_
  intro p e s m args below meth c K hex hr
  unfold P_X10_findCommutator at hp
  have bb_62 : ∀ (σ : Dz) (y1 : Int32) (z0 : Int32) , B_X10_findCommutator_62 post  σ y1 z0 → Gz p l e r_X10_findCommutator s m args below meth c D ad ty 4 0 0 (Ez below D ad ty nI0 post (fun _ _ => False) args s 0 0) σ 62 [(0, .ref (ad 43)), (1, .int y1)] [.int z0] := by
    intro σ y1 z0 hp
    unfold B_X10_findCommutator_62 at hp
    refine gz_istore_n K [(3, .int z0), (0, .ref (ad 43)), (1, .int y1)] dX10_findCommutator_62 (by decide) rfl ?_
    refine gz_iload_n K dX10_findCommutator_63 0 rfl ?_
    refine gz_if_eq K 75 dX10_findCommutator_64 (by decide) (fun h => ?_) (fun h => ?_)
    · have hp := hp.1 h
      refine gz_aload_n K dX10_findCommutator_75 1 rfl ?_
      refine gz_iconst K (v := (2 : Int32)) dX10_findCommutator_76 (by decide) ?_
      refine gz_callV K hex (c_X10_fails K.2.2.2.2.2 K.2.2.1 hp) cf_X10_fails zq5_149 (by decide) (ce_43 _ _ _ _ _ _) rfl dX10_findCommutator_77 rfl rfl (Nat.le_of_ble_eq_true rfl) ⟨Nat.le_of_ble_eq_true rfl, Nat.le_of_ble_eq_true rfl⟩ ⟨Nat.le_of_ble_eq_true rfl, Nat.le_of_ble_eq_true rfl⟩ (Nat.le_of_ble_eq_true rfl) (Nat.le_of_ble_eq_true rfl) (fun _ _ h => h.elim) (fun r77 τ77 hp => ?_)
      refine gz_norm (st' := [.int r77]) (cells' := 0) (slots' := 0) rfl rfl rfl ?_
      exact gz_iret K hr hp dX10_findCommutator_80 (Nat.le_of_ble_eq_true rfl) (Nat.le_of_ble_eq_true rfl)
    · have hp := hp.2 h
      refine gz_aload_n K dX10_findCommutator_67 1 rfl ?_
      refine gz_iload_n K dX10_findCommutator_68 2 rfl ?_
      refine gz_callV K hex (c_X10_keeps K.2.2.2.2.2 K.2.2.1 hp) cf_X10_keeps zq5_218 (by decide) (ce_43 _ _ _ _ _ _) rfl dX10_findCommutator_69 rfl rfl (Nat.le_of_ble_eq_true rfl) ⟨Nat.le_of_ble_eq_true rfl, Nat.le_of_ble_eq_true rfl⟩ ⟨Nat.le_of_ble_eq_true rfl, Nat.le_of_ble_eq_true rfl⟩ (Nat.le_of_ble_eq_true rfl) (Nat.le_of_ble_eq_true rfl) (fun _ _ h => h.elim) (fun r69 τ69 hp => ?_)
      refine gz_norm (st' := [.int r69]) (cells' := 0) (slots' := 0) rfl rfl rfl ?_
      refine gz_goto K 80 dX10_findCommutator_72 (by decide) ?_
      exact gz_iret K hr hp dX10_findCommutator_80 (Nat.le_of_ble_eq_true rfl) (Nat.le_of_ble_eq_true rfl)
  have bb_57 : ∀ (σ : Dz) (y1 : Int32) , B_X10_findCommutator_57 post  σ y1 → Gz p l e r_X10_findCommutator s m args below meth c D ad ty 4 0 0 (Ez below D ad ty nI0 post (fun _ _ => False) args s 0 0) σ 57 [(0, .ref (ad 43)), (1, .int y1)] [] := by
    intro σ y1 hp
    unfold B_X10_findCommutator_57 at hp
    refine gz_iconst K (v := (1 : Int32)) dX10_findCommutator_57 (by decide) ?_
    refine gz_goto K 62 dX10_findCommutator_58 (by decide) ?_
    exact bb_62 σ y1 (1 : Int32)  hp
  show Gz p l e r_X10_findCommutator s m args below meth c D ad ty 4 0 0 (Ez below D ad ty nI0 post (fun _ _ => False) args s 0 0) σ 0 [(0, .ref (ad 43)), (1, .int x1), (2, .int x2)] []
  refine gz_iload_n K dX10_findCommutator_0 1 rfl ?_
  refine gz_callS K hex (c_X10_isSlot K.2.2.2.2.2 K.2.2.1 hp) cf_X10_isSlot zq5_189 dX10_findCommutator_1 rfl rfl (Nat.le_of_ble_eq_true rfl) ⟨Nat.le_of_ble_eq_true rfl, Nat.le_of_ble_eq_true rfl⟩ ⟨Nat.le_of_ble_eq_true rfl, Nat.le_of_ble_eq_true rfl⟩ (Nat.le_of_ble_eq_true rfl) (Nat.le_of_ble_eq_true rfl) (fun _ _ h => h.elim) (fun r1 τ hp => ?_)
  obtain ⟨rfl, hp⟩ := hp
  refine gz_norm (st' := [.int r1]) (cells' := 0) (slots' := 0) rfl rfl rfl ?_
  refine gz_if_ne K 13 dX10_findCommutator_4 (by decide) (fun h => ?_) (fun h => ?_)
  · have hp := hp.1 h
    refine gz_aload_n K dX10_findCommutator_13 0 rfl ?_
    refine gz_iload_n K dX10_findCommutator_14 1 rfl ?_
    refine gz_iload_n K dX10_findCommutator_15 2 rfl ?_
    refine gz_iconst K (v := (1 : Int32)) dX10_findCommutator_16 (by decide) ?_
    refine gz_iconst K (v := (1 : Int32)) dX10_findCommutator_17 (by decide) ?_
    refine gz_callV K hex (c_X10_finds K.2.2.2.2.2 K.2.2.1 hp) cf_X10_finds zq6_118 (by decide) (ce_43 _ _ _ _ _ _) rfl dX10_findCommutator_18 rfl rfl (Nat.le_of_ble_eq_true rfl) ⟨Nat.le_of_ble_eq_true rfl, Nat.le_of_ble_eq_true rfl⟩ ⟨Nat.le_of_ble_eq_true rfl, Nat.le_of_ble_eq_true rfl⟩ (Nat.le_of_ble_eq_true rfl) (Nat.le_of_ble_eq_true rfl) (fun _ _ h => h.elim) (fun r18 τ18 hp => ?_)
    refine gz_norm (st' := [.int r18]) (cells' := 0) (slots' := 0) rfl rfl rfl ?_
    refine gz_if_ne K 57 dX10_findCommutator_21 (by decide) (fun h => ?_) (fun h => ?_)
    · have hp := hp.1 h
      refine gz_sub [0, 1] rfl ?_
      exact bb_57 τ18 x1  hp
    · have hp := hp.2 h
      refine gz_aload_n K dX10_findCommutator_24 0 rfl ?_
      refine gz_iload_n K dX10_findCommutator_25 1 rfl ?_
      refine gz_iload_n K dX10_findCommutator_26 2 rfl ?_
      refine gz_iconst K (v := (1 : Int32)) dX10_findCommutator_27 (by decide) ?_
      refine gz_iconst K (v := (2 : Int32)) dX10_findCommutator_28 (by decide) ?_
      refine gz_callV K hex (c_X10_finds K.2.2.2.2.2 K.2.2.1 hp) cf_X10_finds zq6_118 (by decide) (ce_43 _ _ _ _ _ _) rfl dX10_findCommutator_29 rfl rfl (Nat.le_of_ble_eq_true rfl) ⟨Nat.le_of_ble_eq_true rfl, Nat.le_of_ble_eq_true rfl⟩ ⟨Nat.le_of_ble_eq_true rfl, Nat.le_of_ble_eq_true rfl⟩ (Nat.le_of_ble_eq_true rfl) (Nat.le_of_ble_eq_true rfl) (fun _ _ h => h.elim) (fun r29 τ29 hp => ?_)
      refine gz_norm (st' := [.int r29]) (cells' := 0) (slots' := 0) rfl rfl rfl ?_
      refine gz_if_ne K 57 dX10_findCommutator_32 (by decide) (fun h => ?_) (fun h => ?_)
      · have hp := hp.1 h
        refine gz_sub [0, 1] rfl ?_
        exact bb_57 τ29 x1  hp
      · have hp := hp.2 h
        refine gz_aload_n K dX10_findCommutator_35 0 rfl ?_
        refine gz_iload_n K dX10_findCommutator_36 1 rfl ?_
        refine gz_iload_n K dX10_findCommutator_37 2 rfl ?_
        refine gz_iconst K (v := (2 : Int32)) dX10_findCommutator_38 (by decide) ?_
        refine gz_iconst K (v := (1 : Int32)) dX10_findCommutator_39 (by decide) ?_
        refine gz_callV K hex (c_X10_finds K.2.2.2.2.2 K.2.2.1 hp) cf_X10_finds zq6_118 (by decide) (ce_43 _ _ _ _ _ _) rfl dX10_findCommutator_40 rfl rfl (Nat.le_of_ble_eq_true rfl) ⟨Nat.le_of_ble_eq_true rfl, Nat.le_of_ble_eq_true rfl⟩ ⟨Nat.le_of_ble_eq_true rfl, Nat.le_of_ble_eq_true rfl⟩ (Nat.le_of_ble_eq_true rfl) (Nat.le_of_ble_eq_true rfl) (fun _ _ h => h.elim) (fun r40 τ40 hp => ?_)
        refine gz_norm (st' := [.int r40]) (cells' := 0) (slots' := 0) rfl rfl rfl ?_
        refine gz_if_ne K 57 dX10_findCommutator_43 (by decide) (fun h => ?_) (fun h => ?_)
        · have hp := hp.1 h
          refine gz_sub [0, 1] rfl ?_
          exact bb_57 τ40 x1  hp
        · have hp := hp.2 h
          refine gz_aload_n K dX10_findCommutator_46 0 rfl ?_
          refine gz_iload_n K dX10_findCommutator_47 1 rfl ?_
          refine gz_iload_n K dX10_findCommutator_48 2 rfl ?_
          refine gz_iconst K (v := (2 : Int32)) dX10_findCommutator_49 (by decide) ?_
          refine gz_iconst K (v := (2 : Int32)) dX10_findCommutator_50 (by decide) ?_
          refine gz_callV K hex (c_X10_finds K.2.2.2.2.2 K.2.2.1 hp) cf_X10_finds zq6_118 (by decide) (ce_43 _ _ _ _ _ _) rfl dX10_findCommutator_51 rfl rfl (Nat.le_of_ble_eq_true rfl) ⟨Nat.le_of_ble_eq_true rfl, Nat.le_of_ble_eq_true rfl⟩ ⟨Nat.le_of_ble_eq_true rfl, Nat.le_of_ble_eq_true rfl⟩ (Nat.le_of_ble_eq_true rfl) (Nat.le_of_ble_eq_true rfl) (fun _ _ h => h.elim) (fun r51 τ51 hp => ?_)
          refine gz_norm (st' := [.int r51]) (cells' := 0) (slots' := 0) rfl rfl rfl ?_
          refine gz_if_eq K 61 dX10_findCommutator_54 (by decide) (fun h => ?_) (fun h => ?_)
          · have hp := hp.1 h
            refine gz_iconst K (v := (0 : Int32)) dX10_findCommutator_61 (by decide) ?_
            refine gz_sub [0, 1] rfl ?_
            exact bb_62 τ51 x1 (0 : Int32)  hp
          · have hp := hp.2 h
            refine gz_sub [0, 1] rfl ?_
            exact bb_57 τ51 x1  hp
  · have hp := hp.2 h
    refine gz_aload_n K dX10_findCommutator_7 0 rfl ?_
    refine gz_iconst K (v := (1 : Int32)) dX10_findCommutator_8 (by decide) ?_
    refine gz_callV K hex (c_X10_fails K.2.2.2.2.2 K.2.2.1 hp) cf_X10_fails zq5_149 (by decide) (ce_43 _ _ _ _ _ _) rfl dX10_findCommutator_9 rfl rfl (Nat.le_of_ble_eq_true rfl) ⟨Nat.le_of_ble_eq_true rfl, Nat.le_of_ble_eq_true rfl⟩ ⟨Nat.le_of_ble_eq_true rfl, Nat.le_of_ble_eq_true rfl⟩ (Nat.le_of_ble_eq_true rfl) (Nat.le_of_ble_eq_true rfl) (fun _ _ h => h.elim) (fun r9 τ9 hp => ?_)
    refine gz_norm (st' := [.int r9]) (cells' := 0) (slots' := 0) rfl rfl rfl ?_
    exact gz_iret K hr hp dX10_findCommutator_12 (Nat.le_of_ble_eq_true rfl) (Nat.le_of_ble_eq_true rfl)
set_option maxRecDepth 100000 in
set_option maxHeartbeats 4000000 in
theorem c_X10_isRow {l : Launch} {D : va_G} {ad : Nat → Nat} {ty : Nat → ClassId} (hl : l.stackTraces = false) (hj : ∀ i j, i < 68 → j < 68 → ad i = ad j → i = j) {σ : Dz} {x0 : Int32} {post : Int32 → Prop} (hp : P_X10_isRow x0 post) : Mz l D ad ty yX10_isRow cX10_isRow 1 (some .boolean) r_X10_isRow nI0 σ [.int x0] (fun r τ => σ = τ ∧ post r) (fun _ _ => False) := by
  refine mz_of (by decide) hl hj (Nat.le_of_ble_eq_true rfl) ?_
  intro p e s m args below meth c K hex hr
  unfold P_X10_isRow at hp
  show Gz p l e r_X10_isRow s m args below meth c D ad ty 1 0 0 (Ez below D ad ty nI0 (fun r τ => σ = τ ∧ post r) (fun _ _ => False) args s 0 0) σ 0 [(0, .int x0)] []
  refine gz_iload_n K dX10_isRow_0 0 rfl ?_
  refine gz_iconst K (v := (0 : Int32)) dX10_isRow_1 (by decide) ?_
  refine gz_iconst K (v := (1 : Int32)) dX10_isRow_2 (by decide) ?_
  refine gz_callS K hex (c_X10_in K.2.2.2.2.2 K.2.2.1 hp) cf_X10_in zq5_146 dX10_isRow_3 rfl rfl (Nat.le_of_ble_eq_true rfl) ⟨Nat.le_of_ble_eq_true rfl, Nat.le_of_ble_eq_true rfl⟩ ⟨Nat.le_of_ble_eq_true rfl, Nat.le_of_ble_eq_true rfl⟩ (Nat.le_of_ble_eq_true rfl) (Nat.le_of_ble_eq_true rfl) (fun _ _ h => h.elim) (fun r3 τ hp => ?_)
  obtain ⟨rfl, hp⟩ := hp
  refine gz_norm (st' := [.int r3]) (cells' := 0) (slots' := 0) rfl rfl rfl ?_
  exact gz_zret K hr (nB hp.1) ⟨rfl, hp.2⟩ dX10_isRow_6 (Nat.le_of_ble_eq_true rfl) (Nat.le_of_ble_eq_true rfl)
set_option maxRecDepth 100000 in
set_option maxHeartbeats 4000000 in
theorem c_X10_fillShares {l : Launch} {D : va_G} {ad : Nat → Nat} {ty : Nat → ClassId} (hl : l.stackTraces = false) (hj : ∀ i j, i < 68 → j < 68 → ad i = ad j → i = j) {σ : Dz} {x1 : Int32} {post : Int32 → Dz → Prop} (hp : P_X10_fillShares σ x1 post) : Mz l D ad ty yX10_fillShares cX10_fillShares 3 (some .int) r_X10_fillShares nI0 σ [.ref (ad 43), .int x1] post (fun _ _ => False) := by
  refine mz_of (by decide) hl hj (Nat.le_of_ble_eq_true rfl) ?_
  intro p e s m args below meth c K hex hr
  unfold P_X10_fillShares at hp
  show Gz p l e r_X10_fillShares s m args below meth c D ad ty 3 0 0 (Ez below D ad ty nI0 post (fun _ _ => False) args s 0 0) σ 0 [(0, .ref (ad 43)), (1, .int x1)] []
  refine gz_iload_n K dX10_fillShares_0 1 rfl ?_
  refine gz_callS K hex (c_X10_isRow K.2.2.2.2.2 K.2.2.1 hp) cf_X10_isRow zq6_142 dX10_fillShares_1 rfl rfl (Nat.le_of_ble_eq_true rfl) ⟨Nat.le_of_ble_eq_true rfl, Nat.le_of_ble_eq_true rfl⟩ ⟨Nat.le_of_ble_eq_true rfl, Nat.le_of_ble_eq_true rfl⟩ (Nat.le_of_ble_eq_true rfl) (Nat.le_of_ble_eq_true rfl) (fun _ _ h => h.elim) (fun r1 τ hp => ?_)
  obtain ⟨rfl, hp⟩ := hp
  refine gz_norm (st' := [.int r1]) (cells' := 0) (slots' := 0) rfl rfl rfl ?_
  refine gz_if_ne K 13 dX10_fillShares_4 (by decide) (fun h => ?_) (fun h => ?_)
  · have hp := hp.1 h
    refine gz_aload_n K dX10_fillShares_13 0 rfl ?_
    refine gz_callV K hex (c_X10_tellDepths K.2.2.2.2.2 K.2.2.1 hp) cf_X10_tellDepths zq6_66 (by decide) (ce_43 _ _ _ _ _ _) rfl dX10_fillShares_14 rfl rfl (Nat.le_of_ble_eq_true rfl) ⟨Nat.le_of_ble_eq_true rfl, Nat.le_of_ble_eq_true rfl⟩ ⟨Nat.le_of_ble_eq_true rfl, Nat.le_of_ble_eq_true rfl⟩ (Nat.le_of_ble_eq_true rfl) (Nat.le_of_ble_eq_true rfl) (fun _ _ h => h.elim) (fun _ τ14 hp => ?_)
    refine gz_norm (st' := []) (cells' := 0) (slots' := 0) rfl rfl rfl ?_
    refine gz_iconst K (v := (0 : Int32)) dX10_fillShares_17 (by decide) ?_
    refine gz_istore_n K [(2, .int (0 : Int32)), (0, .ref (ad 43)), (1, .int x1)] dX10_fillShares_18 (by decide) rfl ?_
    refine gz_sub [1, 2, 0] rfl ?_
    have ll_19 : ∀ (n_19 : Nat) (σ : Dz) (y1 : Int32) (y2 : Int32) , L_X10_fillShares_19 post  n_19 σ y1 y2 → Gz p l e r_X10_fillShares s m args below meth c D ad ty 3 0 0 (Ez below D ad ty nI0 post (fun _ _ => False) args s 0 0) σ 19 [(0, .ref (ad 43)), (1, .int y1), (2, .int y2)] [] := by
      intro n_19; induction n_19 with
      | zero => intro σ y1 y2 hp; exact False.elim hp
      | succ n_19 ih_19 =>
        intro σ y1 y2 hp
        have hp : B_X10_fillShares_19 post  (L_X10_fillShares_19 post  n_19) σ y1 y2 := hp
        unfold B_X10_fillShares_19 at hp
        have bb_70 : ∀ (σ : Dz) (y1 : Int32) (y2 : Int32) , B_X10_fillShares_70 post (L_X10_fillShares_19 post  n_19) σ y1 y2 → Gz p l e r_X10_fillShares s m args below meth c D ad ty 3 0 0 (Ez below D ad ty nI0 post (fun _ _ => False) args s 0 0) σ 70 [(0, .ref (ad 43)), (1, .int y1), (2, .int y2)] [] := by
          intro σ y1 y2 hp
          unfold B_X10_fillShares_70 at hp
          refine gz_iinc K (v := (y2 + 1)) [(2, .int (y2 + 1)), (0, .ref (ad 43)), (1, .int y1)] dX10_fillShares_70 2 rfl (by first | rfl | decide) (by decide) rfl ?_
          refine gz_goto K 19 dX10_fillShares_73 (by decide) ?_
          refine gz_sub [1, 2, 0] rfl ?_
          exact ih_19 σ y1 (y2 + 1)  hp
        refine gz_iload_n K dX10_fillShares_19 2 rfl ?_
        refine gz_bipush K (v := (24 : Int32)) dX10_fillShares_20 (by decide) ?_
        refine gz_icmp_ge K 76 dX10_fillShares_22 (by decide) (fun h => ?_) (fun h => ?_)
        · have hp := hp.1 h
          refine gz_aload_n K dX10_fillShares_76 0 rfl ?_
          refine gz_aload_n K dX10_fillShares_77 0 rfl ?_
          refine gz_get K (v := .int (gz_i σ 43 33)) (by decide) (ce_43 _ _ _ _ _ _) rfl inz_X10 33 (by decide) zq5_64 rfl dX10_fillShares_78 ?_
          refine gz_bipush K (v := (24 : Int32)) dX10_fillShares_81 (by decide) ?_
          refine gz_icmp_ge K 90 dX10_fillShares_83 (by decide) (fun h => ?_) (fun h => ?_)
          · have hp := hp.1 h
            refine gz_aload_n K dX10_fillShares_90 0 rfl ?_
            refine gz_get K (v := .int (gz_i σ 43 33)) (by decide) (ce_43 _ _ _ _ _ _) rfl inz_X10 33 (by decide) zq5_64 rfl dX10_fillShares_91 ?_
            refine gz_bipush K (v := (24 : Int32)) dX10_fillShares_94 (by decide) ?_
            refine gz_isub K dX10_fillShares_96 ?_
            refine gz_iconst K (v := (1 : Int32)) dX10_fillShares_97 (by decide) ?_
            refine gz_iadd K dX10_fillShares_98 ?_
            refine gz_callV K hex (c_X10_done K.2.2.2.2.2 K.2.2.1 hp) cf_X10_done zq5_153 (by decide) (ce_43 _ _ _ _ _ _) rfl dX10_fillShares_99 rfl rfl (Nat.le_of_ble_eq_true rfl) ⟨Nat.le_of_ble_eq_true rfl, Nat.le_of_ble_eq_true rfl⟩ ⟨Nat.le_of_ble_eq_true rfl, Nat.le_of_ble_eq_true rfl⟩ (Nat.le_of_ble_eq_true rfl) (Nat.le_of_ble_eq_true rfl) (fun _ _ h => h.elim) (fun r99 τ99 hp => ?_)
            refine gz_norm (st' := [.int r99]) (cells' := 0) (slots' := 0) rfl rfl rfl ?_
            exact gz_iret K hr hp dX10_fillShares_102 (Nat.le_of_ble_eq_true rfl) (Nat.le_of_ble_eq_true rfl)
          · have hp := hp.2 h
            refine gz_iconst K (v := (0 : Int32)) dX10_fillShares_86 (by decide) ?_
            refine gz_goto K 99 dX10_fillShares_87 (by decide) ?_
            refine gz_callV K hex (c_X10_done K.2.2.2.2.2 K.2.2.1 hp) cf_X10_done zq5_153 (by decide) (ce_43 _ _ _ _ _ _) rfl dX10_fillShares_99 rfl rfl (Nat.le_of_ble_eq_true rfl) ⟨Nat.le_of_ble_eq_true rfl, Nat.le_of_ble_eq_true rfl⟩ ⟨Nat.le_of_ble_eq_true rfl, Nat.le_of_ble_eq_true rfl⟩ (Nat.le_of_ble_eq_true rfl) (Nat.le_of_ble_eq_true rfl) (fun _ _ h => h.elim) (fun r99 τ99 hp => ?_)
            refine gz_norm (st' := [.int r99]) (cells' := 0) (slots' := 0) rfl rfl rfl ?_
            exact gz_iret K hr hp dX10_fillShares_102 (Nat.le_of_ble_eq_true rfl) (Nat.le_of_ble_eq_true rfl)
        · have hp := hp.2 h
          refine gz_iload_n K dX10_fillShares_25 1 rfl ?_
          refine gz_if_ne K 51 dX10_fillShares_26 (by decide) (fun h => ?_) (fun h => ?_)
          · have hp := hp.1 h
            refine gz_aload_n K dX10_fillShares_51 0 rfl ?_
            refine gz_get K (v := .ref (ad 51)) (by decide) (ce_43 _ _ _ _ _ _) rfl inz_X10 11 (by decide) zq5_42 rfl dX10_fillShares_52 ?_
            refine gz_iload_n K dX10_fillShares_55 2 rfl ?_
            refine gz_aload_n K dX10_fillShares_56 0 rfl ?_
            refine gz_get K (v := .ref (ad 65)) (by decide) (ce_43 _ _ _ _ _ _) rfl inz_X10 34 (by decide) zq5_65 rfl dX10_fillShares_57 ?_
            refine gz_iload_n K dX10_fillShares_60 2 rfl ?_
            obtain ⟨h, hp⟩ := hp
            refine gz_iald K (by decide) (ce_65 _ _ _ _ _ _) h dX10_fillShares_61 ?_
            refine gz_i2d K dX10_fillShares_62 ?_
            refine gz_aload_n K dX10_fillShares_63 0 rfl ?_
            refine gz_get K (v := .int (gz_i σ 43 32)) (by decide) (ce_43 _ _ _ _ _ _) rfl inz_X10 32 (by decide) zq5_63 rfl dX10_fillShares_64 ?_
            refine gz_i2d K dX10_fillShares_67 ?_
            obtain ⟨h, hp⟩ := hp
            refine gz_ddiv K dX10_fillShares_68 h ?_
            obtain ⟨h, hp⟩ := hp
            refine gz_dast K (x := (FP.ddiv (FP.i2d (gz_i σ 65 (y2).toNatClampNeg)) (FP.i2d (gz_i σ 43 32)))) (by decide) (ce_51 ad ty) h dX10_fillShares_69 ?_
            exact bb_70 (sz_d σ 51 (y2).toNatClampNeg (FP.ddiv (FP.i2d (gz_i σ 65 (y2).toNatClampNeg)) (FP.i2d (gz_i σ 43 32)))) y1 y2  hp
          · have hp := hp.2 h
            refine gz_aload_n K dX10_fillShares_29 0 rfl ?_
            refine gz_get K (v := .ref (ad 50)) (by decide) (ce_43 _ _ _ _ _ _) rfl inz_X10 10 (by decide) zq5_41 rfl dX10_fillShares_30 ?_
            refine gz_iload_n K dX10_fillShares_33 2 rfl ?_
            refine gz_aload_n K dX10_fillShares_34 0 rfl ?_
            refine gz_get K (v := .ref (ad 65)) (by decide) (ce_43 _ _ _ _ _ _) rfl inz_X10 34 (by decide) zq5_65 rfl dX10_fillShares_35 ?_
            refine gz_iload_n K dX10_fillShares_38 2 rfl ?_
            obtain ⟨h, hp⟩ := hp
            refine gz_iald K (by decide) (ce_65 _ _ _ _ _ _) h dX10_fillShares_39 ?_
            refine gz_i2f K dX10_fillShares_40 ?_
            refine gz_aload_n K dX10_fillShares_41 0 rfl ?_
            refine gz_get K (v := .int (gz_i σ 43 32)) (by decide) (ce_43 _ _ _ _ _ _) rfl inz_X10 32 (by decide) zq5_63 rfl dX10_fillShares_42 ?_
            refine gz_i2f K dX10_fillShares_45 ?_
            obtain ⟨h, hp⟩ := hp
            refine gz_fdiv K dX10_fillShares_46 h ?_
            obtain ⟨h, hp⟩ := hp
            refine gz_fast K (x := (FP.fdiv (FP.i2f (gz_i σ 65 (y2).toNatClampNeg)) (FP.i2f (gz_i σ 43 32)))) (by decide) (ce_50 ad ty) h dX10_fillShares_47 ?_
            refine gz_goto K 70 dX10_fillShares_48 (by decide) ?_
            exact bb_70 (sz_f σ 50 (y2).toNatClampNeg (FP.fdiv (FP.i2f (gz_i σ 65 (y2).toNatClampNeg)) (FP.i2f (gz_i σ 43 32)))) y1 y2  hp
    obtain ⟨n, hp⟩ := hp
    exact ll_19 n τ14 x1 (0 : Int32)  hp
  · have hp := hp.2 h
    refine gz_aload_n K dX10_fillShares_7 0 rfl ?_
    refine gz_iconst K (v := (1 : Int32)) dX10_fillShares_8 (by decide) ?_
    refine gz_callV K hex (c_X10_fails K.2.2.2.2.2 K.2.2.1 hp) cf_X10_fails zq5_149 (by decide) (ce_43 _ _ _ _ _ _) rfl dX10_fillShares_9 rfl rfl (Nat.le_of_ble_eq_true rfl) ⟨Nat.le_of_ble_eq_true rfl, Nat.le_of_ble_eq_true rfl⟩ ⟨Nat.le_of_ble_eq_true rfl, Nat.le_of_ble_eq_true rfl⟩ (Nat.le_of_ble_eq_true rfl) (Nat.le_of_ble_eq_true rfl) (fun _ _ h => h.elim) (fun r9 τ9 hp => ?_)
    refine gz_norm (st' := [.int r9]) (cells' := 0) (slots' := 0) rfl rfl rfl ?_
    exact gz_iret K hr hp dX10_fillShares_12 (Nat.le_of_ble_eq_true rfl) (Nat.le_of_ble_eq_true rfl)
set_option maxRecDepth 100000 in
set_option maxHeartbeats 4000000 in
theorem c_X10_scale {l : Launch} {D : va_G} {ad : Nat → Nat} {ty : Nat → ClassId} (hl : l.stackTraces = false) (hj : ∀ i j, i < 68 → j < 68 → ad i = ad j → i = j) {σ : Dz} {x1 : Int32} {x2 : Int32} {x3 : Int32} {post : Int32 → Dz → Prop} (hp : P_X10_scale σ x1 x2 x3 post) : Mz l D ad ty yX10_scale cX10_scale 6 (some .int) r_X10_scale nI0 σ [.ref (ad 43), .int x1, .int x2, .int x3] post (fun _ _ => False) := by
  refine mz_of (by decide) hl hj (Nat.le_of_ble_eq_true rfl) ?_
  intro p e s m args below meth c K hex hr
  unfold P_X10_scale at hp
  show Gz p l e r_X10_scale s m args below meth c D ad ty 6 0 0 (Ez below D ad ty nI0 post (fun _ _ => False) args s 0 0) σ 0 [(0, .ref (ad 43)), (1, .int x1), (2, .int x2), (3, .int x3)] []
  refine gz_iload_n K dX10_scale_0 1 rfl ?_
  refine gz_callS K hex (c_X10_isRow K.2.2.2.2.2 K.2.2.1 hp) cf_X10_isRow zq6_142 dX10_scale_1 rfl rfl (Nat.le_of_ble_eq_true rfl) ⟨Nat.le_of_ble_eq_true rfl, Nat.le_of_ble_eq_true rfl⟩ ⟨Nat.le_of_ble_eq_true rfl, Nat.le_of_ble_eq_true rfl⟩ (Nat.le_of_ble_eq_true rfl) (Nat.le_of_ble_eq_true rfl) (fun _ _ h => h.elim) (fun r1 τ hp => ?_)
  obtain ⟨rfl, hp⟩ := hp
  refine gz_norm (st' := [.int r1]) (cells' := 0) (slots' := 0) rfl rfl rfl ?_
  refine gz_if_eq K 17 dX10_scale_4 (by decide) (fun h => ?_) (fun h => ?_)
  · have hp := hp.1 h
    refine gz_aload_n K dX10_scale_17 0 rfl ?_
    refine gz_iconst K (v := (1 : Int32)) dX10_scale_18 (by decide) ?_
    refine gz_callV K hex (c_X10_fails K.2.2.2.2.2 K.2.2.1 hp) cf_X10_fails zq5_149 (by decide) (ce_43 _ _ _ _ _ _) rfl dX10_scale_19 rfl rfl (Nat.le_of_ble_eq_true rfl) ⟨Nat.le_of_ble_eq_true rfl, Nat.le_of_ble_eq_true rfl⟩ ⟨Nat.le_of_ble_eq_true rfl, Nat.le_of_ble_eq_true rfl⟩ (Nat.le_of_ble_eq_true rfl) (Nat.le_of_ble_eq_true rfl) (fun _ _ h => h.elim) (fun r19 τ19 hp => ?_)
    refine gz_norm (st' := [.int r19]) (cells' := 0) (slots' := 0) rfl rfl rfl ?_
    exact gz_iret K hr hp dX10_scale_22 (Nat.le_of_ble_eq_true rfl) (Nat.le_of_ble_eq_true rfl)
  · have hp := hp.2 h
    refine gz_iload_n K dX10_scale_7 2 rfl ?_
    refine gz_iconst K (v := (0 : Int32)) dX10_scale_8 (by decide) ?_
    refine gz_bipush K (v := (23 : Int32)) dX10_scale_9 (by decide) ?_
    refine gz_callS K hex (c_X10_in K.2.2.2.2.2 K.2.2.1 hp) cf_X10_in zq5_146 dX10_scale_11 rfl rfl (Nat.le_of_ble_eq_true rfl) ⟨Nat.le_of_ble_eq_true rfl, Nat.le_of_ble_eq_true rfl⟩ ⟨Nat.le_of_ble_eq_true rfl, Nat.le_of_ble_eq_true rfl⟩ (Nat.le_of_ble_eq_true rfl) (Nat.le_of_ble_eq_true rfl) (fun _ _ h => h.elim) (fun r11 τ hp => ?_)
    obtain ⟨rfl, hp⟩ := hp
    refine gz_norm (st' := [.int r11]) (cells' := 0) (slots' := 0) rfl rfl rfl ?_
    refine gz_if_ne K 23 dX10_scale_14 (by decide) (fun h => ?_) (fun h => ?_)
    · have hp := hp.1 h
      refine gz_iload_n K dX10_scale_23 3 rfl ?_
      refine gz_sipush K (v := (-1000 : Int32)) dX10_scale_24 (by decide) ?_
      refine gz_sipush K (v := (1000 : Int32)) dX10_scale_27 (by decide) ?_
      refine gz_callS K hex (c_X10_in K.2.2.2.2.2 K.2.2.1 hp) cf_X10_in zq5_146 dX10_scale_30 rfl rfl (Nat.le_of_ble_eq_true rfl) ⟨Nat.le_of_ble_eq_true rfl, Nat.le_of_ble_eq_true rfl⟩ ⟨Nat.le_of_ble_eq_true rfl, Nat.le_of_ble_eq_true rfl⟩ (Nat.le_of_ble_eq_true rfl) (Nat.le_of_ble_eq_true rfl) (fun _ _ h => h.elim) (fun r30 τ hp => ?_)
      obtain ⟨rfl, hp⟩ := hp
      refine gz_norm (st' := [.int r30]) (cells' := 0) (slots' := 0) rfl rfl rfl ?_
      refine gz_if_ne K 42 dX10_scale_33 (by decide) (fun h => ?_) (fun h => ?_)
      · have hp := hp.1 h
        refine gz_iload_n K dX10_scale_42 1 rfl ?_
        refine gz_if_ne K 95 dX10_scale_43 (by decide) (fun h => ?_) (fun h => ?_)
        · have hp := hp.1 h
          refine gz_aload_n K dX10_scale_95 0 rfl ?_
          refine gz_get K (v := .ref (ad 51)) (by decide) (ce_43 _ _ _ _ _ _) rfl inz_X10 11 (by decide) zq5_42 rfl dX10_scale_96 ?_
          refine gz_iload_n K dX10_scale_99 2 rfl ?_
          obtain ⟨h, hp⟩ := hp
          refine gz_dald K (by decide) (ce_51 _ _ _ _ _ _) h dX10_scale_100 ?_
          refine gz_iload_n K dX10_scale_101 3 rfl ?_
          refine gz_i2d K dX10_scale_102 ?_
          obtain ⟨h, hp⟩ := hp
          refine gz_dmul K dX10_scale_103 h ?_
          refine gz_dstore K [(4, .double (FP.dmul (gz_d σ 51 (x2).toNatClampNeg) (FP.i2d x3))), (0, .ref (ad 43)), (1, .int x1), (2, .int x2), (3, .int x3)] dX10_scale_104 (by decide) rfl ?_
          refine gz_dload K dX10_scale_106 0 rfl ?_
          refine gz_ldc2d K zq6_151 dX10_scale_108 ?_
          refine gz_dcmp K dX10_scale_111 ?_
          refine gz_if_gt K 124 dX10_scale_112 (by decide) (fun h => ?_) (fun h => ?_)
          · have hp := hp.1 h
            refine gz_aload_n K dX10_scale_124 1 rfl ?_
            refine gz_iconst K (v := (3 : Int32)) dX10_scale_125 (by decide) ?_
            refine gz_callV K hex (c_X10_fails K.2.2.2.2.2 K.2.2.1 hp) cf_X10_fails zq5_149 (by decide) (ce_43 _ _ _ _ _ _) rfl dX10_scale_126 rfl rfl (Nat.le_of_ble_eq_true rfl) ⟨Nat.le_of_ble_eq_true rfl, Nat.le_of_ble_eq_true rfl⟩ ⟨Nat.le_of_ble_eq_true rfl, Nat.le_of_ble_eq_true rfl⟩ (Nat.le_of_ble_eq_true rfl) (Nat.le_of_ble_eq_true rfl) (fun _ _ h => h.elim) (fun r126 τ126 hp => ?_)
            refine gz_norm (st' := [.int r126]) (cells' := 0) (slots' := 0) rfl rfl rfl ?_
            exact gz_iret K hr hp dX10_scale_129 (Nat.le_of_ble_eq_true rfl) (Nat.le_of_ble_eq_true rfl)
          · have hp := hp.2 h
            refine gz_dload K dX10_scale_115 0 rfl ?_
            refine gz_ldc2d K zq6_152 dX10_scale_117 ?_
            refine gz_dcmp K dX10_scale_120 ?_
            refine gz_if_ge K 130 dX10_scale_121 (by decide) (fun h => ?_) (fun h => ?_)
            · have hp := hp.1 h
              refine gz_aload_n K dX10_scale_130 1 rfl ?_
              refine gz_get K (v := .ref (ad 51)) (by decide) (ce_43 _ _ _ _ _ _) rfl inz_X10 11 (by decide) zq5_42 rfl dX10_scale_131 ?_
              refine gz_iload_n K dX10_scale_134 3 rfl ?_
              refine gz_dload K dX10_scale_135 0 rfl ?_
              obtain ⟨h, hp⟩ := hp
              refine gz_dast K (x := (FP.dmul (gz_d σ 51 (x2).toNatClampNeg) (FP.i2d x3))) (by decide) (ce_51 ad ty) h dX10_scale_137 ?_
              refine gz_aload_n K dX10_scale_138 1 rfl ?_
              refine gz_dload K dX10_scale_139 0 rfl ?_
              refine gz_d2i K dX10_scale_141 ?_
              refine gz_callV K hex (c_X10_done K.2.2.2.2.2 K.2.2.1 hp) cf_X10_done zq5_153 (by decide) (ce_43 _ _ _ _ _ _) rfl dX10_scale_142 rfl rfl (Nat.le_of_ble_eq_true rfl) ⟨Nat.le_of_ble_eq_true rfl, Nat.le_of_ble_eq_true rfl⟩ ⟨Nat.le_of_ble_eq_true rfl, Nat.le_of_ble_eq_true rfl⟩ (Nat.le_of_ble_eq_true rfl) (Nat.le_of_ble_eq_true rfl) (fun _ _ h => h.elim) (fun r142 τ142 hp => ?_)
              refine gz_norm (st' := [.int r142]) (cells' := 0) (slots' := 0) rfl rfl rfl ?_
              exact gz_iret K hr hp dX10_scale_145 (Nat.le_of_ble_eq_true rfl) (Nat.le_of_ble_eq_true rfl)
            · have hp := hp.2 h
              refine gz_aload_n K dX10_scale_124 1 rfl ?_
              refine gz_iconst K (v := (3 : Int32)) dX10_scale_125 (by decide) ?_
              refine gz_callV K hex (c_X10_fails K.2.2.2.2.2 K.2.2.1 hp) cf_X10_fails zq5_149 (by decide) (ce_43 _ _ _ _ _ _) rfl dX10_scale_126 rfl rfl (Nat.le_of_ble_eq_true rfl) ⟨Nat.le_of_ble_eq_true rfl, Nat.le_of_ble_eq_true rfl⟩ ⟨Nat.le_of_ble_eq_true rfl, Nat.le_of_ble_eq_true rfl⟩ (Nat.le_of_ble_eq_true rfl) (Nat.le_of_ble_eq_true rfl) (fun _ _ h => h.elim) (fun r126 τ126 hp => ?_)
              refine gz_norm (st' := [.int r126]) (cells' := 0) (slots' := 0) rfl rfl rfl ?_
              exact gz_iret K hr hp dX10_scale_129 (Nat.le_of_ble_eq_true rfl) (Nat.le_of_ble_eq_true rfl)
        · have hp := hp.2 h
          refine gz_aload_n K dX10_scale_46 0 rfl ?_
          refine gz_get K (v := .ref (ad 50)) (by decide) (ce_43 _ _ _ _ _ _) rfl inz_X10 10 (by decide) zq5_41 rfl dX10_scale_47 ?_
          refine gz_iload_n K dX10_scale_50 2 rfl ?_
          obtain ⟨h, hp⟩ := hp
          refine gz_fald K (by decide) (ce_50 _ _ _ _ _ _) h dX10_scale_51 ?_
          refine gz_iload_n K dX10_scale_52 3 rfl ?_
          refine gz_i2f K dX10_scale_53 ?_
          obtain ⟨h, hp⟩ := hp
          refine gz_fmul K dX10_scale_54 h ?_
          refine gz_fstore K [(4, .float (FP.fmul (gz_f σ 50 (x2).toNatClampNeg) (FP.i2f x3))), (0, .ref (ad 43)), (1, .int x1), (2, .int x2), (3, .int x3)] dX10_scale_55 (by decide) rfl ?_
          refine gz_fload K dX10_scale_57 0 rfl ?_
          refine gz_ldcf K zq6_149 dX10_scale_59 ?_
          refine gz_fcmp K dX10_scale_61 ?_
          refine gz_if_gt K 73 dX10_scale_62 (by decide) (fun h => ?_) (fun h => ?_)
          · have hp := hp.1 h
            refine gz_aload_n K dX10_scale_73 1 rfl ?_
            refine gz_iconst K (v := (3 : Int32)) dX10_scale_74 (by decide) ?_
            refine gz_callV K hex (c_X10_fails K.2.2.2.2.2 K.2.2.1 hp) cf_X10_fails zq5_149 (by decide) (ce_43 _ _ _ _ _ _) rfl dX10_scale_75 rfl rfl (Nat.le_of_ble_eq_true rfl) ⟨Nat.le_of_ble_eq_true rfl, Nat.le_of_ble_eq_true rfl⟩ ⟨Nat.le_of_ble_eq_true rfl, Nat.le_of_ble_eq_true rfl⟩ (Nat.le_of_ble_eq_true rfl) (Nat.le_of_ble_eq_true rfl) (fun _ _ h => h.elim) (fun r75 τ75 hp => ?_)
            refine gz_norm (st' := [.int r75]) (cells' := 0) (slots' := 0) rfl rfl rfl ?_
            exact gz_iret K hr hp dX10_scale_78 (Nat.le_of_ble_eq_true rfl) (Nat.le_of_ble_eq_true rfl)
          · have hp := hp.2 h
            refine gz_fload K dX10_scale_65 0 rfl ?_
            refine gz_ldcf K zq6_150 dX10_scale_67 ?_
            refine gz_fcmp K dX10_scale_69 ?_
            refine gz_if_ge K 79 dX10_scale_70 (by decide) (fun h => ?_) (fun h => ?_)
            · have hp := hp.1 h
              refine gz_aload_n K dX10_scale_79 1 rfl ?_
              refine gz_get K (v := .ref (ad 50)) (by decide) (ce_43 _ _ _ _ _ _) rfl inz_X10 10 (by decide) zq5_41 rfl dX10_scale_80 ?_
              refine gz_iload_n K dX10_scale_83 3 rfl ?_
              refine gz_fload K dX10_scale_84 0 rfl ?_
              obtain ⟨h, hp⟩ := hp
              refine gz_fast K (x := (FP.fmul (gz_f σ 50 (x2).toNatClampNeg) (FP.i2f x3))) (by decide) (ce_50 ad ty) h dX10_scale_86 ?_
              refine gz_aload_n K dX10_scale_87 1 rfl ?_
              refine gz_fload K dX10_scale_88 0 rfl ?_
              refine gz_f2i K dX10_scale_90 ?_
              refine gz_callV K hex (c_X10_done K.2.2.2.2.2 K.2.2.1 hp) cf_X10_done zq5_153 (by decide) (ce_43 _ _ _ _ _ _) rfl dX10_scale_91 rfl rfl (Nat.le_of_ble_eq_true rfl) ⟨Nat.le_of_ble_eq_true rfl, Nat.le_of_ble_eq_true rfl⟩ ⟨Nat.le_of_ble_eq_true rfl, Nat.le_of_ble_eq_true rfl⟩ (Nat.le_of_ble_eq_true rfl) (Nat.le_of_ble_eq_true rfl) (fun _ _ h => h.elim) (fun r91 τ91 hp => ?_)
              refine gz_norm (st' := [.int r91]) (cells' := 0) (slots' := 0) rfl rfl rfl ?_
              exact gz_iret K hr hp dX10_scale_94 (Nat.le_of_ble_eq_true rfl) (Nat.le_of_ble_eq_true rfl)
            · have hp := hp.2 h
              refine gz_aload_n K dX10_scale_73 1 rfl ?_
              refine gz_iconst K (v := (3 : Int32)) dX10_scale_74 (by decide) ?_
              refine gz_callV K hex (c_X10_fails K.2.2.2.2.2 K.2.2.1 hp) cf_X10_fails zq5_149 (by decide) (ce_43 _ _ _ _ _ _) rfl dX10_scale_75 rfl rfl (Nat.le_of_ble_eq_true rfl) ⟨Nat.le_of_ble_eq_true rfl, Nat.le_of_ble_eq_true rfl⟩ ⟨Nat.le_of_ble_eq_true rfl, Nat.le_of_ble_eq_true rfl⟩ (Nat.le_of_ble_eq_true rfl) (Nat.le_of_ble_eq_true rfl) (fun _ _ h => h.elim) (fun r75 τ75 hp => ?_)
              refine gz_norm (st' := [.int r75]) (cells' := 0) (slots' := 0) rfl rfl rfl ?_
              exact gz_iret K hr hp dX10_scale_78 (Nat.le_of_ble_eq_true rfl) (Nat.le_of_ble_eq_true rfl)
      · have hp := hp.2 h
        refine gz_aload_n K dX10_scale_36 0 rfl ?_
        refine gz_iconst K (v := (2 : Int32)) dX10_scale_37 (by decide) ?_
        refine gz_callV K hex (c_X10_fails K.2.2.2.2.2 K.2.2.1 hp) cf_X10_fails zq5_149 (by decide) (ce_43 _ _ _ _ _ _) rfl dX10_scale_38 rfl rfl (Nat.le_of_ble_eq_true rfl) ⟨Nat.le_of_ble_eq_true rfl, Nat.le_of_ble_eq_true rfl⟩ ⟨Nat.le_of_ble_eq_true rfl, Nat.le_of_ble_eq_true rfl⟩ (Nat.le_of_ble_eq_true rfl) (Nat.le_of_ble_eq_true rfl) (fun _ _ h => h.elim) (fun r38 τ38 hp => ?_)
        refine gz_norm (st' := [.int r38]) (cells' := 0) (slots' := 0) rfl rfl rfl ?_
        exact gz_iret K hr hp dX10_scale_41 (Nat.le_of_ble_eq_true rfl) (Nat.le_of_ble_eq_true rfl)
    · have hp := hp.2 h
      refine gz_aload_n K dX10_scale_17 0 rfl ?_
      refine gz_iconst K (v := (1 : Int32)) dX10_scale_18 (by decide) ?_
      refine gz_callV K hex (c_X10_fails K.2.2.2.2.2 K.2.2.1 hp) cf_X10_fails zq5_149 (by decide) (ce_43 _ _ _ _ _ _) rfl dX10_scale_19 rfl rfl (Nat.le_of_ble_eq_true rfl) ⟨Nat.le_of_ble_eq_true rfl, Nat.le_of_ble_eq_true rfl⟩ ⟨Nat.le_of_ble_eq_true rfl, Nat.le_of_ble_eq_true rfl⟩ (Nat.le_of_ble_eq_true rfl) (Nat.le_of_ble_eq_true rfl) (fun _ _ h => h.elim) (fun r19 τ19 hp => ?_)
      refine gz_norm (st' := [.int r19]) (cells' := 0) (slots' := 0) rfl rfl rfl ?_
      exact gz_iret K hr hp dX10_scale_22 (Nat.le_of_ble_eq_true rfl) (Nat.le_of_ble_eq_true rfl)
set_option maxRecDepth 100000 in
set_option maxHeartbeats 4000000 in
theorem c_X10_remainder {l : Launch} {D : va_G} {ad : Nat → Nat} {ty : Nat → ClassId} (hl : l.stackTraces = false) (hj : ∀ i j, i < 68 → j < 68 → ad i = ad j → i = j) {σ : Dz} {x1 : Int32} {x2 : Int32} {x3 : Int32} {post : UInt64 → Dz → Prop} (hp : P_X10_remainder σ x1 x2 x3 post) : Mz l D ad ty yX10_remainder cX10_remainder 4 (some .double) r_X10_remainder nD0 σ [.ref (ad 43), .int x1, .int x2, .int x3] post (fun _ _ => False) := by
  refine mz_of (by decide) hl hj (Nat.le_of_ble_eq_true rfl) ?_
  intro p e s m args below meth c K hex hr
  unfold P_X10_remainder at hp
  have bb_31 : ∀ (σ : Dz) (y1 : Int32) (y2 : Int32) (y3 : Int32) (z0 : Int32) , B_X10_remainder_31 post  σ y1 y2 y3 z0 → Gz p l e r_X10_remainder s m args below meth c D ad ty 4 0 0 (Ez below D ad ty nD0 post (fun _ _ => False) args s 0 0) σ 31 [(0, .ref (ad 43)), (1, .int y1), (2, .int y2), (3, .int y3)] [.int z0, .ref (ad 43)] := by
    intro σ y1 y2 y3 z0 hp
    unfold B_X10_remainder_31 at hp
    refine gz_put K (x := z0) (by decide) (ce_43 _ _ _ _ _ _) rfl inz_X10 tyX10 tyX10_ok nmX10 0 (by decide) zq5_31 rfl (tyX10_ok _ (by decide)) rfl rfl (Nat.le_of_ble_eq_true rfl) peX10_0 dX10_remainder_31 ?_
    refine gz_aload_n K dX10_remainder_34 0 rfl ?_
    refine gz_get K (v := .int (gz_i (sz_i σ 43 0 z0) 43 0)) (by decide) (ce_43 _ _ _ _ _ _) rfl inz_X10 0 (by decide) zq5_31 rfl dX10_remainder_35 ?_
    refine gz_if_eq K 43 dX10_remainder_38 (by decide) (fun h => ?_) (fun h => ?_)
    · have hp := hp.1 h
      refine gz_iload_n K dX10_remainder_43 1 rfl ?_
      refine gz_if_ne K 60 dX10_remainder_44 (by decide) (fun h => ?_) (fun h => ?_)
      · have hp := hp.1 h
        refine gz_aload_n K dX10_remainder_60 0 rfl ?_
        refine gz_get K (v := .ref (ad 51)) (by decide) (ce_43 _ _ _ _ _ _) rfl inz_X10 11 (by decide) zq5_42 rfl dX10_remainder_61 ?_
        refine gz_iload_n K dX10_remainder_64 2 rfl ?_
        obtain ⟨h, hp⟩ := hp
        refine gz_dald K (by decide) (ce_51 _ _ _ _ _ _) h dX10_remainder_65 ?_
        refine gz_iload_n K dX10_remainder_66 3 rfl ?_
        refine gz_i2d K dX10_remainder_67 ?_
        obtain ⟨h, hp⟩ := hp
        refine gz_drem K dX10_remainder_68 h ?_
        exact gz_dret K hr hp dX10_remainder_69 (Nat.le_of_ble_eq_true rfl) (Nat.le_of_ble_eq_true rfl)
      · have hp := hp.2 h
        refine gz_aload_n K dX10_remainder_47 0 rfl ?_
        refine gz_get K (v := .ref (ad 50)) (by decide) (ce_43 _ _ _ _ _ _) rfl inz_X10 10 (by decide) zq5_41 rfl dX10_remainder_48 ?_
        refine gz_iload_n K dX10_remainder_51 2 rfl ?_
        obtain ⟨h, hp⟩ := hp
        refine gz_fald K (by decide) (ce_50 _ _ _ _ _ _) h dX10_remainder_52 ?_
        refine gz_iload_n K dX10_remainder_53 3 rfl ?_
        refine gz_i2f K dX10_remainder_54 ?_
        obtain ⟨h, hp⟩ := hp
        refine gz_frem K dX10_remainder_55 h ?_
        obtain ⟨h, hp⟩ := hp
        refine gz_f2d K dX10_remainder_56 h ?_
        refine gz_goto K 69 dX10_remainder_57 (by decide) ?_
        exact gz_dret K hr hp dX10_remainder_69 (Nat.le_of_ble_eq_true rfl) (Nat.le_of_ble_eq_true rfl)
    · have hp := hp.2 h
      refine gz_dconst0 K dX10_remainder_41 ?_
      exact gz_dret K hr hp dX10_remainder_42 (Nat.le_of_ble_eq_true rfl) (Nat.le_of_ble_eq_true rfl)
  have bb_18 : ∀ (σ : Dz) (y1 : Int32) (y2 : Int32) (y3 : Int32) , B_X10_remainder_18 post  σ y1 y2 y3 → Gz p l e r_X10_remainder s m args below meth c D ad ty 4 0 0 (Ez below D ad ty nD0 post (fun _ _ => False) args s 0 0) σ 18 [(0, .ref (ad 43)), (1, .int y1), (2, .int y2), (3, .int y3)] [.ref (ad 43)] := by
    intro σ y1 y2 y3 hp
    unfold B_X10_remainder_18 at hp
    refine gz_iconst K (v := (1 : Int32)) dX10_remainder_18 (by decide) ?_
    refine gz_goto K 31 dX10_remainder_19 (by decide) ?_
    exact bb_31 σ y1 y2 y3 (1 : Int32)  hp
  show Gz p l e r_X10_remainder s m args below meth c D ad ty 4 0 0 (Ez below D ad ty nD0 post (fun _ _ => False) args s 0 0) σ 0 [(0, .ref (ad 43)), (1, .int x1), (2, .int x2), (3, .int x3)] []
  refine gz_aload_n K dX10_remainder_0 0 rfl ?_
  refine gz_iload_n K dX10_remainder_1 1 rfl ?_
  refine gz_callS K hex (c_X10_isRow K.2.2.2.2.2 K.2.2.1 hp) cf_X10_isRow zq6_142 dX10_remainder_2 rfl rfl (Nat.le_of_ble_eq_true rfl) ⟨Nat.le_of_ble_eq_true rfl, Nat.le_of_ble_eq_true rfl⟩ ⟨Nat.le_of_ble_eq_true rfl, Nat.le_of_ble_eq_true rfl⟩ (Nat.le_of_ble_eq_true rfl) (Nat.le_of_ble_eq_true rfl) (fun _ _ h => h.elim) (fun r2 τ hp => ?_)
  obtain ⟨rfl, hp⟩ := hp
  refine gz_norm (st' := [.int r2, .ref (ad 43)]) (cells' := 0) (slots' := 0) rfl rfl rfl ?_
  refine gz_if_eq K 18 dX10_remainder_5 (by decide) (fun h => ?_) (fun h => ?_)
  · have hp := hp.1 h
    exact bb_18 σ x1 x2 x3  hp
  · have hp := hp.2 h
    refine gz_iload_n K dX10_remainder_8 2 rfl ?_
    refine gz_iconst K (v := (0 : Int32)) dX10_remainder_9 (by decide) ?_
    refine gz_bipush K (v := (23 : Int32)) dX10_remainder_10 (by decide) ?_
    refine gz_callS K hex (c_X10_in K.2.2.2.2.2 K.2.2.1 hp) cf_X10_in zq5_146 dX10_remainder_12 rfl rfl (Nat.le_of_ble_eq_true rfl) ⟨Nat.le_of_ble_eq_true rfl, Nat.le_of_ble_eq_true rfl⟩ ⟨Nat.le_of_ble_eq_true rfl, Nat.le_of_ble_eq_true rfl⟩ (Nat.le_of_ble_eq_true rfl) (Nat.le_of_ble_eq_true rfl) (fun _ _ h => h.elim) (fun r12 τ hp => ?_)
    obtain ⟨rfl, hp⟩ := hp
    refine gz_norm (st' := [.int r12, .ref (ad 43)]) (cells' := 0) (slots' := 0) rfl rfl rfl ?_
    refine gz_if_ne K 22 dX10_remainder_15 (by decide) (fun h => ?_) (fun h => ?_)
    · have hp := hp.1 h
      refine gz_iload_n K dX10_remainder_22 3 rfl ?_
      refine gz_if_ne K 30 dX10_remainder_23 (by decide) (fun h => ?_) (fun h => ?_)
      · have hp := hp.1 h
        refine gz_iconst K (v := (0 : Int32)) dX10_remainder_30 (by decide) ?_
        exact bb_31 σ x1 x2 x3 (0 : Int32)  hp
      · have hp := hp.2 h
        refine gz_iconst K (v := (2 : Int32)) dX10_remainder_26 (by decide) ?_
        refine gz_goto K 31 dX10_remainder_27 (by decide) ?_
        exact bb_31 σ x1 x2 x3 (2 : Int32)  hp
    · have hp := hp.2 h
      exact bb_18 σ x1 x2 x3  hp
set_option maxRecDepth 100000 in
set_option maxHeartbeats 4000000 in
theorem c_X10_copy {l : Launch} {D : va_G} {ad : Nat → Nat} {ty : Nat → ClassId} (hl : l.stackTraces = false) (hj : ∀ i j, i < 68 → j < 68 → ad i = ad j → i = j) {σ : Dz} {a0 : Nat} {n0 : Nat} {a1 : Nat} {n1 : Nat} (h0 : isA a0 n0) (h1 : isA a1 n1) {post : Dz → Prop} (hp : P_X10_copy σ a0 n0 a1 n1 post) : Mz l D ad ty yX10_copy cX10_copy 3 none r_X10_copy nV0 σ [.ref (ad a0), .ref (ad a1)] (fun _ τ => post τ) (fun _ _ => False) := by
  refine mz_of (by decide) hl hj (Nat.le_of_ble_eq_true rfl) ?_
  intro p e s m args below meth c K hex hr
  unfold P_X10_copy at hp
  show Gz p l e r_X10_copy s m args below meth c D ad ty 3 0 0 (Ez below D ad ty nV0 (fun _ τ => post τ) (fun _ _ => False) args s 0 0) σ 0 [(0, .ref (ad a0)), (1, .ref (ad a1))] []
  refine gz_iconst K (v := (0 : Int32)) dX10_copy_0 (by decide) ?_
  refine gz_istore_n K [(2, .int (0 : Int32)), (0, .ref (ad a0)), (1, .ref (ad a1))] dX10_copy_1 (by decide) rfl ?_
  refine gz_sub [1, 2, 0] rfl ?_
  have ll_2 : ∀ (n_2 : Nat) (σ : Dz) (y2 : Int32) , L_X10_copy_2 a0 n0 a1 n1 post  n_2 σ y2 → Gz p l e r_X10_copy s m args below meth c D ad ty 3 0 0 (Ez below D ad ty nV0 (fun _ τ => post τ) (fun _ _ => False) args s 0 0) σ 2 [(0, .ref (ad a0)), (1, .ref (ad a1)), (2, .int y2)] [] := by
    intro n_2; induction n_2 with
    | zero => intro σ y2 hp; exact False.elim hp
    | succ n_2 ih_2 =>
      intro σ y2 hp
      have hp : B_X10_copy_2 a0 n0 a1 n1 post  (L_X10_copy_2 a0 n0 a1 n1 post  n_2) σ y2 := hp
      unfold B_X10_copy_2 at hp
      refine gz_iload_n K dX10_copy_2 2 rfl ?_
      refine gz_aload_n K dX10_copy_3 0 rfl ?_
      refine gz_alen K (v := (Int32.ofNat n0)) 3 rfl h0.1 (h0.2 _ _ _ _ _ _) rfl dX10_copy_4 ?_
      refine gz_icmp_ge K 20 dX10_copy_5 (by decide) (fun h => ?_) (fun h => ?_)
      · have hp := hp.1 h
        exact gz_vret K hr hp dX10_copy_20 (Nat.le_of_ble_eq_true rfl) (Nat.le_of_ble_eq_true rfl)
      · have hp := hp.2 h
        refine gz_aload_n K dX10_copy_8 1 rfl ?_
        refine gz_iload_n K dX10_copy_9 2 rfl ?_
        refine gz_aload_n K dX10_copy_10 0 rfl ?_
        refine gz_iload_n K dX10_copy_11 2 rfl ?_
        obtain ⟨h, hp⟩ := hp
        refine gz_iald K h0.1 (h0.2 _ _ _ _ _ _) h dX10_copy_12 ?_
        obtain ⟨h, hp⟩ := hp
        refine gz_iast K (x := (gz_i σ a0 (y2).toNatClampNeg)) h1.1 (h1.2 ad ty) h dX10_copy_13 ?_
        refine gz_iinc K (v := (y2 + 1)) [(2, .int (y2 + 1)), (0, .ref (ad a0)), (1, .ref (ad a1))] dX10_copy_14 2 rfl (by first | rfl | decide) (by decide) rfl ?_
        refine gz_goto K 2 dX10_copy_17 (by decide) ?_
        refine gz_sub [1, 2, 0] rfl ?_
        exact ih_2 (sz_i σ a1 (y2).toNatClampNeg (gz_i σ a0 (y2).toNatClampNeg)) (y2 + 1)  hp
  obtain ⟨n, hp⟩ := hp
  exact ll_2 n σ (0 : Int32)  hp
set_option maxRecDepth 100000 in
set_option maxHeartbeats 4000000 in
theorem c_X10_snapshot {l : Launch} {D : va_G} {ad : Nat → Nat} {ty : Nat → ClassId} (hl : l.stackTraces = false) (hj : ∀ i j, i < 68 → j < 68 → ad i = ad j → i = j) {σ : Dz} {post : Dz → Prop} (hp : P_X10_snapshot σ post) : Mz l D ad ty yX10_snapshot cX10_snapshot 2 none r_X10_snapshot nV0 σ [.ref (ad 43)] (fun _ τ => post τ) (fun _ _ => False) := by
  refine mz_of (by decide) hl hj (Nat.le_of_ble_eq_true rfl) ?_
  intro p e s m args below meth c K hex hr
  unfold P_X10_snapshot at hp
  show Gz p l e r_X10_snapshot s m args below meth c D ad ty 2 0 0 (Ez below D ad ty nV0 (fun _ τ => post τ) (fun _ _ => False) args s 0 0) σ 0 [(0, .ref (ad 43))] []
  refine gz_aload_n K dX10_snapshot_0 0 rfl ?_
  refine gz_iconst K (v := (0 : Int32)) dX10_snapshot_1 (by decide) ?_
  refine gz_put K (x := (0 : Int32)) (by decide) (ce_43 _ _ _ _ _ _) rfl inz_X10 tyX10 tyX10_ok nmX10 0 (by decide) zq5_31 rfl (tyX10_ok _ (by decide)) rfl rfl (Nat.le_of_ble_eq_true rfl) peX10_0 dX10_snapshot_2 ?_
  refine gz_aload_n K dX10_snapshot_5 0 rfl ?_
  refine gz_iconst K (v := (1 : Int32)) dX10_snapshot_6 (by decide) ?_
  refine gz_put K (x := (1 : Int32)) (by decide) (ce_43 _ _ _ _ _ _) rfl inz_X10 tyX10 tyX10_ok nmX10 12 (by decide) zq5_43 rfl (tyX10_ok _ (by decide)) rfl rfl (Nat.le_of_ble_eq_true rfl) peX10_12 dX10_snapshot_7 ?_
  refine gz_aload_n K dX10_snapshot_10 0 rfl ?_
  refine gz_get K (v := .ref (ad 44)) (by decide) (ce_43 _ _ _ _ _ _) rfl inz_X10 2 (by decide) zq5_33 rfl dX10_snapshot_11 ?_
  refine gz_aload_n K dX10_snapshot_14 0 rfl ?_
  refine gz_get K (v := .ref (ad 52)) (by decide) (ce_43 _ _ _ _ _ _) rfl inz_X10 13 (by decide) zq5_44 rfl dX10_snapshot_15 ?_
  refine gz_callS K hex (c_X10_copy K.2.2.2.2.2 K.2.2.1 ⟨by decide, fun ad ty => ce_44 ad ty⟩ ⟨by decide, fun ad ty => ce_52 ad ty⟩ hp) cf_X10_copy zq6_161 dX10_snapshot_18 rfl rfl (Nat.le_of_ble_eq_true rfl) ⟨Nat.le_of_ble_eq_true rfl, Nat.le_of_ble_eq_true rfl⟩ ⟨Nat.le_of_ble_eq_true rfl, Nat.le_of_ble_eq_true rfl⟩ (Nat.le_of_ble_eq_true rfl) (Nat.le_of_ble_eq_true rfl) (fun _ _ h => h.elim) (fun _ τ18 hp => ?_)
  refine gz_norm (st' := []) (cells' := 0) (slots' := 0) rfl rfl rfl ?_
  refine gz_aload_n K dX10_snapshot_21 0 rfl ?_
  refine gz_get K (v := .ref (ad 46)) (by decide) (ce_43 _ _ _ _ _ _) rfl inz_X10 4 (by decide) zq5_35 rfl dX10_snapshot_22 ?_
  refine gz_aload_n K dX10_snapshot_25 0 rfl ?_
  refine gz_get K (v := .ref (ad 54)) (by decide) (ce_43 _ _ _ _ _ _) rfl inz_X10 15 (by decide) zq5_46 rfl dX10_snapshot_26 ?_
  refine gz_callS K hex (c_X10_copy K.2.2.2.2.2 K.2.2.1 ⟨by decide, fun ad ty => ce_46 ad ty⟩ ⟨by decide, fun ad ty => ce_54 ad ty⟩ hp) cf_X10_copy zq6_161 dX10_snapshot_29 rfl rfl (Nat.le_of_ble_eq_true rfl) ⟨Nat.le_of_ble_eq_true rfl, Nat.le_of_ble_eq_true rfl⟩ ⟨Nat.le_of_ble_eq_true rfl, Nat.le_of_ble_eq_true rfl⟩ (Nat.le_of_ble_eq_true rfl) (Nat.le_of_ble_eq_true rfl) (fun _ _ h => h.elim) (fun _ τ29 hp => ?_)
  refine gz_norm (st' := []) (cells' := 0) (slots' := 0) rfl rfl rfl ?_
  refine gz_aload_n K dX10_snapshot_32 0 rfl ?_
  refine gz_get K (v := .ref (ad 47)) (by decide) (ce_43 _ _ _ _ _ _) rfl inz_X10 5 (by decide) zq5_36 rfl dX10_snapshot_33 ?_
  refine gz_aload_n K dX10_snapshot_36 0 rfl ?_
  refine gz_get K (v := .ref (ad 55)) (by decide) (ce_43 _ _ _ _ _ _) rfl inz_X10 16 (by decide) zq5_47 rfl dX10_snapshot_37 ?_
  refine gz_callS K hex (c_X10_copy K.2.2.2.2.2 K.2.2.1 ⟨by decide, fun ad ty => ce_47 ad ty⟩ ⟨by decide, fun ad ty => ce_55 ad ty⟩ hp) cf_X10_copy zq6_161 dX10_snapshot_40 rfl rfl (Nat.le_of_ble_eq_true rfl) ⟨Nat.le_of_ble_eq_true rfl, Nat.le_of_ble_eq_true rfl⟩ ⟨Nat.le_of_ble_eq_true rfl, Nat.le_of_ble_eq_true rfl⟩ (Nat.le_of_ble_eq_true rfl) (Nat.le_of_ble_eq_true rfl) (fun _ _ h => h.elim) (fun _ τ40 hp => ?_)
  refine gz_norm (st' := []) (cells' := 0) (slots' := 0) rfl rfl rfl ?_
  refine gz_aload_n K dX10_snapshot_43 0 rfl ?_
  refine gz_get K (v := .ref (ad 48)) (by decide) (ce_43 _ _ _ _ _ _) rfl inz_X10 6 (by decide) zq5_37 rfl dX10_snapshot_44 ?_
  refine gz_aload_n K dX10_snapshot_47 0 rfl ?_
  refine gz_get K (v := .ref (ad 56)) (by decide) (ce_43 _ _ _ _ _ _) rfl inz_X10 17 (by decide) zq5_48 rfl dX10_snapshot_48 ?_
  refine gz_callS K hex (c_X10_copy K.2.2.2.2.2 K.2.2.1 ⟨by decide, fun ad ty => ce_48 ad ty⟩ ⟨by decide, fun ad ty => ce_56 ad ty⟩ hp) cf_X10_copy zq6_161 dX10_snapshot_51 rfl rfl (Nat.le_of_ble_eq_true rfl) ⟨Nat.le_of_ble_eq_true rfl, Nat.le_of_ble_eq_true rfl⟩ ⟨Nat.le_of_ble_eq_true rfl, Nat.le_of_ble_eq_true rfl⟩ (Nat.le_of_ble_eq_true rfl) (Nat.le_of_ble_eq_true rfl) (fun _ _ h => h.elim) (fun _ τ51 hp => ?_)
  refine gz_norm (st' := []) (cells' := 0) (slots' := 0) rfl rfl rfl ?_
  refine gz_iconst K (v := (0 : Int32)) dX10_snapshot_54 (by decide) ?_
  refine gz_istore_n K [(1, .int (0 : Int32)), (0, .ref (ad 43))] dX10_snapshot_55 (by decide) rfl ?_
  refine gz_sub [1, 0] rfl ?_
  have ll_56 : ∀ (n_56 : Nat) (σ : Dz) (y1 : Int32) , L_X10_snapshot_56 post  n_56 σ y1 → Gz p l e r_X10_snapshot s m args below meth c D ad ty 2 0 0 (Ez below D ad ty nV0 (fun _ τ => post τ) (fun _ _ => False) args s 0 0) σ 56 [(0, .ref (ad 43)), (1, .int y1)] [] := by
    intro n_56; induction n_56 with
    | zero => intro σ y1 hp; exact False.elim hp
    | succ n_56 ih_56 =>
      intro σ y1 hp
      have hp : B_X10_snapshot_56 post  (L_X10_snapshot_56 post  n_56) σ y1 := hp
      unfold B_X10_snapshot_56 at hp
      refine gz_iload_n K dX10_snapshot_56 1 rfl ?_
      refine gz_iconst K (v := (5 : Int32)) dX10_snapshot_57 (by decide) ?_
      refine gz_icmp_ge K 79 dX10_snapshot_58 (by decide) (fun h => ?_) (fun h => ?_)
      · have hp := hp.1 h
        exact gz_vret K hr hp dX10_snapshot_79 (Nat.le_of_ble_eq_true rfl) (Nat.le_of_ble_eq_true rfl)
      · have hp := hp.2 h
        refine gz_aload_n K dX10_snapshot_61 0 rfl ?_
        refine gz_get K (v := .ref (ad 53)) (by decide) (ce_43 _ _ _ _ _ _) rfl inz_X10 14 (by decide) zq5_45 rfl dX10_snapshot_62 ?_
        refine gz_iload_n K dX10_snapshot_65 1 rfl ?_
        refine gz_aload_n K dX10_snapshot_66 0 rfl ?_
        refine gz_get K (v := .ref (ad 45)) (by decide) (ce_43 _ _ _ _ _ _) rfl inz_X10 3 (by decide) zq5_34 rfl dX10_snapshot_67 ?_
        refine gz_iload_n K dX10_snapshot_70 1 rfl ?_
        obtain ⟨h, hp⟩ := hp
        refine gz_zald K (by decide) (ce_45 _ _ _ _ _ _) h dX10_snapshot_71 ?_
        obtain ⟨hb72, hp⟩ := hp
        obtain ⟨h, hp⟩ := hp
        refine gz_zastB K (x := (gz_i σ 45 (y1).toNatClampNeg)) (by decide) (ce_53 ad ty) h hb72 dX10_snapshot_72 ?_
        refine gz_iinc K (v := (y1 + 1)) [(1, .int (y1 + 1)), (0, .ref (ad 43))] dX10_snapshot_73 1 rfl (by first | rfl | decide) (by decide) rfl ?_
        refine gz_goto K 56 dX10_snapshot_76 (by decide) ?_
        refine gz_sub [1, 0] rfl ?_
        exact ih_56 (sz_i σ 53 (y1).toNatClampNeg (gz_i σ 45 (y1).toNatClampNeg)) (y1 + 1)  hp
  obtain ⟨n, hp⟩ := hp
  exact ll_56 n τ51 (0 : Int32)  hp
set_option maxRecDepth 100000 in
set_option maxHeartbeats 4000000 in
theorem c_X10_restore {l : Launch} {D : va_G} {ad : Nat → Nat} {ty : Nat → ClassId} (hl : l.stackTraces = false) (hj : ∀ i j, i < 68 → j < 68 → ad i = ad j → i = j) {σ : Dz} {post : Dz → Prop} (hp : P_X10_restore σ post) : Mz l D ad ty yX10_restore cX10_restore 2 none r_X10_restore nV0 σ [.ref (ad 43)] (fun _ τ => post τ) (fun _ _ => False) := by
  refine mz_of (by decide) hl hj (Nat.le_of_ble_eq_true rfl) ?_
  intro p e s m args below meth c K hex hr
  unfold P_X10_restore at hp
  have bb_13 : ∀ (σ : Dz) (z0 : Int32) , B_X10_restore_13 post  σ z0 → Gz p l e r_X10_restore s m args below meth c D ad ty 2 0 0 (Ez below D ad ty nV0 (fun _ τ => post τ) (fun _ _ => False) args s 0 0) σ 13 [(0, .ref (ad 43))] [.int z0, .ref (ad 43)] := by
    intro σ z0 hp
    unfold B_X10_restore_13 at hp
    refine gz_put K (x := z0) (by decide) (ce_43 _ _ _ _ _ _) rfl inz_X10 tyX10 tyX10_ok nmX10 0 (by decide) zq5_31 rfl (tyX10_ok _ (by decide)) rfl rfl (Nat.le_of_ble_eq_true rfl) peX10_0 dX10_restore_13 ?_
    refine gz_aload_n K dX10_restore_16 0 rfl ?_
    refine gz_get K (v := .int (gz_i (sz_i σ 43 0 z0) 43 0)) (by decide) (ce_43 _ _ _ _ _ _) rfl inz_X10 0 (by decide) zq5_31 rfl dX10_restore_17 ?_
    refine gz_if_eq K 24 dX10_restore_20 (by decide) (fun h => ?_) (fun h => ?_)
    · have hp := hp.1 h
      refine gz_aload_n K dX10_restore_24 0 rfl ?_
      refine gz_get K (v := .ref (ad 52)) (by decide) (ce_43 _ _ _ _ _ _) rfl inz_X10 13 (by decide) zq5_44 rfl dX10_restore_25 ?_
      refine gz_aload_n K dX10_restore_28 0 rfl ?_
      refine gz_get K (v := .ref (ad 44)) (by decide) (ce_43 _ _ _ _ _ _) rfl inz_X10 2 (by decide) zq5_33 rfl dX10_restore_29 ?_
      refine gz_callS K hex (c_X10_copy K.2.2.2.2.2 K.2.2.1 ⟨by decide, fun ad ty => ce_52 ad ty⟩ ⟨by decide, fun ad ty => ce_44 ad ty⟩ hp) cf_X10_copy zq6_161 dX10_restore_32 rfl rfl (Nat.le_of_ble_eq_true rfl) ⟨Nat.le_of_ble_eq_true rfl, Nat.le_of_ble_eq_true rfl⟩ ⟨Nat.le_of_ble_eq_true rfl, Nat.le_of_ble_eq_true rfl⟩ (Nat.le_of_ble_eq_true rfl) (Nat.le_of_ble_eq_true rfl) (fun _ _ h => h.elim) (fun _ τ32 hp => ?_)
      refine gz_norm (st' := []) (cells' := 0) (slots' := 0) rfl rfl rfl ?_
      refine gz_aload_n K dX10_restore_35 0 rfl ?_
      refine gz_get K (v := .ref (ad 54)) (by decide) (ce_43 _ _ _ _ _ _) rfl inz_X10 15 (by decide) zq5_46 rfl dX10_restore_36 ?_
      refine gz_aload_n K dX10_restore_39 0 rfl ?_
      refine gz_get K (v := .ref (ad 46)) (by decide) (ce_43 _ _ _ _ _ _) rfl inz_X10 4 (by decide) zq5_35 rfl dX10_restore_40 ?_
      refine gz_callS K hex (c_X10_copy K.2.2.2.2.2 K.2.2.1 ⟨by decide, fun ad ty => ce_54 ad ty⟩ ⟨by decide, fun ad ty => ce_46 ad ty⟩ hp) cf_X10_copy zq6_161 dX10_restore_43 rfl rfl (Nat.le_of_ble_eq_true rfl) ⟨Nat.le_of_ble_eq_true rfl, Nat.le_of_ble_eq_true rfl⟩ ⟨Nat.le_of_ble_eq_true rfl, Nat.le_of_ble_eq_true rfl⟩ (Nat.le_of_ble_eq_true rfl) (Nat.le_of_ble_eq_true rfl) (fun _ _ h => h.elim) (fun _ τ43 hp => ?_)
      refine gz_norm (st' := []) (cells' := 0) (slots' := 0) rfl rfl rfl ?_
      refine gz_aload_n K dX10_restore_46 0 rfl ?_
      refine gz_get K (v := .ref (ad 55)) (by decide) (ce_43 _ _ _ _ _ _) rfl inz_X10 16 (by decide) zq5_47 rfl dX10_restore_47 ?_
      refine gz_aload_n K dX10_restore_50 0 rfl ?_
      refine gz_get K (v := .ref (ad 47)) (by decide) (ce_43 _ _ _ _ _ _) rfl inz_X10 5 (by decide) zq5_36 rfl dX10_restore_51 ?_
      refine gz_callS K hex (c_X10_copy K.2.2.2.2.2 K.2.2.1 ⟨by decide, fun ad ty => ce_55 ad ty⟩ ⟨by decide, fun ad ty => ce_47 ad ty⟩ hp) cf_X10_copy zq6_161 dX10_restore_54 rfl rfl (Nat.le_of_ble_eq_true rfl) ⟨Nat.le_of_ble_eq_true rfl, Nat.le_of_ble_eq_true rfl⟩ ⟨Nat.le_of_ble_eq_true rfl, Nat.le_of_ble_eq_true rfl⟩ (Nat.le_of_ble_eq_true rfl) (Nat.le_of_ble_eq_true rfl) (fun _ _ h => h.elim) (fun _ τ54 hp => ?_)
      refine gz_norm (st' := []) (cells' := 0) (slots' := 0) rfl rfl rfl ?_
      refine gz_aload_n K dX10_restore_57 0 rfl ?_
      refine gz_get K (v := .ref (ad 56)) (by decide) (ce_43 _ _ _ _ _ _) rfl inz_X10 17 (by decide) zq5_48 rfl dX10_restore_58 ?_
      refine gz_aload_n K dX10_restore_61 0 rfl ?_
      refine gz_get K (v := .ref (ad 48)) (by decide) (ce_43 _ _ _ _ _ _) rfl inz_X10 6 (by decide) zq5_37 rfl dX10_restore_62 ?_
      refine gz_callS K hex (c_X10_copy K.2.2.2.2.2 K.2.2.1 ⟨by decide, fun ad ty => ce_56 ad ty⟩ ⟨by decide, fun ad ty => ce_48 ad ty⟩ hp) cf_X10_copy zq6_161 dX10_restore_65 rfl rfl (Nat.le_of_ble_eq_true rfl) ⟨Nat.le_of_ble_eq_true rfl, Nat.le_of_ble_eq_true rfl⟩ ⟨Nat.le_of_ble_eq_true rfl, Nat.le_of_ble_eq_true rfl⟩ (Nat.le_of_ble_eq_true rfl) (Nat.le_of_ble_eq_true rfl) (fun _ _ h => h.elim) (fun _ τ65 hp => ?_)
      refine gz_norm (st' := []) (cells' := 0) (slots' := 0) rfl rfl rfl ?_
      refine gz_iconst K (v := (0 : Int32)) dX10_restore_68 (by decide) ?_
      refine gz_istore_n K [(1, .int (0 : Int32)), (0, .ref (ad 43))] dX10_restore_69 (by decide) rfl ?_
      refine gz_sub [1, 0] rfl ?_
      have ll_70 : ∀ (n_70 : Nat) (σ : Dz) (y1 : Int32) , L_X10_restore_70 post  n_70 σ y1 → Gz p l e r_X10_restore s m args below meth c D ad ty 2 0 0 (Ez below D ad ty nV0 (fun _ τ => post τ) (fun _ _ => False) args s 0 0) σ 70 [(0, .ref (ad 43)), (1, .int y1)] [] := by
        intro n_70; induction n_70 with
        | zero => intro σ y1 hp; exact False.elim hp
        | succ n_70 ih_70 =>
          intro σ y1 hp
          have hp : B_X10_restore_70 post  (L_X10_restore_70 post  n_70) σ y1 := hp
          unfold B_X10_restore_70 at hp
          refine gz_iload_n K dX10_restore_70 1 rfl ?_
          refine gz_iconst K (v := (5 : Int32)) dX10_restore_71 (by decide) ?_
          refine gz_icmp_ge K 93 dX10_restore_72 (by decide) (fun h => ?_) (fun h => ?_)
          · have hp := hp.1 h
            refine gz_aload_n K dX10_restore_93 0 rfl ?_
            refine gz_iconst K (v := (0 : Int32)) dX10_restore_94 (by decide) ?_
            refine gz_put K (x := (0 : Int32)) (by decide) (ce_43 _ _ _ _ _ _) rfl inz_X10 tyX10 tyX10_ok nmX10 27 (by decide) zq5_58 rfl (tyX10_ok _ (by decide)) rfl rfl (Nat.le_of_ble_eq_true rfl) peX10_27 dX10_restore_95 ?_
            exact gz_vret K hr hp dX10_restore_98 (Nat.le_of_ble_eq_true rfl) (Nat.le_of_ble_eq_true rfl)
          · have hp := hp.2 h
            refine gz_aload_n K dX10_restore_75 0 rfl ?_
            refine gz_get K (v := .ref (ad 45)) (by decide) (ce_43 _ _ _ _ _ _) rfl inz_X10 3 (by decide) zq5_34 rfl dX10_restore_76 ?_
            refine gz_iload_n K dX10_restore_79 1 rfl ?_
            refine gz_aload_n K dX10_restore_80 0 rfl ?_
            refine gz_get K (v := .ref (ad 53)) (by decide) (ce_43 _ _ _ _ _ _) rfl inz_X10 14 (by decide) zq5_45 rfl dX10_restore_81 ?_
            refine gz_iload_n K dX10_restore_84 1 rfl ?_
            obtain ⟨h, hp⟩ := hp
            refine gz_zald K (by decide) (ce_53 _ _ _ _ _ _) h dX10_restore_85 ?_
            obtain ⟨hb86, hp⟩ := hp
            obtain ⟨h, hp⟩ := hp
            refine gz_zastB K (x := (gz_i σ 53 (y1).toNatClampNeg)) (by decide) (ce_45 ad ty) h hb86 dX10_restore_86 ?_
            refine gz_iinc K (v := (y1 + 1)) [(1, .int (y1 + 1)), (0, .ref (ad 43))] dX10_restore_87 1 rfl (by first | rfl | decide) (by decide) rfl ?_
            refine gz_goto K 70 dX10_restore_90 (by decide) ?_
            refine gz_sub [1, 0] rfl ?_
            exact ih_70 (sz_i σ 45 (y1).toNatClampNeg (gz_i σ 53 (y1).toNatClampNeg)) (y1 + 1)  hp
      obtain ⟨n, hp⟩ := hp
      exact ll_70 n τ65 (0 : Int32)  hp
    · have hp := hp.2 h
      exact gz_vret K hr hp dX10_restore_23 (Nat.le_of_ble_eq_true rfl) (Nat.le_of_ble_eq_true rfl)
  show Gz p l e r_X10_restore s m args below meth c D ad ty 2 0 0 (Ez below D ad ty nV0 (fun _ τ => post τ) (fun _ _ => False) args s 0 0) σ 0 [(0, .ref (ad 43))] []
  refine gz_aload_n K dX10_restore_0 0 rfl ?_
  refine gz_aload_n K dX10_restore_1 0 rfl ?_
  refine gz_get K (v := .int (gz_i σ 43 12)) (by decide) (ce_43 _ _ _ _ _ _) rfl inz_X10 12 (by decide) zq5_43 rfl dX10_restore_2 ?_
  refine gz_if_eq K 12 dX10_restore_5 (by decide) (fun h => ?_) (fun h => ?_)
  · have hp := hp.1 h
    refine gz_iconst K (v := (1 : Int32)) dX10_restore_12 (by decide) ?_
    exact bb_13 σ (1 : Int32)  hp
  · have hp := hp.2 h
    refine gz_iconst K (v := (0 : Int32)) dX10_restore_8 (by decide) ?_
    refine gz_goto K 13 dX10_restore_9 (by decide) ?_
    exact bb_13 σ (0 : Int32)  hp
theorem c_X10_readsWord_0 {l : Launch} {D : va_G} {ad : Nat → Nat} {ty : Nat → ClassId} (hl : l.stackTraces = false) (hj : ∀ i j, i < 68 → j < 68 → ad i = ad j → i = j) {σ : Dz} {post : Int32 → Dz → Prop} (hp : X10W 0 σ post) : Mz l D ad ty yX10_readsWord cX10_readsWord 2 (some .boolean) r_X10_readsWord_0 nI0 σ [.ref (ad 43)] post (fun _ _ => False) := False.elim hp
set_option maxRecDepth 100000 in
set_option maxHeartbeats 4000000 in
theorem c_X10_readsElement_0 {l : Launch} {D : va_G} {ad : Nat → Nat} {ty : Nat → ClassId} (hl : l.stackTraces = false) (hj : ∀ i j, i < 68 → j < 68 → ad i = ad j → i = j) {σ : Dz} {post : Int32 → Dz → Prop} (hp : X10E 0 σ post) : Mz l D ad ty yX10_readsElement cX10_readsElement 5 (some .boolean) r_X10_readsElement_0 nI0 σ [.ref (ad 43)] post (fun _ _ => False) := by
  refine mz_of (by decide) hl hj (Nat.le_of_ble_eq_true rfl) ?_
  intro p e s m args below meth c K hex hr
  have hp : Q_X10_readsElement (X10W 0) σ post := hp
  unfold Q_X10_readsElement at hp
  have bb_181 : ∀ (σ : Dz) (y1 : Int32) (y2 : Int32) (y3 : Int32) (z0 : Int32) (z1 : Int32) , B_X10_readsElement_181 (X10W 0) post  σ y1 y2 y3 z0 z1 → Gz p l e r_X10_readsElement_0 s m args below meth c D ad ty 5 0 0 (Ez below D ad ty nI0 post (fun _ _ => False) args s 0 0) σ 181 [(0, .ref (ad 43)), (1, .int y1), (2, .int y2), (3, .int y3)] [.int z0, .int z1] := by
    intro σ y1 y2 y3 z0 z1 hp
    unfold B_X10_readsElement_181 at hp
    refine gz_icmp_eq K 186 dX10_readsElement_181 (by decide) (fun h => ?_) (fun h => ?_)
    · have hp := hp.1 h
      refine gz_aload_n K dX10_readsElement_186 0 rfl ?_
      refine gz_dup K dX10_readsElement_187 rfl ?_
      refine gz_get K (v := .int (gz_i σ 43 18)) (by decide) (ce_43 _ _ _ _ _ _) rfl inz_X10 18 (by decide) zq5_49 rfl dX10_readsElement_188 ?_
      refine gz_iconst K (v := (1 : Int32)) dX10_readsElement_191 (by decide) ?_
      refine gz_iadd K dX10_readsElement_192 ?_
      refine gz_put K (x := ((gz_i σ 43 18) + (1 : Int32))) (by decide) (ce_43 _ _ _ _ _ _) rfl inz_X10 tyX10 tyX10_ok nmX10 18 (by decide) zq5_49 rfl (tyX10_ok _ (by decide)) rfl rfl (Nat.le_of_ble_eq_true rfl) peX10_18 dX10_readsElement_193 ?_
      refine gz_aload_n K dX10_readsElement_196 0 rfl ?_
      refine gz_dup K dX10_readsElement_197 rfl ?_
      refine gz_get K (v := .int (gz_i (sz_i σ 43 18 ((gz_i σ 43 18) + (1 : Int32))) 43 25)) (by decide) (ce_43 _ _ _ _ _ _) rfl inz_X10 25 (by decide) zq5_56 rfl dX10_readsElement_198 ?_
      refine gz_iconst K (v := (1 : Int32)) dX10_readsElement_201 (by decide) ?_
      refine gz_isub K dX10_readsElement_202 ?_
      refine gz_put K (x := ((gz_i (sz_i σ 43 18 ((gz_i σ 43 18) + (1 : Int32))) 43 25) - (1 : Int32))) (by decide) (ce_43 _ _ _ _ _ _) rfl inz_X10 tyX10 tyX10_ok nmX10 25 (by decide) zq5_56 rfl (tyX10_ok _ (by decide)) rfl rfl (Nat.le_of_ble_eq_true rfl) peX10_25 dX10_readsElement_203 ?_
      refine gz_iload_n K dX10_readsElement_206 1 rfl ?_
      refine gz_bipush K (v := (60 : Int32)) dX10_readsElement_207 (by decide) ?_
      refine gz_icmp_ne K 231 dX10_readsElement_209 (by decide) (fun h => ?_) (fun h => ?_)
      · have hp := hp.1 h
        refine gz_iconst K (v := (1 : Int32)) dX10_readsElement_231 (by decide) ?_
        exact gz_zret K hr (by decide) hp dX10_readsElement_232 (Nat.le_of_ble_eq_true rfl) (Nat.le_of_ble_eq_true rfl)
      · have hp := hp.2 h
        refine gz_aload_n K dX10_readsElement_212 0 rfl ?_
        refine gz_get K (v := .int (gz_i (sz_i (sz_i σ 43 18 ((gz_i σ 43 18) + (1 : Int32))) 43 25 ((gz_i (sz_i σ 43 18 ((gz_i σ 43 18) + (1 : Int32))) 43 25) - (1 : Int32))) 43 22)) (by decide) (ce_43 _ _ _ _ _ _) rfl inz_X10 22 (by decide) zq5_53 rfl dX10_readsElement_213 ?_
        refine gz_istore K [(4, .int (gz_i (sz_i (sz_i σ 43 18 ((gz_i σ 43 18) + (1 : Int32))) 43 25 ((gz_i (sz_i σ 43 18 ((gz_i σ 43 18) + (1 : Int32))) 43 25) - (1 : Int32))) 43 22)), (0, .ref (ad 43)), (1, .int y1), (2, .int y2), (3, .int y3)] dX10_readsElement_216 (by decide) rfl ?_
        refine gz_aload_n K dX10_readsElement_218 1 rfl ?_
        refine gz_iload_n K dX10_readsElement_219 3 rfl ?_
        refine gz_iload_n K dX10_readsElement_220 4 rfl ?_
        refine gz_callV K hex (c_X10_comesBack K.2.2.2.2.2 K.2.2.1 hp) cf_X10_comesBack zq5_206 (by decide) (ce_43 _ _ _ _ _ _) rfl dX10_readsElement_221 rfl rfl (Nat.le_of_ble_eq_true rfl) ⟨Nat.le_of_ble_eq_true rfl, Nat.le_of_ble_eq_true rfl⟩ ⟨Nat.le_of_ble_eq_true rfl, Nat.le_of_ble_eq_true rfl⟩ (Nat.le_of_ble_eq_true rfl) (Nat.le_of_ble_eq_true rfl) (fun _ _ h => h.elim) (fun _ τ221 hp => ?_)
        refine gz_norm (st' := []) (cells' := 0) (slots' := 0) rfl rfl rfl ?_
        refine gz_aload_n K dX10_readsElement_224 1 rfl ?_
        refine gz_iload_n K dX10_readsElement_225 4 rfl ?_
        refine gz_iload K dX10_readsElement_226 0 rfl ?_
        refine gz_callV K hex (c_X10_comesBack K.2.2.2.2.2 K.2.2.1 hp) cf_X10_comesBack zq5_206 (by decide) (ce_43 _ _ _ _ _ _) rfl dX10_readsElement_228 rfl rfl (Nat.le_of_ble_eq_true rfl) ⟨Nat.le_of_ble_eq_true rfl, Nat.le_of_ble_eq_true rfl⟩ ⟨Nat.le_of_ble_eq_true rfl, Nat.le_of_ble_eq_true rfl⟩ (Nat.le_of_ble_eq_true rfl) (Nat.le_of_ble_eq_true rfl) (fun _ _ h => h.elim) (fun _ τ228 hp => ?_)
        refine gz_norm (st' := []) (cells' := 0) (slots' := 0) rfl rfl rfl ?_
        refine gz_iconst K (v := (1 : Int32)) dX10_readsElement_231 (by decide) ?_
        exact gz_zret K hr (by decide) hp dX10_readsElement_232 (Nat.le_of_ble_eq_true rfl) (Nat.le_of_ble_eq_true rfl)
    · have hp := hp.2 h
      refine gz_iconst K (v := (0 : Int32)) dX10_readsElement_184 (by decide) ?_
      exact gz_zret K hr (by decide) hp dX10_readsElement_185 (Nat.le_of_ble_eq_true rfl) (Nat.le_of_ble_eq_true rfl)
  have bb_164 : ∀ (σ : Dz) (y1 : Int32) (y2 : Int32) (y3 : Int32) , B_X10_readsElement_164 (X10W 0) post  σ y1 y2 y3 → Gz p l e r_X10_readsElement_0 s m args below meth c D ad ty 5 0 0 (Ez below D ad ty nI0 post (fun _ _ => False) args s 0 0) σ 164 [(0, .ref (ad 43)), (1, .int y1), (2, .int y2), (3, .int y3)] [] := by
    intro σ y1 y2 y3 hp
    unfold B_X10_readsElement_164 at hp
    refine gz_aload_n K dX10_readsElement_164 0 rfl ?_
    refine gz_callV K hex (c_X10_here K.2.2.2.2.2 K.2.2.1 hp) cf_X10_here zq5_173 (by decide) (ce_43 _ _ _ _ _ _) rfl dX10_readsElement_165 rfl rfl (Nat.le_of_ble_eq_true rfl) ⟨Nat.le_of_ble_eq_true rfl, Nat.le_of_ble_eq_true rfl⟩ ⟨Nat.le_of_ble_eq_true rfl, Nat.le_of_ble_eq_true rfl⟩ (Nat.le_of_ble_eq_true rfl) (Nat.le_of_ble_eq_true rfl) (fun _ _ h => h.elim) (fun r165 τ hp => ?_)
    obtain ⟨rfl, hp⟩ := hp
    refine gz_norm (st' := [.int r165]) (cells' := 0) (slots' := 0) rfl rfl rfl ?_
    refine gz_iload_n K dX10_readsElement_168 1 rfl ?_
    refine gz_bipush K (v := (40 : Int32)) dX10_readsElement_169 (by decide) ?_
    refine gz_icmp_ne K 179 dX10_readsElement_171 (by decide) (fun h => ?_) (fun h => ?_)
    · have hp := hp.1 h
      refine gz_bipush K (v := (62 : Int32)) dX10_readsElement_179 (by decide) ?_
      exact bb_181 σ y1 y2 y3 (62 : Int32) r165  hp
    · have hp := hp.2 h
      refine gz_bipush K (v := (41 : Int32)) dX10_readsElement_174 (by decide) ?_
      refine gz_goto K 181 dX10_readsElement_176 (by decide) ?_
      exact bb_181 σ y1 y2 y3 (41 : Int32) r165  hp
  have bb_83 : ∀ (σ : Dz) (y1 : Int32) (y2 : Int32) , B_X10_readsElement_83 (X10W 0) post  σ y1 y2 → Gz p l e r_X10_readsElement_0 s m args below meth c D ad ty 5 0 0 (Ez below D ad ty nI0 post (fun _ _ => False) args s 0 0) σ 83 [(0, .ref (ad 43)), (1, .int y1), (2, .int y2)] [] := by
    intro σ y1 y2 hp
    unfold B_X10_readsElement_83 at hp
    refine gz_aload_n K dX10_readsElement_83 0 rfl ?_
    refine gz_get K (v := .int (gz_i σ 43 25)) (by decide) (ce_43 _ _ _ _ _ _) rfl inz_X10 25 (by decide) zq5_56 rfl dX10_readsElement_84 ?_
    refine gz_bipush K (v := (6 : Int32)) dX10_readsElement_87 (by decide) ?_
    refine gz_icmp_ne K 94 dX10_readsElement_89 (by decide) (fun h => ?_) (fun h => ?_)
    · have hp := hp.1 h
      refine gz_aload_n K dX10_readsElement_94 0 rfl ?_
      refine gz_dup K dX10_readsElement_95 rfl ?_
      refine gz_get K (v := .int (gz_i σ 43 25)) (by decide) (ce_43 _ _ _ _ _ _) rfl inz_X10 25 (by decide) zq5_56 rfl dX10_readsElement_96 ?_
      refine gz_iconst K (v := (1 : Int32)) dX10_readsElement_99 (by decide) ?_
      refine gz_iadd K dX10_readsElement_100 ?_
      refine gz_put K (x := ((gz_i σ 43 25) + (1 : Int32))) (by decide) (ce_43 _ _ _ _ _ _) rfl inz_X10 tyX10 tyX10_ok nmX10 25 (by decide) zq5_56 rfl (tyX10_ok _ (by decide)) rfl rfl (Nat.le_of_ble_eq_true rfl) peX10_25 dX10_readsElement_101 ?_
      refine gz_aload_n K dX10_readsElement_104 0 rfl ?_
      refine gz_dup K dX10_readsElement_105 rfl ?_
      refine gz_get K (v := .int (gz_i (sz_i σ 43 25 ((gz_i σ 43 25) + (1 : Int32))) 43 18)) (by decide) (ce_43 _ _ _ _ _ _) rfl inz_X10 18 (by decide) zq5_49 rfl dX10_readsElement_106 ?_
      refine gz_iconst K (v := (1 : Int32)) dX10_readsElement_109 (by decide) ?_
      refine gz_iadd K dX10_readsElement_110 ?_
      refine gz_put K (x := ((gz_i (sz_i σ 43 25 ((gz_i σ 43 25) + (1 : Int32))) 43 18) + (1 : Int32))) (by decide) (ce_43 _ _ _ _ _ _) rfl inz_X10 tyX10 tyX10_ok nmX10 18 (by decide) zq5_49 rfl (tyX10_ok _ (by decide)) rfl rfl (Nat.le_of_ble_eq_true rfl) peX10_18 dX10_readsElement_111 ?_
      refine gz_aload_n K dX10_readsElement_114 0 rfl ?_
      refine gz_callS K hex (c_X10_readsWord_0 K.2.2.2.2.2 K.2.2.1 hp) cf_X10_readsWord zq5_196 dX10_readsElement_115 rfl rfl (Nat.le_of_ble_eq_true rfl) ⟨Nat.le_of_ble_eq_true rfl, Nat.le_of_ble_eq_true rfl⟩ ⟨Nat.le_of_ble_eq_true rfl, Nat.le_of_ble_eq_true rfl⟩ (Nat.le_of_ble_eq_true rfl) (Nat.le_of_ble_eq_true rfl) (fun _ _ h => h.elim) (fun r115 τ115 hp => ?_)
      refine gz_norm (st' := [.int r115]) (cells' := 0) (slots' := 0) rfl rfl rfl ?_
      refine gz_if_ne K 123 dX10_readsElement_118 (by decide) (fun h => ?_) (fun h => ?_)
      · have hp := hp.1 h
        refine gz_aload_n K dX10_readsElement_123 0 rfl ?_
        refine gz_get K (v := .int (gz_i τ115 43 22)) (by decide) (ce_43 _ _ _ _ _ _) rfl inz_X10 22 (by decide) zq5_53 rfl dX10_readsElement_124 ?_
        refine gz_istore_n K [(3, .int (gz_i τ115 43 22)), (0, .ref (ad 43)), (1, .int y1), (2, .int y2)] dX10_readsElement_127 (by decide) rfl ?_
        refine gz_iload_n K dX10_readsElement_128 2 rfl ?_
        refine gz_bipush K (v := (60 : Int32)) dX10_readsElement_129 (by decide) ?_
        refine gz_icmp_ne K 164 dX10_readsElement_131 (by decide) (fun h => ?_) (fun h => ?_)
        · have hp := hp.1 h
          refine gz_sub [1, 2, 3, 0] rfl ?_
          exact bb_164 τ115 y1 y2 (gz_i τ115 43 22)  hp
        · have hp := hp.2 h
          refine gz_aload_n K dX10_readsElement_134 1 rfl ?_
          refine gz_callV K hex (c_X10_here K.2.2.2.2.2 K.2.2.1 hp) cf_X10_here zq5_173 (by decide) (ce_43 _ _ _ _ _ _) rfl dX10_readsElement_135 rfl rfl (Nat.le_of_ble_eq_true rfl) ⟨Nat.le_of_ble_eq_true rfl, Nat.le_of_ble_eq_true rfl⟩ ⟨Nat.le_of_ble_eq_true rfl, Nat.le_of_ble_eq_true rfl⟩ (Nat.le_of_ble_eq_true rfl) (Nat.le_of_ble_eq_true rfl) (fun _ _ h => h.elim) (fun r135 τ hp => ?_)
          obtain ⟨rfl, hp⟩ := hp
          refine gz_norm (st' := [.int r135]) (cells' := 0) (slots' := 0) rfl rfl rfl ?_
          refine gz_bipush K (v := (44 : Int32)) dX10_readsElement_138 (by decide) ?_
          refine gz_icmp_eq K 145 dX10_readsElement_140 (by decide) (fun h => ?_) (fun h => ?_)
          · have hp := hp.1 h
            refine gz_aload_n K dX10_readsElement_145 1 rfl ?_
            refine gz_dup K dX10_readsElement_146 rfl ?_
            refine gz_get K (v := .int (gz_i τ115 43 18)) (by decide) (ce_43 _ _ _ _ _ _) rfl inz_X10 18 (by decide) zq5_49 rfl dX10_readsElement_147 ?_
            refine gz_iconst K (v := (1 : Int32)) dX10_readsElement_150 (by decide) ?_
            refine gz_iadd K dX10_readsElement_151 ?_
            refine gz_put K (x := ((gz_i τ115 43 18) + (1 : Int32))) (by decide) (ce_43 _ _ _ _ _ _) rfl inz_X10 tyX10 tyX10_ok nmX10 18 (by decide) zq5_49 rfl (tyX10_ok _ (by decide)) rfl rfl (Nat.le_of_ble_eq_true rfl) peX10_18 dX10_readsElement_152 ?_
            refine gz_aload_n K dX10_readsElement_155 1 rfl ?_
            refine gz_callS K hex (c_X10_readsWord_0 K.2.2.2.2.2 K.2.2.1 hp) cf_X10_readsWord zq5_196 dX10_readsElement_156 rfl rfl (Nat.le_of_ble_eq_true rfl) ⟨Nat.le_of_ble_eq_true rfl, Nat.le_of_ble_eq_true rfl⟩ ⟨Nat.le_of_ble_eq_true rfl, Nat.le_of_ble_eq_true rfl⟩ (Nat.le_of_ble_eq_true rfl) (Nat.le_of_ble_eq_true rfl) (fun _ _ h => h.elim) (fun r156 τ156 hp => ?_)
            refine gz_norm (st' := [.int r156]) (cells' := 0) (slots' := 0) rfl rfl rfl ?_
            refine gz_if_ne K 164 dX10_readsElement_159 (by decide) (fun h => ?_) (fun h => ?_)
            · have hp := hp.1 h
              refine gz_sub [1, 2, 3, 0] rfl ?_
              exact bb_164 τ156 y1 y2 (gz_i τ115 43 22)  hp
            · have hp := hp.2 h
              refine gz_iconst K (v := (0 : Int32)) dX10_readsElement_162 (by decide) ?_
              exact gz_zret K hr (by decide) hp dX10_readsElement_163 (Nat.le_of_ble_eq_true rfl) (Nat.le_of_ble_eq_true rfl)
          · have hp := hp.2 h
            refine gz_iconst K (v := (0 : Int32)) dX10_readsElement_143 (by decide) ?_
            exact gz_zret K hr (by decide) hp dX10_readsElement_144 (Nat.le_of_ble_eq_true rfl) (Nat.le_of_ble_eq_true rfl)
      · have hp := hp.2 h
        refine gz_iconst K (v := (0 : Int32)) dX10_readsElement_121 (by decide) ?_
        exact gz_zret K hr (by decide) hp dX10_readsElement_122 (Nat.le_of_ble_eq_true rfl) (Nat.le_of_ble_eq_true rfl)
    · have hp := hp.2 h
      refine gz_iconst K (v := (0 : Int32)) dX10_readsElement_92 (by decide) ?_
      exact gz_zret K hr (by decide) hp dX10_readsElement_93 (Nat.le_of_ble_eq_true rfl) (Nat.le_of_ble_eq_true rfl)
  have bb_46 : ∀ (σ : Dz) (y1 : Int32) (z0 : Int32) , B_X10_readsElement_46 (X10W 0) post  σ y1 z0 → Gz p l e r_X10_readsElement_0 s m args below meth c D ad ty 5 0 0 (Ez below D ad ty nI0 post (fun _ _ => False) args s 0 0) σ 46 [(0, .ref (ad 43)), (1, .int y1)] [.int z0, .ref (ad 43)] := by
    intro σ y1 z0 hp
    unfold B_X10_readsElement_46 at hp
    obtain ⟨h, hp⟩ := hp
    refine gz_put K (x := z0) (by decide) (ce_43 _ _ _ _ _ _) rfl inz_X10 tyX10 tyX10_ok nmX10 24 (by decide) zq5_55 rfl (tyX10_ok _ (by decide)) (nB h) (fB h) (Nat.le_of_ble_eq_true rfl) peX10_24 dX10_readsElement_46 ?_
    refine gz_aload_n K dX10_readsElement_49 0 rfl ?_
    refine gz_iconst K (v := (2 : Int32)) dX10_readsElement_50 (by decide) ?_
    refine gz_iload_n K dX10_readsElement_51 1 rfl ?_
    refine gz_bipush K (v := (97 : Int32)) dX10_readsElement_52 (by decide) ?_
    refine gz_isub K dX10_readsElement_54 ?_
    refine gz_imul K dX10_readsElement_55 ?_
    refine gz_callV K hex (c_X10_comes K.2.2.2.2.2 K.2.2.1 hp) cf_X10_comes zq5_202 (by decide) (ce_43 _ _ _ _ _ _) rfl dX10_readsElement_56 rfl rfl (Nat.le_of_ble_eq_true rfl) ⟨Nat.le_of_ble_eq_true rfl, Nat.le_of_ble_eq_true rfl⟩ ⟨Nat.le_of_ble_eq_true rfl, Nat.le_of_ble_eq_true rfl⟩ (Nat.le_of_ble_eq_true rfl) (Nat.le_of_ble_eq_true rfl) (fun _ _ h => h.elim) (fun _ τ56 hp => ?_)
    refine gz_norm (st' := []) (cells' := 0) (slots' := 0) rfl rfl rfl ?_
    refine gz_aload_n K dX10_readsElement_59 0 rfl ?_
    refine gz_dup K dX10_readsElement_60 rfl ?_
    refine gz_get K (v := .int (gz_i τ56 43 18)) (by decide) (ce_43 _ _ _ _ _ _) rfl inz_X10 18 (by decide) zq5_49 rfl dX10_readsElement_61 ?_
    refine gz_iconst K (v := (1 : Int32)) dX10_readsElement_64 (by decide) ?_
    refine gz_iadd K dX10_readsElement_65 ?_
    refine gz_put K (x := ((gz_i τ56 43 18) + (1 : Int32))) (by decide) (ce_43 _ _ _ _ _ _) rfl inz_X10 tyX10 tyX10_ok nmX10 18 (by decide) zq5_49 rfl (tyX10_ok _ (by decide)) rfl rfl (Nat.le_of_ble_eq_true rfl) peX10_18 dX10_readsElement_66 ?_
    refine gz_iconst K (v := (1 : Int32)) dX10_readsElement_69 (by decide) ?_
    exact gz_zret K hr (by decide) hp dX10_readsElement_70 (Nat.le_of_ble_eq_true rfl) (Nat.le_of_ble_eq_true rfl)
  have bb_41 : ∀ (σ : Dz) (y1 : Int32) , B_X10_readsElement_41 (X10W 0) post  σ y1 → Gz p l e r_X10_readsElement_0 s m args below meth c D ad ty 5 0 0 (Ez below D ad ty nI0 post (fun _ _ => False) args s 0 0) σ 41 [(0, .ref (ad 43)), (1, .int y1)] [.ref (ad 43)] := by
    intro σ y1 hp
    unfold B_X10_readsElement_41 at hp
    refine gz_iconst K (v := (1 : Int32)) dX10_readsElement_41 (by decide) ?_
    refine gz_goto K 46 dX10_readsElement_42 (by decide) ?_
    exact bb_46 σ y1 (1 : Int32)  hp
  show Gz p l e r_X10_readsElement_0 s m args below meth c D ad ty 5 0 0 (Ez below D ad ty nI0 post (fun _ _ => False) args s 0 0) σ 0 [(0, .ref (ad 43))] []
  refine gz_aload_n K dX10_readsElement_0 0 rfl ?_
  refine gz_callV K hex (c_X10_here K.2.2.2.2.2 K.2.2.1 hp) cf_X10_here zq5_173 (by decide) (ce_43 _ _ _ _ _ _) rfl dX10_readsElement_1 rfl rfl (Nat.le_of_ble_eq_true rfl) ⟨Nat.le_of_ble_eq_true rfl, Nat.le_of_ble_eq_true rfl⟩ ⟨Nat.le_of_ble_eq_true rfl, Nat.le_of_ble_eq_true rfl⟩ (Nat.le_of_ble_eq_true rfl) (Nat.le_of_ble_eq_true rfl) (fun _ _ h => h.elim) (fun r1 τ hp => ?_)
  obtain ⟨rfl, hp⟩ := hp
  refine gz_norm (st' := [.int r1]) (cells' := 0) (slots' := 0) rfl rfl rfl ?_
  refine gz_istore_n K [(1, .int r1), (0, .ref (ad 43))] dX10_readsElement_4 (by decide) rfl ?_
  refine gz_aload_n K dX10_readsElement_5 1 rfl ?_
  refine gz_get K (v := .int (gz_i σ 43 22)) (by decide) (ce_43 _ _ _ _ _ _) rfl inz_X10 22 (by decide) zq5_53 rfl dX10_readsElement_6 ?_
  refine gz_istore_n K [(2, .int (gz_i σ 43 22)), (1, .int r1), (0, .ref (ad 43))] dX10_readsElement_9 (by decide) rfl ?_
  refine gz_iload_n K dX10_readsElement_10 1 rfl ?_
  refine gz_bipush K (v := (97 : Int32)) dX10_readsElement_11 (by decide) ?_
  refine gz_bipush K (v := (101 : Int32)) dX10_readsElement_13 (by decide) ?_
  refine gz_callS K hex (c_X10_in K.2.2.2.2.2 K.2.2.1 hp) cf_X10_in zq5_146 dX10_readsElement_15 rfl rfl (Nat.le_of_ble_eq_true rfl) ⟨Nat.le_of_ble_eq_true rfl, Nat.le_of_ble_eq_true rfl⟩ ⟨Nat.le_of_ble_eq_true rfl, Nat.le_of_ble_eq_true rfl⟩ (Nat.le_of_ble_eq_true rfl) (Nat.le_of_ble_eq_true rfl) (fun _ _ h => h.elim) (fun r15 τ hp => ?_)
  obtain ⟨rfl, hp⟩ := hp
  refine gz_norm (st' := [.int r15]) (cells' := 0) (slots' := 0) rfl rfl rfl ?_
  refine gz_if_eq K 71 dX10_readsElement_18 (by decide) (fun h => ?_) (fun h => ?_)
  · have hp := hp.1 h
    refine gz_iload_n K dX10_readsElement_71 1 rfl ?_
    refine gz_bipush K (v := (40 : Int32)) dX10_readsElement_72 (by decide) ?_
    refine gz_icmp_eq K 83 dX10_readsElement_74 (by decide) (fun h => ?_) (fun h => ?_)
    · have hp := hp.1 h
      refine gz_sub [2, 1, 0] rfl ?_
      exact bb_83 σ r1 (gz_i σ 43 22)  hp
    · have hp := hp.2 h
      refine gz_iload_n K dX10_readsElement_77 1 rfl ?_
      refine gz_bipush K (v := (60 : Int32)) dX10_readsElement_78 (by decide) ?_
      refine gz_icmp_ne K 92 dX10_readsElement_80 (by decide) (fun h => ?_) (fun h => ?_)
      · have hp := hp.1 h
        refine gz_iconst K (v := (0 : Int32)) dX10_readsElement_92 (by decide) ?_
        exact gz_zret K hr (by decide) hp dX10_readsElement_93 (Nat.le_of_ble_eq_true rfl) (Nat.le_of_ble_eq_true rfl)
      · have hp := hp.2 h
        refine gz_sub [2, 1, 0] rfl ?_
        exact bb_83 σ r1 (gz_i σ 43 22)  hp
  · have hp := hp.2 h
    refine gz_aload_n K dX10_readsElement_21 2 rfl ?_
    refine gz_aload_n K dX10_readsElement_22 2 rfl ?_
    refine gz_get K (v := .int (gz_i σ 43 24)) (by decide) (ce_43 _ _ _ _ _ _) rfl inz_X10 24 (by decide) zq5_55 rfl dX10_readsElement_23 ?_
    refine gz_if_ne K 41 dX10_readsElement_26 (by decide) (fun h => ?_) (fun h => ?_)
    · have hp := hp.1 h
      refine gz_sub [2, 1] rfl ?_
      exact bb_41 σ r1  hp
    · have hp := hp.2 h
      refine gz_aload_n K dX10_readsElement_29 2 rfl ?_
      refine gz_get K (v := .ref (ad 45)) (by decide) (ce_43 _ _ _ _ _ _) rfl inz_X10 3 (by decide) zq5_34 rfl dX10_readsElement_30 ?_
      refine gz_iload_n K dX10_readsElement_33 1 rfl ?_
      refine gz_bipush K (v := (97 : Int32)) dX10_readsElement_34 (by decide) ?_
      refine gz_isub K dX10_readsElement_36 ?_
      obtain ⟨h, hp⟩ := hp
      refine gz_zald K (by decide) (ce_45 _ _ _ _ _ _) h dX10_readsElement_37 ?_
      refine gz_if_ne K 45 dX10_readsElement_38 (by decide) (fun h => ?_) (fun h => ?_)
      · have hp := hp.1 h
        refine gz_iconst K (v := (0 : Int32)) dX10_readsElement_45 (by decide) ?_
        refine gz_sub [2, 1] rfl ?_
        exact bb_46 σ r1 (0 : Int32)  hp
      · have hp := hp.2 h
        refine gz_sub [2, 1] rfl ?_
        exact bb_41 σ r1  hp
set_option maxRecDepth 100000 in
set_option maxHeartbeats 4000000 in
theorem c_X10_readsWord_1 {l : Launch} {D : va_G} {ad : Nat → Nat} {ty : Nat → ClassId} (hl : l.stackTraces = false) (hj : ∀ i j, i < 68 → j < 68 → ad i = ad j → i = j) {σ : Dz} {post : Int32 → Dz → Prop} (hp : X10W 1 σ post) : Mz l D ad ty yX10_readsWord cX10_readsWord 2 (some .boolean) r_X10_readsWord_1 nI0 σ [.ref (ad 43)] post (fun _ _ => False) := by
  refine mz_of (by decide) hl hj (Nat.le_of_ble_eq_true rfl) ?_
  intro p e s m args below meth c K hex hr
  have hp : Q_X10_readsWord (X10E 0) σ post := hp
  unfold Q_X10_readsWord at hp
  show Gz p l e r_X10_readsWord_1 s m args below meth c D ad ty 2 0 0 (Ez below D ad ty nI0 post (fun _ _ => False) args s 0 0) σ 0 [(0, .ref (ad 43))] []
  have ll_0 : ∀ (n_0 : Nat) (σ : Dz) , L_X10_readsWord_0 (X10E 0) post  n_0 σ → Gz p l e r_X10_readsWord_1 s m args below meth c D ad ty 2 0 0 (Ez below D ad ty nI0 post (fun _ _ => False) args s 0 0) σ 0 [(0, .ref (ad 43))] [] := by
    intro n_0; induction n_0 with
    | zero => intro σ hp; exact False.elim hp
    | succ n_0 ih_0 =>
      intro σ hp
      have hp : B_X10_readsWord_0 (X10E 0) post  (L_X10_readsWord_0 (X10E 0) post  n_0) σ := hp
      unfold B_X10_readsWord_0 at hp
      have bb_32 : ∀ (σ : Dz) , B_X10_readsWord_32 (X10E 0) post (L_X10_readsWord_0 (X10E 0) post  n_0) σ → Gz p l e r_X10_readsWord_1 s m args below meth c D ad ty 2 0 0 (Ez below D ad ty nI0 post (fun _ _ => False) args s 0 0) σ 32 [(0, .ref (ad 43))] [] := by
        intro σ hp
        unfold B_X10_readsWord_32 at hp
        refine gz_aload_n K dX10_readsWord_32 0 rfl ?_
        refine gz_get K (v := .int (gz_i σ 43 22)) (by decide) (ce_43 _ _ _ _ _ _) rfl inz_X10 22 (by decide) zq5_53 rfl dX10_readsWord_33 ?_
        refine gz_istore_n K [(1, .int (gz_i σ 43 22)), (0, .ref (ad 43))] dX10_readsWord_36 (by decide) rfl ?_
        refine gz_aload_n K dX10_readsWord_37 1 rfl ?_
        refine gz_callS K hex (c_X10_readsElement_0 K.2.2.2.2.2 K.2.2.1 hp) cf_X10_readsElement zq5_199 dX10_readsWord_38 rfl rfl (Nat.le_of_ble_eq_true rfl) ⟨Nat.le_of_ble_eq_true rfl, Nat.le_of_ble_eq_true rfl⟩ ⟨Nat.le_of_ble_eq_true rfl, Nat.le_of_ble_eq_true rfl⟩ (Nat.le_of_ble_eq_true rfl) (Nat.le_of_ble_eq_true rfl) (fun _ _ h => h.elim) (fun r38 τ38 hp => ?_)
        refine gz_norm (st' := [.int r38]) (cells' := 0) (slots' := 0) rfl rfl rfl ?_
        refine gz_if_ne K 46 dX10_readsWord_41 (by decide) (fun h => ?_) (fun h => ?_)
        · have hp := hp.1 h
          refine gz_aload_n K dX10_readsWord_46 1 rfl ?_
          refine gz_iload_n K dX10_readsWord_47 0 rfl ?_
          refine gz_callV K hex (c_X10_readsBehind K.2.2.2.2.2 K.2.2.1 hp) cf_X10_readsBehind zq5_210 (by decide) (ce_43 _ _ _ _ _ _) rfl dX10_readsWord_48 rfl rfl (Nat.le_of_ble_eq_true rfl) ⟨Nat.le_of_ble_eq_true rfl, Nat.le_of_ble_eq_true rfl⟩ ⟨Nat.le_of_ble_eq_true rfl, Nat.le_of_ble_eq_true rfl⟩ (Nat.le_of_ble_eq_true rfl) (Nat.le_of_ble_eq_true rfl) (fun _ _ h => h.elim) (fun _ τ48 hp => ?_)
          refine gz_norm (st' := []) (cells' := 0) (slots' := 0) rfl rfl rfl ?_
          refine gz_goto K 0 dX10_readsWord_51 (by decide) ?_
          refine gz_sub [1] rfl ?_
          exact ih_0 τ48  hp
        · have hp := hp.2 h
          refine gz_iconst K (v := (0 : Int32)) dX10_readsWord_44 (by decide) ?_
          exact gz_zret K hr (by decide) hp dX10_readsWord_45 (Nat.le_of_ble_eq_true rfl) (Nat.le_of_ble_eq_true rfl)
      refine gz_aload_n K dX10_readsWord_0 0 rfl ?_
      refine gz_callV K hex (c_X10_here K.2.2.2.2.2 K.2.2.1 hp) cf_X10_here zq5_173 (by decide) (ce_43 _ _ _ _ _ _) rfl dX10_readsWord_1 rfl rfl (Nat.le_of_ble_eq_true rfl) ⟨Nat.le_of_ble_eq_true rfl, Nat.le_of_ble_eq_true rfl⟩ ⟨Nat.le_of_ble_eq_true rfl, Nat.le_of_ble_eq_true rfl⟩ (Nat.le_of_ble_eq_true rfl) (Nat.le_of_ble_eq_true rfl) (fun _ _ h => h.elim) (fun r1 τ hp => ?_)
      obtain ⟨rfl, hp⟩ := hp
      refine gz_norm (st' := [.int r1]) (cells' := 0) (slots' := 0) rfl rfl rfl ?_
      refine gz_bipush K (v := (97 : Int32)) dX10_readsWord_4 (by decide) ?_
      refine gz_bipush K (v := (101 : Int32)) dX10_readsWord_6 (by decide) ?_
      refine gz_callS K hex (c_X10_in K.2.2.2.2.2 K.2.2.1 hp) cf_X10_in zq5_146 dX10_readsWord_8 rfl rfl (Nat.le_of_ble_eq_true rfl) ⟨Nat.le_of_ble_eq_true rfl, Nat.le_of_ble_eq_true rfl⟩ ⟨Nat.le_of_ble_eq_true rfl, Nat.le_of_ble_eq_true rfl⟩ (Nat.le_of_ble_eq_true rfl) (Nat.le_of_ble_eq_true rfl) (fun _ _ h => h.elim) (fun r8 τ hp => ?_)
      obtain ⟨rfl, hp⟩ := hp
      refine gz_norm (st' := [.int r8]) (cells' := 0) (slots' := 0) rfl rfl rfl ?_
      refine gz_if_ne K 32 dX10_readsWord_11 (by decide) (fun h => ?_) (fun h => ?_)
      · have hp := hp.1 h
        exact bb_32 σ  hp
      · have hp := hp.2 h
        refine gz_aload_n K dX10_readsWord_14 0 rfl ?_
        refine gz_callV K hex (c_X10_here K.2.2.2.2.2 K.2.2.1 hp) cf_X10_here zq5_173 (by decide) (ce_43 _ _ _ _ _ _) rfl dX10_readsWord_15 rfl rfl (Nat.le_of_ble_eq_true rfl) ⟨Nat.le_of_ble_eq_true rfl, Nat.le_of_ble_eq_true rfl⟩ ⟨Nat.le_of_ble_eq_true rfl, Nat.le_of_ble_eq_true rfl⟩ (Nat.le_of_ble_eq_true rfl) (Nat.le_of_ble_eq_true rfl) (fun _ _ h => h.elim) (fun r15 τ hp => ?_)
        obtain ⟨rfl, hp⟩ := hp
        refine gz_norm (st' := [.int r15]) (cells' := 0) (slots' := 0) rfl rfl rfl ?_
        refine gz_bipush K (v := (40 : Int32)) dX10_readsWord_18 (by decide) ?_
        refine gz_icmp_eq K 32 dX10_readsWord_20 (by decide) (fun h => ?_) (fun h => ?_)
        · have hp := hp.1 h
          exact bb_32 σ  hp
        · have hp := hp.2 h
          refine gz_aload_n K dX10_readsWord_23 0 rfl ?_
          refine gz_callV K hex (c_X10_here K.2.2.2.2.2 K.2.2.1 hp) cf_X10_here zq5_173 (by decide) (ce_43 _ _ _ _ _ _) rfl dX10_readsWord_24 rfl rfl (Nat.le_of_ble_eq_true rfl) ⟨Nat.le_of_ble_eq_true rfl, Nat.le_of_ble_eq_true rfl⟩ ⟨Nat.le_of_ble_eq_true rfl, Nat.le_of_ble_eq_true rfl⟩ (Nat.le_of_ble_eq_true rfl) (Nat.le_of_ble_eq_true rfl) (fun _ _ h => h.elim) (fun r24 τ hp => ?_)
          obtain ⟨rfl, hp⟩ := hp
          refine gz_norm (st' := [.int r24]) (cells' := 0) (slots' := 0) rfl rfl rfl ?_
          refine gz_bipush K (v := (60 : Int32)) dX10_readsWord_27 (by decide) ?_
          refine gz_icmp_ne K 54 dX10_readsWord_29 (by decide) (fun h => ?_) (fun h => ?_)
          · have hp := hp.1 h
            refine gz_iconst K (v := (1 : Int32)) dX10_readsWord_54 (by decide) ?_
            exact gz_zret K hr (by decide) hp dX10_readsWord_55 (Nat.le_of_ble_eq_true rfl) (Nat.le_of_ble_eq_true rfl)
          · have hp := hp.2 h
            exact bb_32 σ  hp
  obtain ⟨n, hp⟩ := hp
  exact ll_0 n σ  hp
set_option maxRecDepth 100000 in
set_option maxHeartbeats 4000000 in
theorem c_X10_readsElement_1 {l : Launch} {D : va_G} {ad : Nat → Nat} {ty : Nat → ClassId} (hl : l.stackTraces = false) (hj : ∀ i j, i < 68 → j < 68 → ad i = ad j → i = j) {σ : Dz} {post : Int32 → Dz → Prop} (hp : X10E 1 σ post) : Mz l D ad ty yX10_readsElement cX10_readsElement 5 (some .boolean) r_X10_readsElement_1 nI0 σ [.ref (ad 43)] post (fun _ _ => False) := by
  refine mz_of (by decide) hl hj (Nat.le_of_ble_eq_true rfl) ?_
  intro p e s m args below meth c K hex hr
  have hp : Q_X10_readsElement (X10W 1) σ post := hp
  unfold Q_X10_readsElement at hp
  have bb_181 : ∀ (σ : Dz) (y1 : Int32) (y2 : Int32) (y3 : Int32) (z0 : Int32) (z1 : Int32) , B_X10_readsElement_181 (X10W 1) post  σ y1 y2 y3 z0 z1 → Gz p l e r_X10_readsElement_1 s m args below meth c D ad ty 5 0 0 (Ez below D ad ty nI0 post (fun _ _ => False) args s 0 0) σ 181 [(0, .ref (ad 43)), (1, .int y1), (2, .int y2), (3, .int y3)] [.int z0, .int z1] := by
    intro σ y1 y2 y3 z0 z1 hp
    unfold B_X10_readsElement_181 at hp
    refine gz_icmp_eq K 186 dX10_readsElement_181 (by decide) (fun h => ?_) (fun h => ?_)
    · have hp := hp.1 h
      refine gz_aload_n K dX10_readsElement_186 0 rfl ?_
      refine gz_dup K dX10_readsElement_187 rfl ?_
      refine gz_get K (v := .int (gz_i σ 43 18)) (by decide) (ce_43 _ _ _ _ _ _) rfl inz_X10 18 (by decide) zq5_49 rfl dX10_readsElement_188 ?_
      refine gz_iconst K (v := (1 : Int32)) dX10_readsElement_191 (by decide) ?_
      refine gz_iadd K dX10_readsElement_192 ?_
      refine gz_put K (x := ((gz_i σ 43 18) + (1 : Int32))) (by decide) (ce_43 _ _ _ _ _ _) rfl inz_X10 tyX10 tyX10_ok nmX10 18 (by decide) zq5_49 rfl (tyX10_ok _ (by decide)) rfl rfl (Nat.le_of_ble_eq_true rfl) peX10_18 dX10_readsElement_193 ?_
      refine gz_aload_n K dX10_readsElement_196 0 rfl ?_
      refine gz_dup K dX10_readsElement_197 rfl ?_
      refine gz_get K (v := .int (gz_i (sz_i σ 43 18 ((gz_i σ 43 18) + (1 : Int32))) 43 25)) (by decide) (ce_43 _ _ _ _ _ _) rfl inz_X10 25 (by decide) zq5_56 rfl dX10_readsElement_198 ?_
      refine gz_iconst K (v := (1 : Int32)) dX10_readsElement_201 (by decide) ?_
      refine gz_isub K dX10_readsElement_202 ?_
      refine gz_put K (x := ((gz_i (sz_i σ 43 18 ((gz_i σ 43 18) + (1 : Int32))) 43 25) - (1 : Int32))) (by decide) (ce_43 _ _ _ _ _ _) rfl inz_X10 tyX10 tyX10_ok nmX10 25 (by decide) zq5_56 rfl (tyX10_ok _ (by decide)) rfl rfl (Nat.le_of_ble_eq_true rfl) peX10_25 dX10_readsElement_203 ?_
      refine gz_iload_n K dX10_readsElement_206 1 rfl ?_
      refine gz_bipush K (v := (60 : Int32)) dX10_readsElement_207 (by decide) ?_
      refine gz_icmp_ne K 231 dX10_readsElement_209 (by decide) (fun h => ?_) (fun h => ?_)
      · have hp := hp.1 h
        refine gz_iconst K (v := (1 : Int32)) dX10_readsElement_231 (by decide) ?_
        exact gz_zret K hr (by decide) hp dX10_readsElement_232 (Nat.le_of_ble_eq_true rfl) (Nat.le_of_ble_eq_true rfl)
      · have hp := hp.2 h
        refine gz_aload_n K dX10_readsElement_212 0 rfl ?_
        refine gz_get K (v := .int (gz_i (sz_i (sz_i σ 43 18 ((gz_i σ 43 18) + (1 : Int32))) 43 25 ((gz_i (sz_i σ 43 18 ((gz_i σ 43 18) + (1 : Int32))) 43 25) - (1 : Int32))) 43 22)) (by decide) (ce_43 _ _ _ _ _ _) rfl inz_X10 22 (by decide) zq5_53 rfl dX10_readsElement_213 ?_
        refine gz_istore K [(4, .int (gz_i (sz_i (sz_i σ 43 18 ((gz_i σ 43 18) + (1 : Int32))) 43 25 ((gz_i (sz_i σ 43 18 ((gz_i σ 43 18) + (1 : Int32))) 43 25) - (1 : Int32))) 43 22)), (0, .ref (ad 43)), (1, .int y1), (2, .int y2), (3, .int y3)] dX10_readsElement_216 (by decide) rfl ?_
        refine gz_aload_n K dX10_readsElement_218 1 rfl ?_
        refine gz_iload_n K dX10_readsElement_219 3 rfl ?_
        refine gz_iload_n K dX10_readsElement_220 4 rfl ?_
        refine gz_callV K hex (c_X10_comesBack K.2.2.2.2.2 K.2.2.1 hp) cf_X10_comesBack zq5_206 (by decide) (ce_43 _ _ _ _ _ _) rfl dX10_readsElement_221 rfl rfl (Nat.le_of_ble_eq_true rfl) ⟨Nat.le_of_ble_eq_true rfl, Nat.le_of_ble_eq_true rfl⟩ ⟨Nat.le_of_ble_eq_true rfl, Nat.le_of_ble_eq_true rfl⟩ (Nat.le_of_ble_eq_true rfl) (Nat.le_of_ble_eq_true rfl) (fun _ _ h => h.elim) (fun _ τ221 hp => ?_)
        refine gz_norm (st' := []) (cells' := 0) (slots' := 0) rfl rfl rfl ?_
        refine gz_aload_n K dX10_readsElement_224 1 rfl ?_
        refine gz_iload_n K dX10_readsElement_225 4 rfl ?_
        refine gz_iload K dX10_readsElement_226 0 rfl ?_
        refine gz_callV K hex (c_X10_comesBack K.2.2.2.2.2 K.2.2.1 hp) cf_X10_comesBack zq5_206 (by decide) (ce_43 _ _ _ _ _ _) rfl dX10_readsElement_228 rfl rfl (Nat.le_of_ble_eq_true rfl) ⟨Nat.le_of_ble_eq_true rfl, Nat.le_of_ble_eq_true rfl⟩ ⟨Nat.le_of_ble_eq_true rfl, Nat.le_of_ble_eq_true rfl⟩ (Nat.le_of_ble_eq_true rfl) (Nat.le_of_ble_eq_true rfl) (fun _ _ h => h.elim) (fun _ τ228 hp => ?_)
        refine gz_norm (st' := []) (cells' := 0) (slots' := 0) rfl rfl rfl ?_
        refine gz_iconst K (v := (1 : Int32)) dX10_readsElement_231 (by decide) ?_
        exact gz_zret K hr (by decide) hp dX10_readsElement_232 (Nat.le_of_ble_eq_true rfl) (Nat.le_of_ble_eq_true rfl)
    · have hp := hp.2 h
      refine gz_iconst K (v := (0 : Int32)) dX10_readsElement_184 (by decide) ?_
      exact gz_zret K hr (by decide) hp dX10_readsElement_185 (Nat.le_of_ble_eq_true rfl) (Nat.le_of_ble_eq_true rfl)
  have bb_164 : ∀ (σ : Dz) (y1 : Int32) (y2 : Int32) (y3 : Int32) , B_X10_readsElement_164 (X10W 1) post  σ y1 y2 y3 → Gz p l e r_X10_readsElement_1 s m args below meth c D ad ty 5 0 0 (Ez below D ad ty nI0 post (fun _ _ => False) args s 0 0) σ 164 [(0, .ref (ad 43)), (1, .int y1), (2, .int y2), (3, .int y3)] [] := by
    intro σ y1 y2 y3 hp
    unfold B_X10_readsElement_164 at hp
    refine gz_aload_n K dX10_readsElement_164 0 rfl ?_
    refine gz_callV K hex (c_X10_here K.2.2.2.2.2 K.2.2.1 hp) cf_X10_here zq5_173 (by decide) (ce_43 _ _ _ _ _ _) rfl dX10_readsElement_165 rfl rfl (Nat.le_of_ble_eq_true rfl) ⟨Nat.le_of_ble_eq_true rfl, Nat.le_of_ble_eq_true rfl⟩ ⟨Nat.le_of_ble_eq_true rfl, Nat.le_of_ble_eq_true rfl⟩ (Nat.le_of_ble_eq_true rfl) (Nat.le_of_ble_eq_true rfl) (fun _ _ h => h.elim) (fun r165 τ hp => ?_)
    obtain ⟨rfl, hp⟩ := hp
    refine gz_norm (st' := [.int r165]) (cells' := 0) (slots' := 0) rfl rfl rfl ?_
    refine gz_iload_n K dX10_readsElement_168 1 rfl ?_
    refine gz_bipush K (v := (40 : Int32)) dX10_readsElement_169 (by decide) ?_
    refine gz_icmp_ne K 179 dX10_readsElement_171 (by decide) (fun h => ?_) (fun h => ?_)
    · have hp := hp.1 h
      refine gz_bipush K (v := (62 : Int32)) dX10_readsElement_179 (by decide) ?_
      exact bb_181 σ y1 y2 y3 (62 : Int32) r165  hp
    · have hp := hp.2 h
      refine gz_bipush K (v := (41 : Int32)) dX10_readsElement_174 (by decide) ?_
      refine gz_goto K 181 dX10_readsElement_176 (by decide) ?_
      exact bb_181 σ y1 y2 y3 (41 : Int32) r165  hp
  have bb_83 : ∀ (σ : Dz) (y1 : Int32) (y2 : Int32) , B_X10_readsElement_83 (X10W 1) post  σ y1 y2 → Gz p l e r_X10_readsElement_1 s m args below meth c D ad ty 5 0 0 (Ez below D ad ty nI0 post (fun _ _ => False) args s 0 0) σ 83 [(0, .ref (ad 43)), (1, .int y1), (2, .int y2)] [] := by
    intro σ y1 y2 hp
    unfold B_X10_readsElement_83 at hp
    refine gz_aload_n K dX10_readsElement_83 0 rfl ?_
    refine gz_get K (v := .int (gz_i σ 43 25)) (by decide) (ce_43 _ _ _ _ _ _) rfl inz_X10 25 (by decide) zq5_56 rfl dX10_readsElement_84 ?_
    refine gz_bipush K (v := (6 : Int32)) dX10_readsElement_87 (by decide) ?_
    refine gz_icmp_ne K 94 dX10_readsElement_89 (by decide) (fun h => ?_) (fun h => ?_)
    · have hp := hp.1 h
      refine gz_aload_n K dX10_readsElement_94 0 rfl ?_
      refine gz_dup K dX10_readsElement_95 rfl ?_
      refine gz_get K (v := .int (gz_i σ 43 25)) (by decide) (ce_43 _ _ _ _ _ _) rfl inz_X10 25 (by decide) zq5_56 rfl dX10_readsElement_96 ?_
      refine gz_iconst K (v := (1 : Int32)) dX10_readsElement_99 (by decide) ?_
      refine gz_iadd K dX10_readsElement_100 ?_
      refine gz_put K (x := ((gz_i σ 43 25) + (1 : Int32))) (by decide) (ce_43 _ _ _ _ _ _) rfl inz_X10 tyX10 tyX10_ok nmX10 25 (by decide) zq5_56 rfl (tyX10_ok _ (by decide)) rfl rfl (Nat.le_of_ble_eq_true rfl) peX10_25 dX10_readsElement_101 ?_
      refine gz_aload_n K dX10_readsElement_104 0 rfl ?_
      refine gz_dup K dX10_readsElement_105 rfl ?_
      refine gz_get K (v := .int (gz_i (sz_i σ 43 25 ((gz_i σ 43 25) + (1 : Int32))) 43 18)) (by decide) (ce_43 _ _ _ _ _ _) rfl inz_X10 18 (by decide) zq5_49 rfl dX10_readsElement_106 ?_
      refine gz_iconst K (v := (1 : Int32)) dX10_readsElement_109 (by decide) ?_
      refine gz_iadd K dX10_readsElement_110 ?_
      refine gz_put K (x := ((gz_i (sz_i σ 43 25 ((gz_i σ 43 25) + (1 : Int32))) 43 18) + (1 : Int32))) (by decide) (ce_43 _ _ _ _ _ _) rfl inz_X10 tyX10 tyX10_ok nmX10 18 (by decide) zq5_49 rfl (tyX10_ok _ (by decide)) rfl rfl (Nat.le_of_ble_eq_true rfl) peX10_18 dX10_readsElement_111 ?_
      refine gz_aload_n K dX10_readsElement_114 0 rfl ?_
      refine gz_callS K hex (c_X10_readsWord_1 K.2.2.2.2.2 K.2.2.1 hp) cf_X10_readsWord zq5_196 dX10_readsElement_115 rfl rfl (Nat.le_of_ble_eq_true rfl) ⟨Nat.le_of_ble_eq_true rfl, Nat.le_of_ble_eq_true rfl⟩ ⟨Nat.le_of_ble_eq_true rfl, Nat.le_of_ble_eq_true rfl⟩ (Nat.le_of_ble_eq_true rfl) (Nat.le_of_ble_eq_true rfl) (fun _ _ h => h.elim) (fun r115 τ115 hp => ?_)
      refine gz_norm (st' := [.int r115]) (cells' := 0) (slots' := 0) rfl rfl rfl ?_
      refine gz_if_ne K 123 dX10_readsElement_118 (by decide) (fun h => ?_) (fun h => ?_)
      · have hp := hp.1 h
        refine gz_aload_n K dX10_readsElement_123 0 rfl ?_
        refine gz_get K (v := .int (gz_i τ115 43 22)) (by decide) (ce_43 _ _ _ _ _ _) rfl inz_X10 22 (by decide) zq5_53 rfl dX10_readsElement_124 ?_
        refine gz_istore_n K [(3, .int (gz_i τ115 43 22)), (0, .ref (ad 43)), (1, .int y1), (2, .int y2)] dX10_readsElement_127 (by decide) rfl ?_
        refine gz_iload_n K dX10_readsElement_128 2 rfl ?_
        refine gz_bipush K (v := (60 : Int32)) dX10_readsElement_129 (by decide) ?_
        refine gz_icmp_ne K 164 dX10_readsElement_131 (by decide) (fun h => ?_) (fun h => ?_)
        · have hp := hp.1 h
          refine gz_sub [1, 2, 3, 0] rfl ?_
          exact bb_164 τ115 y1 y2 (gz_i τ115 43 22)  hp
        · have hp := hp.2 h
          refine gz_aload_n K dX10_readsElement_134 1 rfl ?_
          refine gz_callV K hex (c_X10_here K.2.2.2.2.2 K.2.2.1 hp) cf_X10_here zq5_173 (by decide) (ce_43 _ _ _ _ _ _) rfl dX10_readsElement_135 rfl rfl (Nat.le_of_ble_eq_true rfl) ⟨Nat.le_of_ble_eq_true rfl, Nat.le_of_ble_eq_true rfl⟩ ⟨Nat.le_of_ble_eq_true rfl, Nat.le_of_ble_eq_true rfl⟩ (Nat.le_of_ble_eq_true rfl) (Nat.le_of_ble_eq_true rfl) (fun _ _ h => h.elim) (fun r135 τ hp => ?_)
          obtain ⟨rfl, hp⟩ := hp
          refine gz_norm (st' := [.int r135]) (cells' := 0) (slots' := 0) rfl rfl rfl ?_
          refine gz_bipush K (v := (44 : Int32)) dX10_readsElement_138 (by decide) ?_
          refine gz_icmp_eq K 145 dX10_readsElement_140 (by decide) (fun h => ?_) (fun h => ?_)
          · have hp := hp.1 h
            refine gz_aload_n K dX10_readsElement_145 1 rfl ?_
            refine gz_dup K dX10_readsElement_146 rfl ?_
            refine gz_get K (v := .int (gz_i τ115 43 18)) (by decide) (ce_43 _ _ _ _ _ _) rfl inz_X10 18 (by decide) zq5_49 rfl dX10_readsElement_147 ?_
            refine gz_iconst K (v := (1 : Int32)) dX10_readsElement_150 (by decide) ?_
            refine gz_iadd K dX10_readsElement_151 ?_
            refine gz_put K (x := ((gz_i τ115 43 18) + (1 : Int32))) (by decide) (ce_43 _ _ _ _ _ _) rfl inz_X10 tyX10 tyX10_ok nmX10 18 (by decide) zq5_49 rfl (tyX10_ok _ (by decide)) rfl rfl (Nat.le_of_ble_eq_true rfl) peX10_18 dX10_readsElement_152 ?_
            refine gz_aload_n K dX10_readsElement_155 1 rfl ?_
            refine gz_callS K hex (c_X10_readsWord_1 K.2.2.2.2.2 K.2.2.1 hp) cf_X10_readsWord zq5_196 dX10_readsElement_156 rfl rfl (Nat.le_of_ble_eq_true rfl) ⟨Nat.le_of_ble_eq_true rfl, Nat.le_of_ble_eq_true rfl⟩ ⟨Nat.le_of_ble_eq_true rfl, Nat.le_of_ble_eq_true rfl⟩ (Nat.le_of_ble_eq_true rfl) (Nat.le_of_ble_eq_true rfl) (fun _ _ h => h.elim) (fun r156 τ156 hp => ?_)
            refine gz_norm (st' := [.int r156]) (cells' := 0) (slots' := 0) rfl rfl rfl ?_
            refine gz_if_ne K 164 dX10_readsElement_159 (by decide) (fun h => ?_) (fun h => ?_)
            · have hp := hp.1 h
              refine gz_sub [1, 2, 3, 0] rfl ?_
              exact bb_164 τ156 y1 y2 (gz_i τ115 43 22)  hp
            · have hp := hp.2 h
              refine gz_iconst K (v := (0 : Int32)) dX10_readsElement_162 (by decide) ?_
              exact gz_zret K hr (by decide) hp dX10_readsElement_163 (Nat.le_of_ble_eq_true rfl) (Nat.le_of_ble_eq_true rfl)
          · have hp := hp.2 h
            refine gz_iconst K (v := (0 : Int32)) dX10_readsElement_143 (by decide) ?_
            exact gz_zret K hr (by decide) hp dX10_readsElement_144 (Nat.le_of_ble_eq_true rfl) (Nat.le_of_ble_eq_true rfl)
      · have hp := hp.2 h
        refine gz_iconst K (v := (0 : Int32)) dX10_readsElement_121 (by decide) ?_
        exact gz_zret K hr (by decide) hp dX10_readsElement_122 (Nat.le_of_ble_eq_true rfl) (Nat.le_of_ble_eq_true rfl)
    · have hp := hp.2 h
      refine gz_iconst K (v := (0 : Int32)) dX10_readsElement_92 (by decide) ?_
      exact gz_zret K hr (by decide) hp dX10_readsElement_93 (Nat.le_of_ble_eq_true rfl) (Nat.le_of_ble_eq_true rfl)
  have bb_46 : ∀ (σ : Dz) (y1 : Int32) (z0 : Int32) , B_X10_readsElement_46 (X10W 1) post  σ y1 z0 → Gz p l e r_X10_readsElement_1 s m args below meth c D ad ty 5 0 0 (Ez below D ad ty nI0 post (fun _ _ => False) args s 0 0) σ 46 [(0, .ref (ad 43)), (1, .int y1)] [.int z0, .ref (ad 43)] := by
    intro σ y1 z0 hp
    unfold B_X10_readsElement_46 at hp
    obtain ⟨h, hp⟩ := hp
    refine gz_put K (x := z0) (by decide) (ce_43 _ _ _ _ _ _) rfl inz_X10 tyX10 tyX10_ok nmX10 24 (by decide) zq5_55 rfl (tyX10_ok _ (by decide)) (nB h) (fB h) (Nat.le_of_ble_eq_true rfl) peX10_24 dX10_readsElement_46 ?_
    refine gz_aload_n K dX10_readsElement_49 0 rfl ?_
    refine gz_iconst K (v := (2 : Int32)) dX10_readsElement_50 (by decide) ?_
    refine gz_iload_n K dX10_readsElement_51 1 rfl ?_
    refine gz_bipush K (v := (97 : Int32)) dX10_readsElement_52 (by decide) ?_
    refine gz_isub K dX10_readsElement_54 ?_
    refine gz_imul K dX10_readsElement_55 ?_
    refine gz_callV K hex (c_X10_comes K.2.2.2.2.2 K.2.2.1 hp) cf_X10_comes zq5_202 (by decide) (ce_43 _ _ _ _ _ _) rfl dX10_readsElement_56 rfl rfl (Nat.le_of_ble_eq_true rfl) ⟨Nat.le_of_ble_eq_true rfl, Nat.le_of_ble_eq_true rfl⟩ ⟨Nat.le_of_ble_eq_true rfl, Nat.le_of_ble_eq_true rfl⟩ (Nat.le_of_ble_eq_true rfl) (Nat.le_of_ble_eq_true rfl) (fun _ _ h => h.elim) (fun _ τ56 hp => ?_)
    refine gz_norm (st' := []) (cells' := 0) (slots' := 0) rfl rfl rfl ?_
    refine gz_aload_n K dX10_readsElement_59 0 rfl ?_
    refine gz_dup K dX10_readsElement_60 rfl ?_
    refine gz_get K (v := .int (gz_i τ56 43 18)) (by decide) (ce_43 _ _ _ _ _ _) rfl inz_X10 18 (by decide) zq5_49 rfl dX10_readsElement_61 ?_
    refine gz_iconst K (v := (1 : Int32)) dX10_readsElement_64 (by decide) ?_
    refine gz_iadd K dX10_readsElement_65 ?_
    refine gz_put K (x := ((gz_i τ56 43 18) + (1 : Int32))) (by decide) (ce_43 _ _ _ _ _ _) rfl inz_X10 tyX10 tyX10_ok nmX10 18 (by decide) zq5_49 rfl (tyX10_ok _ (by decide)) rfl rfl (Nat.le_of_ble_eq_true rfl) peX10_18 dX10_readsElement_66 ?_
    refine gz_iconst K (v := (1 : Int32)) dX10_readsElement_69 (by decide) ?_
    exact gz_zret K hr (by decide) hp dX10_readsElement_70 (Nat.le_of_ble_eq_true rfl) (Nat.le_of_ble_eq_true rfl)
  have bb_41 : ∀ (σ : Dz) (y1 : Int32) , B_X10_readsElement_41 (X10W 1) post  σ y1 → Gz p l e r_X10_readsElement_1 s m args below meth c D ad ty 5 0 0 (Ez below D ad ty nI0 post (fun _ _ => False) args s 0 0) σ 41 [(0, .ref (ad 43)), (1, .int y1)] [.ref (ad 43)] := by
    intro σ y1 hp
    unfold B_X10_readsElement_41 at hp
    refine gz_iconst K (v := (1 : Int32)) dX10_readsElement_41 (by decide) ?_
    refine gz_goto K 46 dX10_readsElement_42 (by decide) ?_
    exact bb_46 σ y1 (1 : Int32)  hp
  show Gz p l e r_X10_readsElement_1 s m args below meth c D ad ty 5 0 0 (Ez below D ad ty nI0 post (fun _ _ => False) args s 0 0) σ 0 [(0, .ref (ad 43))] []
  refine gz_aload_n K dX10_readsElement_0 0 rfl ?_
  refine gz_callV K hex (c_X10_here K.2.2.2.2.2 K.2.2.1 hp) cf_X10_here zq5_173 (by decide) (ce_43 _ _ _ _ _ _) rfl dX10_readsElement_1 rfl rfl (Nat.le_of_ble_eq_true rfl) ⟨Nat.le_of_ble_eq_true rfl, Nat.le_of_ble_eq_true rfl⟩ ⟨Nat.le_of_ble_eq_true rfl, Nat.le_of_ble_eq_true rfl⟩ (Nat.le_of_ble_eq_true rfl) (Nat.le_of_ble_eq_true rfl) (fun _ _ h => h.elim) (fun r1 τ hp => ?_)
  obtain ⟨rfl, hp⟩ := hp
  refine gz_norm (st' := [.int r1]) (cells' := 0) (slots' := 0) rfl rfl rfl ?_
  refine gz_istore_n K [(1, .int r1), (0, .ref (ad 43))] dX10_readsElement_4 (by decide) rfl ?_
  refine gz_aload_n K dX10_readsElement_5 1 rfl ?_
  refine gz_get K (v := .int (gz_i σ 43 22)) (by decide) (ce_43 _ _ _ _ _ _) rfl inz_X10 22 (by decide) zq5_53 rfl dX10_readsElement_6 ?_
  refine gz_istore_n K [(2, .int (gz_i σ 43 22)), (1, .int r1), (0, .ref (ad 43))] dX10_readsElement_9 (by decide) rfl ?_
  refine gz_iload_n K dX10_readsElement_10 1 rfl ?_
  refine gz_bipush K (v := (97 : Int32)) dX10_readsElement_11 (by decide) ?_
  refine gz_bipush K (v := (101 : Int32)) dX10_readsElement_13 (by decide) ?_
  refine gz_callS K hex (c_X10_in K.2.2.2.2.2 K.2.2.1 hp) cf_X10_in zq5_146 dX10_readsElement_15 rfl rfl (Nat.le_of_ble_eq_true rfl) ⟨Nat.le_of_ble_eq_true rfl, Nat.le_of_ble_eq_true rfl⟩ ⟨Nat.le_of_ble_eq_true rfl, Nat.le_of_ble_eq_true rfl⟩ (Nat.le_of_ble_eq_true rfl) (Nat.le_of_ble_eq_true rfl) (fun _ _ h => h.elim) (fun r15 τ hp => ?_)
  obtain ⟨rfl, hp⟩ := hp
  refine gz_norm (st' := [.int r15]) (cells' := 0) (slots' := 0) rfl rfl rfl ?_
  refine gz_if_eq K 71 dX10_readsElement_18 (by decide) (fun h => ?_) (fun h => ?_)
  · have hp := hp.1 h
    refine gz_iload_n K dX10_readsElement_71 1 rfl ?_
    refine gz_bipush K (v := (40 : Int32)) dX10_readsElement_72 (by decide) ?_
    refine gz_icmp_eq K 83 dX10_readsElement_74 (by decide) (fun h => ?_) (fun h => ?_)
    · have hp := hp.1 h
      refine gz_sub [2, 1, 0] rfl ?_
      exact bb_83 σ r1 (gz_i σ 43 22)  hp
    · have hp := hp.2 h
      refine gz_iload_n K dX10_readsElement_77 1 rfl ?_
      refine gz_bipush K (v := (60 : Int32)) dX10_readsElement_78 (by decide) ?_
      refine gz_icmp_ne K 92 dX10_readsElement_80 (by decide) (fun h => ?_) (fun h => ?_)
      · have hp := hp.1 h
        refine gz_iconst K (v := (0 : Int32)) dX10_readsElement_92 (by decide) ?_
        exact gz_zret K hr (by decide) hp dX10_readsElement_93 (Nat.le_of_ble_eq_true rfl) (Nat.le_of_ble_eq_true rfl)
      · have hp := hp.2 h
        refine gz_sub [2, 1, 0] rfl ?_
        exact bb_83 σ r1 (gz_i σ 43 22)  hp
  · have hp := hp.2 h
    refine gz_aload_n K dX10_readsElement_21 2 rfl ?_
    refine gz_aload_n K dX10_readsElement_22 2 rfl ?_
    refine gz_get K (v := .int (gz_i σ 43 24)) (by decide) (ce_43 _ _ _ _ _ _) rfl inz_X10 24 (by decide) zq5_55 rfl dX10_readsElement_23 ?_
    refine gz_if_ne K 41 dX10_readsElement_26 (by decide) (fun h => ?_) (fun h => ?_)
    · have hp := hp.1 h
      refine gz_sub [2, 1] rfl ?_
      exact bb_41 σ r1  hp
    · have hp := hp.2 h
      refine gz_aload_n K dX10_readsElement_29 2 rfl ?_
      refine gz_get K (v := .ref (ad 45)) (by decide) (ce_43 _ _ _ _ _ _) rfl inz_X10 3 (by decide) zq5_34 rfl dX10_readsElement_30 ?_
      refine gz_iload_n K dX10_readsElement_33 1 rfl ?_
      refine gz_bipush K (v := (97 : Int32)) dX10_readsElement_34 (by decide) ?_
      refine gz_isub K dX10_readsElement_36 ?_
      obtain ⟨h, hp⟩ := hp
      refine gz_zald K (by decide) (ce_45 _ _ _ _ _ _) h dX10_readsElement_37 ?_
      refine gz_if_ne K 45 dX10_readsElement_38 (by decide) (fun h => ?_) (fun h => ?_)
      · have hp := hp.1 h
        refine gz_iconst K (v := (0 : Int32)) dX10_readsElement_45 (by decide) ?_
        refine gz_sub [2, 1] rfl ?_
        exact bb_46 σ r1 (0 : Int32)  hp
      · have hp := hp.2 h
        refine gz_sub [2, 1] rfl ?_
        exact bb_41 σ r1  hp
set_option maxRecDepth 100000 in
set_option maxHeartbeats 4000000 in
theorem c_X10_readsWord_2 {l : Launch} {D : va_G} {ad : Nat → Nat} {ty : Nat → ClassId} (hl : l.stackTraces = false) (hj : ∀ i j, i < 68 → j < 68 → ad i = ad j → i = j) {σ : Dz} {post : Int32 → Dz → Prop} (hp : X10W 2 σ post) : Mz l D ad ty yX10_readsWord cX10_readsWord 2 (some .boolean) r_X10_readsWord_2 nI0 σ [.ref (ad 43)] post (fun _ _ => False) := by
  refine mz_of (by decide) hl hj (Nat.le_of_ble_eq_true rfl) ?_
  intro p e s m args below meth c K hex hr
  have hp : Q_X10_readsWord (X10E 1) σ post := hp
  unfold Q_X10_readsWord at hp
  show Gz p l e r_X10_readsWord_2 s m args below meth c D ad ty 2 0 0 (Ez below D ad ty nI0 post (fun _ _ => False) args s 0 0) σ 0 [(0, .ref (ad 43))] []
  have ll_0 : ∀ (n_0 : Nat) (σ : Dz) , L_X10_readsWord_0 (X10E 1) post  n_0 σ → Gz p l e r_X10_readsWord_2 s m args below meth c D ad ty 2 0 0 (Ez below D ad ty nI0 post (fun _ _ => False) args s 0 0) σ 0 [(0, .ref (ad 43))] [] := by
    intro n_0; induction n_0 with
    | zero => intro σ hp; exact False.elim hp
    | succ n_0 ih_0 =>
      intro σ hp
      have hp : B_X10_readsWord_0 (X10E 1) post  (L_X10_readsWord_0 (X10E 1) post  n_0) σ := hp
      unfold B_X10_readsWord_0 at hp
      have bb_32 : ∀ (σ : Dz) , B_X10_readsWord_32 (X10E 1) post (L_X10_readsWord_0 (X10E 1) post  n_0) σ → Gz p l e r_X10_readsWord_2 s m args below meth c D ad ty 2 0 0 (Ez below D ad ty nI0 post (fun _ _ => False) args s 0 0) σ 32 [(0, .ref (ad 43))] [] := by
        intro σ hp
        unfold B_X10_readsWord_32 at hp
        refine gz_aload_n K dX10_readsWord_32 0 rfl ?_
        refine gz_get K (v := .int (gz_i σ 43 22)) (by decide) (ce_43 _ _ _ _ _ _) rfl inz_X10 22 (by decide) zq5_53 rfl dX10_readsWord_33 ?_
        refine gz_istore_n K [(1, .int (gz_i σ 43 22)), (0, .ref (ad 43))] dX10_readsWord_36 (by decide) rfl ?_
        refine gz_aload_n K dX10_readsWord_37 1 rfl ?_
        refine gz_callS K hex (c_X10_readsElement_1 K.2.2.2.2.2 K.2.2.1 hp) cf_X10_readsElement zq5_199 dX10_readsWord_38 rfl rfl (Nat.le_of_ble_eq_true rfl) ⟨Nat.le_of_ble_eq_true rfl, Nat.le_of_ble_eq_true rfl⟩ ⟨Nat.le_of_ble_eq_true rfl, Nat.le_of_ble_eq_true rfl⟩ (Nat.le_of_ble_eq_true rfl) (Nat.le_of_ble_eq_true rfl) (fun _ _ h => h.elim) (fun r38 τ38 hp => ?_)
        refine gz_norm (st' := [.int r38]) (cells' := 0) (slots' := 0) rfl rfl rfl ?_
        refine gz_if_ne K 46 dX10_readsWord_41 (by decide) (fun h => ?_) (fun h => ?_)
        · have hp := hp.1 h
          refine gz_aload_n K dX10_readsWord_46 1 rfl ?_
          refine gz_iload_n K dX10_readsWord_47 0 rfl ?_
          refine gz_callV K hex (c_X10_readsBehind K.2.2.2.2.2 K.2.2.1 hp) cf_X10_readsBehind zq5_210 (by decide) (ce_43 _ _ _ _ _ _) rfl dX10_readsWord_48 rfl rfl (Nat.le_of_ble_eq_true rfl) ⟨Nat.le_of_ble_eq_true rfl, Nat.le_of_ble_eq_true rfl⟩ ⟨Nat.le_of_ble_eq_true rfl, Nat.le_of_ble_eq_true rfl⟩ (Nat.le_of_ble_eq_true rfl) (Nat.le_of_ble_eq_true rfl) (fun _ _ h => h.elim) (fun _ τ48 hp => ?_)
          refine gz_norm (st' := []) (cells' := 0) (slots' := 0) rfl rfl rfl ?_
          refine gz_goto K 0 dX10_readsWord_51 (by decide) ?_
          refine gz_sub [1] rfl ?_
          exact ih_0 τ48  hp
        · have hp := hp.2 h
          refine gz_iconst K (v := (0 : Int32)) dX10_readsWord_44 (by decide) ?_
          exact gz_zret K hr (by decide) hp dX10_readsWord_45 (Nat.le_of_ble_eq_true rfl) (Nat.le_of_ble_eq_true rfl)
      refine gz_aload_n K dX10_readsWord_0 0 rfl ?_
      refine gz_callV K hex (c_X10_here K.2.2.2.2.2 K.2.2.1 hp) cf_X10_here zq5_173 (by decide) (ce_43 _ _ _ _ _ _) rfl dX10_readsWord_1 rfl rfl (Nat.le_of_ble_eq_true rfl) ⟨Nat.le_of_ble_eq_true rfl, Nat.le_of_ble_eq_true rfl⟩ ⟨Nat.le_of_ble_eq_true rfl, Nat.le_of_ble_eq_true rfl⟩ (Nat.le_of_ble_eq_true rfl) (Nat.le_of_ble_eq_true rfl) (fun _ _ h => h.elim) (fun r1 τ hp => ?_)
      obtain ⟨rfl, hp⟩ := hp
      refine gz_norm (st' := [.int r1]) (cells' := 0) (slots' := 0) rfl rfl rfl ?_
      refine gz_bipush K (v := (97 : Int32)) dX10_readsWord_4 (by decide) ?_
      refine gz_bipush K (v := (101 : Int32)) dX10_readsWord_6 (by decide) ?_
      refine gz_callS K hex (c_X10_in K.2.2.2.2.2 K.2.2.1 hp) cf_X10_in zq5_146 dX10_readsWord_8 rfl rfl (Nat.le_of_ble_eq_true rfl) ⟨Nat.le_of_ble_eq_true rfl, Nat.le_of_ble_eq_true rfl⟩ ⟨Nat.le_of_ble_eq_true rfl, Nat.le_of_ble_eq_true rfl⟩ (Nat.le_of_ble_eq_true rfl) (Nat.le_of_ble_eq_true rfl) (fun _ _ h => h.elim) (fun r8 τ hp => ?_)
      obtain ⟨rfl, hp⟩ := hp
      refine gz_norm (st' := [.int r8]) (cells' := 0) (slots' := 0) rfl rfl rfl ?_
      refine gz_if_ne K 32 dX10_readsWord_11 (by decide) (fun h => ?_) (fun h => ?_)
      · have hp := hp.1 h
        exact bb_32 σ  hp
      · have hp := hp.2 h
        refine gz_aload_n K dX10_readsWord_14 0 rfl ?_
        refine gz_callV K hex (c_X10_here K.2.2.2.2.2 K.2.2.1 hp) cf_X10_here zq5_173 (by decide) (ce_43 _ _ _ _ _ _) rfl dX10_readsWord_15 rfl rfl (Nat.le_of_ble_eq_true rfl) ⟨Nat.le_of_ble_eq_true rfl, Nat.le_of_ble_eq_true rfl⟩ ⟨Nat.le_of_ble_eq_true rfl, Nat.le_of_ble_eq_true rfl⟩ (Nat.le_of_ble_eq_true rfl) (Nat.le_of_ble_eq_true rfl) (fun _ _ h => h.elim) (fun r15 τ hp => ?_)
        obtain ⟨rfl, hp⟩ := hp
        refine gz_norm (st' := [.int r15]) (cells' := 0) (slots' := 0) rfl rfl rfl ?_
        refine gz_bipush K (v := (40 : Int32)) dX10_readsWord_18 (by decide) ?_
        refine gz_icmp_eq K 32 dX10_readsWord_20 (by decide) (fun h => ?_) (fun h => ?_)
        · have hp := hp.1 h
          exact bb_32 σ  hp
        · have hp := hp.2 h
          refine gz_aload_n K dX10_readsWord_23 0 rfl ?_
          refine gz_callV K hex (c_X10_here K.2.2.2.2.2 K.2.2.1 hp) cf_X10_here zq5_173 (by decide) (ce_43 _ _ _ _ _ _) rfl dX10_readsWord_24 rfl rfl (Nat.le_of_ble_eq_true rfl) ⟨Nat.le_of_ble_eq_true rfl, Nat.le_of_ble_eq_true rfl⟩ ⟨Nat.le_of_ble_eq_true rfl, Nat.le_of_ble_eq_true rfl⟩ (Nat.le_of_ble_eq_true rfl) (Nat.le_of_ble_eq_true rfl) (fun _ _ h => h.elim) (fun r24 τ hp => ?_)
          obtain ⟨rfl, hp⟩ := hp
          refine gz_norm (st' := [.int r24]) (cells' := 0) (slots' := 0) rfl rfl rfl ?_
          refine gz_bipush K (v := (60 : Int32)) dX10_readsWord_27 (by decide) ?_
          refine gz_icmp_ne K 54 dX10_readsWord_29 (by decide) (fun h => ?_) (fun h => ?_)
          · have hp := hp.1 h
            refine gz_iconst K (v := (1 : Int32)) dX10_readsWord_54 (by decide) ?_
            exact gz_zret K hr (by decide) hp dX10_readsWord_55 (Nat.le_of_ble_eq_true rfl) (Nat.le_of_ble_eq_true rfl)
          · have hp := hp.2 h
            exact bb_32 σ  hp
  obtain ⟨n, hp⟩ := hp
  exact ll_0 n σ  hp
set_option maxRecDepth 100000 in
set_option maxHeartbeats 4000000 in
theorem c_X10_readsElement_2 {l : Launch} {D : va_G} {ad : Nat → Nat} {ty : Nat → ClassId} (hl : l.stackTraces = false) (hj : ∀ i j, i < 68 → j < 68 → ad i = ad j → i = j) {σ : Dz} {post : Int32 → Dz → Prop} (hp : X10E 2 σ post) : Mz l D ad ty yX10_readsElement cX10_readsElement 5 (some .boolean) r_X10_readsElement_2 nI0 σ [.ref (ad 43)] post (fun _ _ => False) := by
  refine mz_of (by decide) hl hj (Nat.le_of_ble_eq_true rfl) ?_
  intro p e s m args below meth c K hex hr
  have hp : Q_X10_readsElement (X10W 2) σ post := hp
  unfold Q_X10_readsElement at hp
  have bb_181 : ∀ (σ : Dz) (y1 : Int32) (y2 : Int32) (y3 : Int32) (z0 : Int32) (z1 : Int32) , B_X10_readsElement_181 (X10W 2) post  σ y1 y2 y3 z0 z1 → Gz p l e r_X10_readsElement_2 s m args below meth c D ad ty 5 0 0 (Ez below D ad ty nI0 post (fun _ _ => False) args s 0 0) σ 181 [(0, .ref (ad 43)), (1, .int y1), (2, .int y2), (3, .int y3)] [.int z0, .int z1] := by
    intro σ y1 y2 y3 z0 z1 hp
    unfold B_X10_readsElement_181 at hp
    refine gz_icmp_eq K 186 dX10_readsElement_181 (by decide) (fun h => ?_) (fun h => ?_)
    · have hp := hp.1 h
      refine gz_aload_n K dX10_readsElement_186 0 rfl ?_
      refine gz_dup K dX10_readsElement_187 rfl ?_
      refine gz_get K (v := .int (gz_i σ 43 18)) (by decide) (ce_43 _ _ _ _ _ _) rfl inz_X10 18 (by decide) zq5_49 rfl dX10_readsElement_188 ?_
      refine gz_iconst K (v := (1 : Int32)) dX10_readsElement_191 (by decide) ?_
      refine gz_iadd K dX10_readsElement_192 ?_
      refine gz_put K (x := ((gz_i σ 43 18) + (1 : Int32))) (by decide) (ce_43 _ _ _ _ _ _) rfl inz_X10 tyX10 tyX10_ok nmX10 18 (by decide) zq5_49 rfl (tyX10_ok _ (by decide)) rfl rfl (Nat.le_of_ble_eq_true rfl) peX10_18 dX10_readsElement_193 ?_
      refine gz_aload_n K dX10_readsElement_196 0 rfl ?_
      refine gz_dup K dX10_readsElement_197 rfl ?_
      refine gz_get K (v := .int (gz_i (sz_i σ 43 18 ((gz_i σ 43 18) + (1 : Int32))) 43 25)) (by decide) (ce_43 _ _ _ _ _ _) rfl inz_X10 25 (by decide) zq5_56 rfl dX10_readsElement_198 ?_
      refine gz_iconst K (v := (1 : Int32)) dX10_readsElement_201 (by decide) ?_
      refine gz_isub K dX10_readsElement_202 ?_
      refine gz_put K (x := ((gz_i (sz_i σ 43 18 ((gz_i σ 43 18) + (1 : Int32))) 43 25) - (1 : Int32))) (by decide) (ce_43 _ _ _ _ _ _) rfl inz_X10 tyX10 tyX10_ok nmX10 25 (by decide) zq5_56 rfl (tyX10_ok _ (by decide)) rfl rfl (Nat.le_of_ble_eq_true rfl) peX10_25 dX10_readsElement_203 ?_
      refine gz_iload_n K dX10_readsElement_206 1 rfl ?_
      refine gz_bipush K (v := (60 : Int32)) dX10_readsElement_207 (by decide) ?_
      refine gz_icmp_ne K 231 dX10_readsElement_209 (by decide) (fun h => ?_) (fun h => ?_)
      · have hp := hp.1 h
        refine gz_iconst K (v := (1 : Int32)) dX10_readsElement_231 (by decide) ?_
        exact gz_zret K hr (by decide) hp dX10_readsElement_232 (Nat.le_of_ble_eq_true rfl) (Nat.le_of_ble_eq_true rfl)
      · have hp := hp.2 h
        refine gz_aload_n K dX10_readsElement_212 0 rfl ?_
        refine gz_get K (v := .int (gz_i (sz_i (sz_i σ 43 18 ((gz_i σ 43 18) + (1 : Int32))) 43 25 ((gz_i (sz_i σ 43 18 ((gz_i σ 43 18) + (1 : Int32))) 43 25) - (1 : Int32))) 43 22)) (by decide) (ce_43 _ _ _ _ _ _) rfl inz_X10 22 (by decide) zq5_53 rfl dX10_readsElement_213 ?_
        refine gz_istore K [(4, .int (gz_i (sz_i (sz_i σ 43 18 ((gz_i σ 43 18) + (1 : Int32))) 43 25 ((gz_i (sz_i σ 43 18 ((gz_i σ 43 18) + (1 : Int32))) 43 25) - (1 : Int32))) 43 22)), (0, .ref (ad 43)), (1, .int y1), (2, .int y2), (3, .int y3)] dX10_readsElement_216 (by decide) rfl ?_
        refine gz_aload_n K dX10_readsElement_218 1 rfl ?_
        refine gz_iload_n K dX10_readsElement_219 3 rfl ?_
        refine gz_iload_n K dX10_readsElement_220 4 rfl ?_
        refine gz_callV K hex (c_X10_comesBack K.2.2.2.2.2 K.2.2.1 hp) cf_X10_comesBack zq5_206 (by decide) (ce_43 _ _ _ _ _ _) rfl dX10_readsElement_221 rfl rfl (Nat.le_of_ble_eq_true rfl) ⟨Nat.le_of_ble_eq_true rfl, Nat.le_of_ble_eq_true rfl⟩ ⟨Nat.le_of_ble_eq_true rfl, Nat.le_of_ble_eq_true rfl⟩ (Nat.le_of_ble_eq_true rfl) (Nat.le_of_ble_eq_true rfl) (fun _ _ h => h.elim) (fun _ τ221 hp => ?_)
        refine gz_norm (st' := []) (cells' := 0) (slots' := 0) rfl rfl rfl ?_
        refine gz_aload_n K dX10_readsElement_224 1 rfl ?_
        refine gz_iload_n K dX10_readsElement_225 4 rfl ?_
        refine gz_iload K dX10_readsElement_226 0 rfl ?_
        refine gz_callV K hex (c_X10_comesBack K.2.2.2.2.2 K.2.2.1 hp) cf_X10_comesBack zq5_206 (by decide) (ce_43 _ _ _ _ _ _) rfl dX10_readsElement_228 rfl rfl (Nat.le_of_ble_eq_true rfl) ⟨Nat.le_of_ble_eq_true rfl, Nat.le_of_ble_eq_true rfl⟩ ⟨Nat.le_of_ble_eq_true rfl, Nat.le_of_ble_eq_true rfl⟩ (Nat.le_of_ble_eq_true rfl) (Nat.le_of_ble_eq_true rfl) (fun _ _ h => h.elim) (fun _ τ228 hp => ?_)
        refine gz_norm (st' := []) (cells' := 0) (slots' := 0) rfl rfl rfl ?_
        refine gz_iconst K (v := (1 : Int32)) dX10_readsElement_231 (by decide) ?_
        exact gz_zret K hr (by decide) hp dX10_readsElement_232 (Nat.le_of_ble_eq_true rfl) (Nat.le_of_ble_eq_true rfl)
    · have hp := hp.2 h
      refine gz_iconst K (v := (0 : Int32)) dX10_readsElement_184 (by decide) ?_
      exact gz_zret K hr (by decide) hp dX10_readsElement_185 (Nat.le_of_ble_eq_true rfl) (Nat.le_of_ble_eq_true rfl)
  have bb_164 : ∀ (σ : Dz) (y1 : Int32) (y2 : Int32) (y3 : Int32) , B_X10_readsElement_164 (X10W 2) post  σ y1 y2 y3 → Gz p l e r_X10_readsElement_2 s m args below meth c D ad ty 5 0 0 (Ez below D ad ty nI0 post (fun _ _ => False) args s 0 0) σ 164 [(0, .ref (ad 43)), (1, .int y1), (2, .int y2), (3, .int y3)] [] := by
    intro σ y1 y2 y3 hp
    unfold B_X10_readsElement_164 at hp
    refine gz_aload_n K dX10_readsElement_164 0 rfl ?_
    refine gz_callV K hex (c_X10_here K.2.2.2.2.2 K.2.2.1 hp) cf_X10_here zq5_173 (by decide) (ce_43 _ _ _ _ _ _) rfl dX10_readsElement_165 rfl rfl (Nat.le_of_ble_eq_true rfl) ⟨Nat.le_of_ble_eq_true rfl, Nat.le_of_ble_eq_true rfl⟩ ⟨Nat.le_of_ble_eq_true rfl, Nat.le_of_ble_eq_true rfl⟩ (Nat.le_of_ble_eq_true rfl) (Nat.le_of_ble_eq_true rfl) (fun _ _ h => h.elim) (fun r165 τ hp => ?_)
    obtain ⟨rfl, hp⟩ := hp
    refine gz_norm (st' := [.int r165]) (cells' := 0) (slots' := 0) rfl rfl rfl ?_
    refine gz_iload_n K dX10_readsElement_168 1 rfl ?_
    refine gz_bipush K (v := (40 : Int32)) dX10_readsElement_169 (by decide) ?_
    refine gz_icmp_ne K 179 dX10_readsElement_171 (by decide) (fun h => ?_) (fun h => ?_)
    · have hp := hp.1 h
      refine gz_bipush K (v := (62 : Int32)) dX10_readsElement_179 (by decide) ?_
      exact bb_181 σ y1 y2 y3 (62 : Int32) r165  hp
    · have hp := hp.2 h
      refine gz_bipush K (v := (41 : Int32)) dX10_readsElement_174 (by decide) ?_
      refine gz_goto K 181 dX10_readsElement_176 (by decide) ?_
      exact bb_181 σ y1 y2 y3 (41 : Int32) r165  hp
  have bb_83 : ∀ (σ : Dz) (y1 : Int32) (y2 : Int32) , B_X10_readsElement_83 (X10W 2) post  σ y1 y2 → Gz p l e r_X10_readsElement_2 s m args below meth c D ad ty 5 0 0 (Ez below D ad ty nI0 post (fun _ _ => False) args s 0 0) σ 83 [(0, .ref (ad 43)), (1, .int y1), (2, .int y2)] [] := by
    intro σ y1 y2 hp
    unfold B_X10_readsElement_83 at hp
    refine gz_aload_n K dX10_readsElement_83 0 rfl ?_
    refine gz_get K (v := .int (gz_i σ 43 25)) (by decide) (ce_43 _ _ _ _ _ _) rfl inz_X10 25 (by decide) zq5_56 rfl dX10_readsElement_84 ?_
    refine gz_bipush K (v := (6 : Int32)) dX10_readsElement_87 (by decide) ?_
    refine gz_icmp_ne K 94 dX10_readsElement_89 (by decide) (fun h => ?_) (fun h => ?_)
    · have hp := hp.1 h
      refine gz_aload_n K dX10_readsElement_94 0 rfl ?_
      refine gz_dup K dX10_readsElement_95 rfl ?_
      refine gz_get K (v := .int (gz_i σ 43 25)) (by decide) (ce_43 _ _ _ _ _ _) rfl inz_X10 25 (by decide) zq5_56 rfl dX10_readsElement_96 ?_
      refine gz_iconst K (v := (1 : Int32)) dX10_readsElement_99 (by decide) ?_
      refine gz_iadd K dX10_readsElement_100 ?_
      refine gz_put K (x := ((gz_i σ 43 25) + (1 : Int32))) (by decide) (ce_43 _ _ _ _ _ _) rfl inz_X10 tyX10 tyX10_ok nmX10 25 (by decide) zq5_56 rfl (tyX10_ok _ (by decide)) rfl rfl (Nat.le_of_ble_eq_true rfl) peX10_25 dX10_readsElement_101 ?_
      refine gz_aload_n K dX10_readsElement_104 0 rfl ?_
      refine gz_dup K dX10_readsElement_105 rfl ?_
      refine gz_get K (v := .int (gz_i (sz_i σ 43 25 ((gz_i σ 43 25) + (1 : Int32))) 43 18)) (by decide) (ce_43 _ _ _ _ _ _) rfl inz_X10 18 (by decide) zq5_49 rfl dX10_readsElement_106 ?_
      refine gz_iconst K (v := (1 : Int32)) dX10_readsElement_109 (by decide) ?_
      refine gz_iadd K dX10_readsElement_110 ?_
      refine gz_put K (x := ((gz_i (sz_i σ 43 25 ((gz_i σ 43 25) + (1 : Int32))) 43 18) + (1 : Int32))) (by decide) (ce_43 _ _ _ _ _ _) rfl inz_X10 tyX10 tyX10_ok nmX10 18 (by decide) zq5_49 rfl (tyX10_ok _ (by decide)) rfl rfl (Nat.le_of_ble_eq_true rfl) peX10_18 dX10_readsElement_111 ?_
      refine gz_aload_n K dX10_readsElement_114 0 rfl ?_
      refine gz_callS K hex (c_X10_readsWord_2 K.2.2.2.2.2 K.2.2.1 hp) cf_X10_readsWord zq5_196 dX10_readsElement_115 rfl rfl (Nat.le_of_ble_eq_true rfl) ⟨Nat.le_of_ble_eq_true rfl, Nat.le_of_ble_eq_true rfl⟩ ⟨Nat.le_of_ble_eq_true rfl, Nat.le_of_ble_eq_true rfl⟩ (Nat.le_of_ble_eq_true rfl) (Nat.le_of_ble_eq_true rfl) (fun _ _ h => h.elim) (fun r115 τ115 hp => ?_)
      refine gz_norm (st' := [.int r115]) (cells' := 0) (slots' := 0) rfl rfl rfl ?_
      refine gz_if_ne K 123 dX10_readsElement_118 (by decide) (fun h => ?_) (fun h => ?_)
      · have hp := hp.1 h
        refine gz_aload_n K dX10_readsElement_123 0 rfl ?_
        refine gz_get K (v := .int (gz_i τ115 43 22)) (by decide) (ce_43 _ _ _ _ _ _) rfl inz_X10 22 (by decide) zq5_53 rfl dX10_readsElement_124 ?_
        refine gz_istore_n K [(3, .int (gz_i τ115 43 22)), (0, .ref (ad 43)), (1, .int y1), (2, .int y2)] dX10_readsElement_127 (by decide) rfl ?_
        refine gz_iload_n K dX10_readsElement_128 2 rfl ?_
        refine gz_bipush K (v := (60 : Int32)) dX10_readsElement_129 (by decide) ?_
        refine gz_icmp_ne K 164 dX10_readsElement_131 (by decide) (fun h => ?_) (fun h => ?_)
        · have hp := hp.1 h
          refine gz_sub [1, 2, 3, 0] rfl ?_
          exact bb_164 τ115 y1 y2 (gz_i τ115 43 22)  hp
        · have hp := hp.2 h
          refine gz_aload_n K dX10_readsElement_134 1 rfl ?_
          refine gz_callV K hex (c_X10_here K.2.2.2.2.2 K.2.2.1 hp) cf_X10_here zq5_173 (by decide) (ce_43 _ _ _ _ _ _) rfl dX10_readsElement_135 rfl rfl (Nat.le_of_ble_eq_true rfl) ⟨Nat.le_of_ble_eq_true rfl, Nat.le_of_ble_eq_true rfl⟩ ⟨Nat.le_of_ble_eq_true rfl, Nat.le_of_ble_eq_true rfl⟩ (Nat.le_of_ble_eq_true rfl) (Nat.le_of_ble_eq_true rfl) (fun _ _ h => h.elim) (fun r135 τ hp => ?_)
          obtain ⟨rfl, hp⟩ := hp
          refine gz_norm (st' := [.int r135]) (cells' := 0) (slots' := 0) rfl rfl rfl ?_
          refine gz_bipush K (v := (44 : Int32)) dX10_readsElement_138 (by decide) ?_
          refine gz_icmp_eq K 145 dX10_readsElement_140 (by decide) (fun h => ?_) (fun h => ?_)
          · have hp := hp.1 h
            refine gz_aload_n K dX10_readsElement_145 1 rfl ?_
            refine gz_dup K dX10_readsElement_146 rfl ?_
            refine gz_get K (v := .int (gz_i τ115 43 18)) (by decide) (ce_43 _ _ _ _ _ _) rfl inz_X10 18 (by decide) zq5_49 rfl dX10_readsElement_147 ?_
            refine gz_iconst K (v := (1 : Int32)) dX10_readsElement_150 (by decide) ?_
            refine gz_iadd K dX10_readsElement_151 ?_
            refine gz_put K (x := ((gz_i τ115 43 18) + (1 : Int32))) (by decide) (ce_43 _ _ _ _ _ _) rfl inz_X10 tyX10 tyX10_ok nmX10 18 (by decide) zq5_49 rfl (tyX10_ok _ (by decide)) rfl rfl (Nat.le_of_ble_eq_true rfl) peX10_18 dX10_readsElement_152 ?_
            refine gz_aload_n K dX10_readsElement_155 1 rfl ?_
            refine gz_callS K hex (c_X10_readsWord_2 K.2.2.2.2.2 K.2.2.1 hp) cf_X10_readsWord zq5_196 dX10_readsElement_156 rfl rfl (Nat.le_of_ble_eq_true rfl) ⟨Nat.le_of_ble_eq_true rfl, Nat.le_of_ble_eq_true rfl⟩ ⟨Nat.le_of_ble_eq_true rfl, Nat.le_of_ble_eq_true rfl⟩ (Nat.le_of_ble_eq_true rfl) (Nat.le_of_ble_eq_true rfl) (fun _ _ h => h.elim) (fun r156 τ156 hp => ?_)
            refine gz_norm (st' := [.int r156]) (cells' := 0) (slots' := 0) rfl rfl rfl ?_
            refine gz_if_ne K 164 dX10_readsElement_159 (by decide) (fun h => ?_) (fun h => ?_)
            · have hp := hp.1 h
              refine gz_sub [1, 2, 3, 0] rfl ?_
              exact bb_164 τ156 y1 y2 (gz_i τ115 43 22)  hp
            · have hp := hp.2 h
              refine gz_iconst K (v := (0 : Int32)) dX10_readsElement_162 (by decide) ?_
              exact gz_zret K hr (by decide) hp dX10_readsElement_163 (Nat.le_of_ble_eq_true rfl) (Nat.le_of_ble_eq_true rfl)
          · have hp := hp.2 h
            refine gz_iconst K (v := (0 : Int32)) dX10_readsElement_143 (by decide) ?_
            exact gz_zret K hr (by decide) hp dX10_readsElement_144 (Nat.le_of_ble_eq_true rfl) (Nat.le_of_ble_eq_true rfl)
      · have hp := hp.2 h
        refine gz_iconst K (v := (0 : Int32)) dX10_readsElement_121 (by decide) ?_
        exact gz_zret K hr (by decide) hp dX10_readsElement_122 (Nat.le_of_ble_eq_true rfl) (Nat.le_of_ble_eq_true rfl)
    · have hp := hp.2 h
      refine gz_iconst K (v := (0 : Int32)) dX10_readsElement_92 (by decide) ?_
      exact gz_zret K hr (by decide) hp dX10_readsElement_93 (Nat.le_of_ble_eq_true rfl) (Nat.le_of_ble_eq_true rfl)
  have bb_46 : ∀ (σ : Dz) (y1 : Int32) (z0 : Int32) , B_X10_readsElement_46 (X10W 2) post  σ y1 z0 → Gz p l e r_X10_readsElement_2 s m args below meth c D ad ty 5 0 0 (Ez below D ad ty nI0 post (fun _ _ => False) args s 0 0) σ 46 [(0, .ref (ad 43)), (1, .int y1)] [.int z0, .ref (ad 43)] := by
    intro σ y1 z0 hp
    unfold B_X10_readsElement_46 at hp
    obtain ⟨h, hp⟩ := hp
    refine gz_put K (x := z0) (by decide) (ce_43 _ _ _ _ _ _) rfl inz_X10 tyX10 tyX10_ok nmX10 24 (by decide) zq5_55 rfl (tyX10_ok _ (by decide)) (nB h) (fB h) (Nat.le_of_ble_eq_true rfl) peX10_24 dX10_readsElement_46 ?_
    refine gz_aload_n K dX10_readsElement_49 0 rfl ?_
    refine gz_iconst K (v := (2 : Int32)) dX10_readsElement_50 (by decide) ?_
    refine gz_iload_n K dX10_readsElement_51 1 rfl ?_
    refine gz_bipush K (v := (97 : Int32)) dX10_readsElement_52 (by decide) ?_
    refine gz_isub K dX10_readsElement_54 ?_
    refine gz_imul K dX10_readsElement_55 ?_
    refine gz_callV K hex (c_X10_comes K.2.2.2.2.2 K.2.2.1 hp) cf_X10_comes zq5_202 (by decide) (ce_43 _ _ _ _ _ _) rfl dX10_readsElement_56 rfl rfl (Nat.le_of_ble_eq_true rfl) ⟨Nat.le_of_ble_eq_true rfl, Nat.le_of_ble_eq_true rfl⟩ ⟨Nat.le_of_ble_eq_true rfl, Nat.le_of_ble_eq_true rfl⟩ (Nat.le_of_ble_eq_true rfl) (Nat.le_of_ble_eq_true rfl) (fun _ _ h => h.elim) (fun _ τ56 hp => ?_)
    refine gz_norm (st' := []) (cells' := 0) (slots' := 0) rfl rfl rfl ?_
    refine gz_aload_n K dX10_readsElement_59 0 rfl ?_
    refine gz_dup K dX10_readsElement_60 rfl ?_
    refine gz_get K (v := .int (gz_i τ56 43 18)) (by decide) (ce_43 _ _ _ _ _ _) rfl inz_X10 18 (by decide) zq5_49 rfl dX10_readsElement_61 ?_
    refine gz_iconst K (v := (1 : Int32)) dX10_readsElement_64 (by decide) ?_
    refine gz_iadd K dX10_readsElement_65 ?_
    refine gz_put K (x := ((gz_i τ56 43 18) + (1 : Int32))) (by decide) (ce_43 _ _ _ _ _ _) rfl inz_X10 tyX10 tyX10_ok nmX10 18 (by decide) zq5_49 rfl (tyX10_ok _ (by decide)) rfl rfl (Nat.le_of_ble_eq_true rfl) peX10_18 dX10_readsElement_66 ?_
    refine gz_iconst K (v := (1 : Int32)) dX10_readsElement_69 (by decide) ?_
    exact gz_zret K hr (by decide) hp dX10_readsElement_70 (Nat.le_of_ble_eq_true rfl) (Nat.le_of_ble_eq_true rfl)
  have bb_41 : ∀ (σ : Dz) (y1 : Int32) , B_X10_readsElement_41 (X10W 2) post  σ y1 → Gz p l e r_X10_readsElement_2 s m args below meth c D ad ty 5 0 0 (Ez below D ad ty nI0 post (fun _ _ => False) args s 0 0) σ 41 [(0, .ref (ad 43)), (1, .int y1)] [.ref (ad 43)] := by
    intro σ y1 hp
    unfold B_X10_readsElement_41 at hp
    refine gz_iconst K (v := (1 : Int32)) dX10_readsElement_41 (by decide) ?_
    refine gz_goto K 46 dX10_readsElement_42 (by decide) ?_
    exact bb_46 σ y1 (1 : Int32)  hp
  show Gz p l e r_X10_readsElement_2 s m args below meth c D ad ty 5 0 0 (Ez below D ad ty nI0 post (fun _ _ => False) args s 0 0) σ 0 [(0, .ref (ad 43))] []
  refine gz_aload_n K dX10_readsElement_0 0 rfl ?_
  refine gz_callV K hex (c_X10_here K.2.2.2.2.2 K.2.2.1 hp) cf_X10_here zq5_173 (by decide) (ce_43 _ _ _ _ _ _) rfl dX10_readsElement_1 rfl rfl (Nat.le_of_ble_eq_true rfl) ⟨Nat.le_of_ble_eq_true rfl, Nat.le_of_ble_eq_true rfl⟩ ⟨Nat.le_of_ble_eq_true rfl, Nat.le_of_ble_eq_true rfl⟩ (Nat.le_of_ble_eq_true rfl) (Nat.le_of_ble_eq_true rfl) (fun _ _ h => h.elim) (fun r1 τ hp => ?_)
  obtain ⟨rfl, hp⟩ := hp
  refine gz_norm (st' := [.int r1]) (cells' := 0) (slots' := 0) rfl rfl rfl ?_
  refine gz_istore_n K [(1, .int r1), (0, .ref (ad 43))] dX10_readsElement_4 (by decide) rfl ?_
  refine gz_aload_n K dX10_readsElement_5 1 rfl ?_
  refine gz_get K (v := .int (gz_i σ 43 22)) (by decide) (ce_43 _ _ _ _ _ _) rfl inz_X10 22 (by decide) zq5_53 rfl dX10_readsElement_6 ?_
  refine gz_istore_n K [(2, .int (gz_i σ 43 22)), (1, .int r1), (0, .ref (ad 43))] dX10_readsElement_9 (by decide) rfl ?_
  refine gz_iload_n K dX10_readsElement_10 1 rfl ?_
  refine gz_bipush K (v := (97 : Int32)) dX10_readsElement_11 (by decide) ?_
  refine gz_bipush K (v := (101 : Int32)) dX10_readsElement_13 (by decide) ?_
  refine gz_callS K hex (c_X10_in K.2.2.2.2.2 K.2.2.1 hp) cf_X10_in zq5_146 dX10_readsElement_15 rfl rfl (Nat.le_of_ble_eq_true rfl) ⟨Nat.le_of_ble_eq_true rfl, Nat.le_of_ble_eq_true rfl⟩ ⟨Nat.le_of_ble_eq_true rfl, Nat.le_of_ble_eq_true rfl⟩ (Nat.le_of_ble_eq_true rfl) (Nat.le_of_ble_eq_true rfl) (fun _ _ h => h.elim) (fun r15 τ hp => ?_)
  obtain ⟨rfl, hp⟩ := hp
  refine gz_norm (st' := [.int r15]) (cells' := 0) (slots' := 0) rfl rfl rfl ?_
  refine gz_if_eq K 71 dX10_readsElement_18 (by decide) (fun h => ?_) (fun h => ?_)
  · have hp := hp.1 h
    refine gz_iload_n K dX10_readsElement_71 1 rfl ?_
    refine gz_bipush K (v := (40 : Int32)) dX10_readsElement_72 (by decide) ?_
    refine gz_icmp_eq K 83 dX10_readsElement_74 (by decide) (fun h => ?_) (fun h => ?_)
    · have hp := hp.1 h
      refine gz_sub [2, 1, 0] rfl ?_
      exact bb_83 σ r1 (gz_i σ 43 22)  hp
    · have hp := hp.2 h
      refine gz_iload_n K dX10_readsElement_77 1 rfl ?_
      refine gz_bipush K (v := (60 : Int32)) dX10_readsElement_78 (by decide) ?_
      refine gz_icmp_ne K 92 dX10_readsElement_80 (by decide) (fun h => ?_) (fun h => ?_)
      · have hp := hp.1 h
        refine gz_iconst K (v := (0 : Int32)) dX10_readsElement_92 (by decide) ?_
        exact gz_zret K hr (by decide) hp dX10_readsElement_93 (Nat.le_of_ble_eq_true rfl) (Nat.le_of_ble_eq_true rfl)
      · have hp := hp.2 h
        refine gz_sub [2, 1, 0] rfl ?_
        exact bb_83 σ r1 (gz_i σ 43 22)  hp
  · have hp := hp.2 h
    refine gz_aload_n K dX10_readsElement_21 2 rfl ?_
    refine gz_aload_n K dX10_readsElement_22 2 rfl ?_
    refine gz_get K (v := .int (gz_i σ 43 24)) (by decide) (ce_43 _ _ _ _ _ _) rfl inz_X10 24 (by decide) zq5_55 rfl dX10_readsElement_23 ?_
    refine gz_if_ne K 41 dX10_readsElement_26 (by decide) (fun h => ?_) (fun h => ?_)
    · have hp := hp.1 h
      refine gz_sub [2, 1] rfl ?_
      exact bb_41 σ r1  hp
    · have hp := hp.2 h
      refine gz_aload_n K dX10_readsElement_29 2 rfl ?_
      refine gz_get K (v := .ref (ad 45)) (by decide) (ce_43 _ _ _ _ _ _) rfl inz_X10 3 (by decide) zq5_34 rfl dX10_readsElement_30 ?_
      refine gz_iload_n K dX10_readsElement_33 1 rfl ?_
      refine gz_bipush K (v := (97 : Int32)) dX10_readsElement_34 (by decide) ?_
      refine gz_isub K dX10_readsElement_36 ?_
      obtain ⟨h, hp⟩ := hp
      refine gz_zald K (by decide) (ce_45 _ _ _ _ _ _) h dX10_readsElement_37 ?_
      refine gz_if_ne K 45 dX10_readsElement_38 (by decide) (fun h => ?_) (fun h => ?_)
      · have hp := hp.1 h
        refine gz_iconst K (v := (0 : Int32)) dX10_readsElement_45 (by decide) ?_
        refine gz_sub [2, 1] rfl ?_
        exact bb_46 σ r1 (0 : Int32)  hp
      · have hp := hp.2 h
        refine gz_sub [2, 1] rfl ?_
        exact bb_41 σ r1  hp
set_option maxRecDepth 100000 in
set_option maxHeartbeats 4000000 in
theorem c_X10_readsWord_3 {l : Launch} {D : va_G} {ad : Nat → Nat} {ty : Nat → ClassId} (hl : l.stackTraces = false) (hj : ∀ i j, i < 68 → j < 68 → ad i = ad j → i = j) {σ : Dz} {post : Int32 → Dz → Prop} (hp : X10W 3 σ post) : Mz l D ad ty yX10_readsWord cX10_readsWord 2 (some .boolean) r_X10_readsWord_3 nI0 σ [.ref (ad 43)] post (fun _ _ => False) := by
  refine mz_of (by decide) hl hj (Nat.le_of_ble_eq_true rfl) ?_
  intro p e s m args below meth c K hex hr
  have hp : Q_X10_readsWord (X10E 2) σ post := hp
  unfold Q_X10_readsWord at hp
  show Gz p l e r_X10_readsWord_3 s m args below meth c D ad ty 2 0 0 (Ez below D ad ty nI0 post (fun _ _ => False) args s 0 0) σ 0 [(0, .ref (ad 43))] []
  have ll_0 : ∀ (n_0 : Nat) (σ : Dz) , L_X10_readsWord_0 (X10E 2) post  n_0 σ → Gz p l e r_X10_readsWord_3 s m args below meth c D ad ty 2 0 0 (Ez below D ad ty nI0 post (fun _ _ => False) args s 0 0) σ 0 [(0, .ref (ad 43))] [] := by
    intro n_0; induction n_0 with
    | zero => intro σ hp; exact False.elim hp
    | succ n_0 ih_0 =>
      intro σ hp
      have hp : B_X10_readsWord_0 (X10E 2) post  (L_X10_readsWord_0 (X10E 2) post  n_0) σ := hp
      unfold B_X10_readsWord_0 at hp
      have bb_32 : ∀ (σ : Dz) , B_X10_readsWord_32 (X10E 2) post (L_X10_readsWord_0 (X10E 2) post  n_0) σ → Gz p l e r_X10_readsWord_3 s m args below meth c D ad ty 2 0 0 (Ez below D ad ty nI0 post (fun _ _ => False) args s 0 0) σ 32 [(0, .ref (ad 43))] [] := by
        intro σ hp
        unfold B_X10_readsWord_32 at hp
        refine gz_aload_n K dX10_readsWord_32 0 rfl ?_
        refine gz_get K (v := .int (gz_i σ 43 22)) (by decide) (ce_43 _ _ _ _ _ _) rfl inz_X10 22 (by decide) zq5_53 rfl dX10_readsWord_33 ?_
        refine gz_istore_n K [(1, .int (gz_i σ 43 22)), (0, .ref (ad 43))] dX10_readsWord_36 (by decide) rfl ?_
        refine gz_aload_n K dX10_readsWord_37 1 rfl ?_
        refine gz_callS K hex (c_X10_readsElement_2 K.2.2.2.2.2 K.2.2.1 hp) cf_X10_readsElement zq5_199 dX10_readsWord_38 rfl rfl (Nat.le_of_ble_eq_true rfl) ⟨Nat.le_of_ble_eq_true rfl, Nat.le_of_ble_eq_true rfl⟩ ⟨Nat.le_of_ble_eq_true rfl, Nat.le_of_ble_eq_true rfl⟩ (Nat.le_of_ble_eq_true rfl) (Nat.le_of_ble_eq_true rfl) (fun _ _ h => h.elim) (fun r38 τ38 hp => ?_)
        refine gz_norm (st' := [.int r38]) (cells' := 0) (slots' := 0) rfl rfl rfl ?_
        refine gz_if_ne K 46 dX10_readsWord_41 (by decide) (fun h => ?_) (fun h => ?_)
        · have hp := hp.1 h
          refine gz_aload_n K dX10_readsWord_46 1 rfl ?_
          refine gz_iload_n K dX10_readsWord_47 0 rfl ?_
          refine gz_callV K hex (c_X10_readsBehind K.2.2.2.2.2 K.2.2.1 hp) cf_X10_readsBehind zq5_210 (by decide) (ce_43 _ _ _ _ _ _) rfl dX10_readsWord_48 rfl rfl (Nat.le_of_ble_eq_true rfl) ⟨Nat.le_of_ble_eq_true rfl, Nat.le_of_ble_eq_true rfl⟩ ⟨Nat.le_of_ble_eq_true rfl, Nat.le_of_ble_eq_true rfl⟩ (Nat.le_of_ble_eq_true rfl) (Nat.le_of_ble_eq_true rfl) (fun _ _ h => h.elim) (fun _ τ48 hp => ?_)
          refine gz_norm (st' := []) (cells' := 0) (slots' := 0) rfl rfl rfl ?_
          refine gz_goto K 0 dX10_readsWord_51 (by decide) ?_
          refine gz_sub [1] rfl ?_
          exact ih_0 τ48  hp
        · have hp := hp.2 h
          refine gz_iconst K (v := (0 : Int32)) dX10_readsWord_44 (by decide) ?_
          exact gz_zret K hr (by decide) hp dX10_readsWord_45 (Nat.le_of_ble_eq_true rfl) (Nat.le_of_ble_eq_true rfl)
      refine gz_aload_n K dX10_readsWord_0 0 rfl ?_
      refine gz_callV K hex (c_X10_here K.2.2.2.2.2 K.2.2.1 hp) cf_X10_here zq5_173 (by decide) (ce_43 _ _ _ _ _ _) rfl dX10_readsWord_1 rfl rfl (Nat.le_of_ble_eq_true rfl) ⟨Nat.le_of_ble_eq_true rfl, Nat.le_of_ble_eq_true rfl⟩ ⟨Nat.le_of_ble_eq_true rfl, Nat.le_of_ble_eq_true rfl⟩ (Nat.le_of_ble_eq_true rfl) (Nat.le_of_ble_eq_true rfl) (fun _ _ h => h.elim) (fun r1 τ hp => ?_)
      obtain ⟨rfl, hp⟩ := hp
      refine gz_norm (st' := [.int r1]) (cells' := 0) (slots' := 0) rfl rfl rfl ?_
      refine gz_bipush K (v := (97 : Int32)) dX10_readsWord_4 (by decide) ?_
      refine gz_bipush K (v := (101 : Int32)) dX10_readsWord_6 (by decide) ?_
      refine gz_callS K hex (c_X10_in K.2.2.2.2.2 K.2.2.1 hp) cf_X10_in zq5_146 dX10_readsWord_8 rfl rfl (Nat.le_of_ble_eq_true rfl) ⟨Nat.le_of_ble_eq_true rfl, Nat.le_of_ble_eq_true rfl⟩ ⟨Nat.le_of_ble_eq_true rfl, Nat.le_of_ble_eq_true rfl⟩ (Nat.le_of_ble_eq_true rfl) (Nat.le_of_ble_eq_true rfl) (fun _ _ h => h.elim) (fun r8 τ hp => ?_)
      obtain ⟨rfl, hp⟩ := hp
      refine gz_norm (st' := [.int r8]) (cells' := 0) (slots' := 0) rfl rfl rfl ?_
      refine gz_if_ne K 32 dX10_readsWord_11 (by decide) (fun h => ?_) (fun h => ?_)
      · have hp := hp.1 h
        exact bb_32 σ  hp
      · have hp := hp.2 h
        refine gz_aload_n K dX10_readsWord_14 0 rfl ?_
        refine gz_callV K hex (c_X10_here K.2.2.2.2.2 K.2.2.1 hp) cf_X10_here zq5_173 (by decide) (ce_43 _ _ _ _ _ _) rfl dX10_readsWord_15 rfl rfl (Nat.le_of_ble_eq_true rfl) ⟨Nat.le_of_ble_eq_true rfl, Nat.le_of_ble_eq_true rfl⟩ ⟨Nat.le_of_ble_eq_true rfl, Nat.le_of_ble_eq_true rfl⟩ (Nat.le_of_ble_eq_true rfl) (Nat.le_of_ble_eq_true rfl) (fun _ _ h => h.elim) (fun r15 τ hp => ?_)
        obtain ⟨rfl, hp⟩ := hp
        refine gz_norm (st' := [.int r15]) (cells' := 0) (slots' := 0) rfl rfl rfl ?_
        refine gz_bipush K (v := (40 : Int32)) dX10_readsWord_18 (by decide) ?_
        refine gz_icmp_eq K 32 dX10_readsWord_20 (by decide) (fun h => ?_) (fun h => ?_)
        · have hp := hp.1 h
          exact bb_32 σ  hp
        · have hp := hp.2 h
          refine gz_aload_n K dX10_readsWord_23 0 rfl ?_
          refine gz_callV K hex (c_X10_here K.2.2.2.2.2 K.2.2.1 hp) cf_X10_here zq5_173 (by decide) (ce_43 _ _ _ _ _ _) rfl dX10_readsWord_24 rfl rfl (Nat.le_of_ble_eq_true rfl) ⟨Nat.le_of_ble_eq_true rfl, Nat.le_of_ble_eq_true rfl⟩ ⟨Nat.le_of_ble_eq_true rfl, Nat.le_of_ble_eq_true rfl⟩ (Nat.le_of_ble_eq_true rfl) (Nat.le_of_ble_eq_true rfl) (fun _ _ h => h.elim) (fun r24 τ hp => ?_)
          obtain ⟨rfl, hp⟩ := hp
          refine gz_norm (st' := [.int r24]) (cells' := 0) (slots' := 0) rfl rfl rfl ?_
          refine gz_bipush K (v := (60 : Int32)) dX10_readsWord_27 (by decide) ?_
          refine gz_icmp_ne K 54 dX10_readsWord_29 (by decide) (fun h => ?_) (fun h => ?_)
          · have hp := hp.1 h
            refine gz_iconst K (v := (1 : Int32)) dX10_readsWord_54 (by decide) ?_
            exact gz_zret K hr (by decide) hp dX10_readsWord_55 (Nat.le_of_ble_eq_true rfl) (Nat.le_of_ble_eq_true rfl)
          · have hp := hp.2 h
            exact bb_32 σ  hp
  obtain ⟨n, hp⟩ := hp
  exact ll_0 n σ  hp
set_option maxRecDepth 100000 in
set_option maxHeartbeats 4000000 in
theorem c_X10_readsElement_3 {l : Launch} {D : va_G} {ad : Nat → Nat} {ty : Nat → ClassId} (hl : l.stackTraces = false) (hj : ∀ i j, i < 68 → j < 68 → ad i = ad j → i = j) {σ : Dz} {post : Int32 → Dz → Prop} (hp : X10E 3 σ post) : Mz l D ad ty yX10_readsElement cX10_readsElement 5 (some .boolean) r_X10_readsElement_3 nI0 σ [.ref (ad 43)] post (fun _ _ => False) := by
  refine mz_of (by decide) hl hj (Nat.le_of_ble_eq_true rfl) ?_
  intro p e s m args below meth c K hex hr
  have hp : Q_X10_readsElement (X10W 3) σ post := hp
  unfold Q_X10_readsElement at hp
  have bb_181 : ∀ (σ : Dz) (y1 : Int32) (y2 : Int32) (y3 : Int32) (z0 : Int32) (z1 : Int32) , B_X10_readsElement_181 (X10W 3) post  σ y1 y2 y3 z0 z1 → Gz p l e r_X10_readsElement_3 s m args below meth c D ad ty 5 0 0 (Ez below D ad ty nI0 post (fun _ _ => False) args s 0 0) σ 181 [(0, .ref (ad 43)), (1, .int y1), (2, .int y2), (3, .int y3)] [.int z0, .int z1] := by
    intro σ y1 y2 y3 z0 z1 hp
    unfold B_X10_readsElement_181 at hp
    refine gz_icmp_eq K 186 dX10_readsElement_181 (by decide) (fun h => ?_) (fun h => ?_)
    · have hp := hp.1 h
      refine gz_aload_n K dX10_readsElement_186 0 rfl ?_
      refine gz_dup K dX10_readsElement_187 rfl ?_
      refine gz_get K (v := .int (gz_i σ 43 18)) (by decide) (ce_43 _ _ _ _ _ _) rfl inz_X10 18 (by decide) zq5_49 rfl dX10_readsElement_188 ?_
      refine gz_iconst K (v := (1 : Int32)) dX10_readsElement_191 (by decide) ?_
      refine gz_iadd K dX10_readsElement_192 ?_
      refine gz_put K (x := ((gz_i σ 43 18) + (1 : Int32))) (by decide) (ce_43 _ _ _ _ _ _) rfl inz_X10 tyX10 tyX10_ok nmX10 18 (by decide) zq5_49 rfl (tyX10_ok _ (by decide)) rfl rfl (Nat.le_of_ble_eq_true rfl) peX10_18 dX10_readsElement_193 ?_
      refine gz_aload_n K dX10_readsElement_196 0 rfl ?_
      refine gz_dup K dX10_readsElement_197 rfl ?_
      refine gz_get K (v := .int (gz_i (sz_i σ 43 18 ((gz_i σ 43 18) + (1 : Int32))) 43 25)) (by decide) (ce_43 _ _ _ _ _ _) rfl inz_X10 25 (by decide) zq5_56 rfl dX10_readsElement_198 ?_
      refine gz_iconst K (v := (1 : Int32)) dX10_readsElement_201 (by decide) ?_
      refine gz_isub K dX10_readsElement_202 ?_
      refine gz_put K (x := ((gz_i (sz_i σ 43 18 ((gz_i σ 43 18) + (1 : Int32))) 43 25) - (1 : Int32))) (by decide) (ce_43 _ _ _ _ _ _) rfl inz_X10 tyX10 tyX10_ok nmX10 25 (by decide) zq5_56 rfl (tyX10_ok _ (by decide)) rfl rfl (Nat.le_of_ble_eq_true rfl) peX10_25 dX10_readsElement_203 ?_
      refine gz_iload_n K dX10_readsElement_206 1 rfl ?_
      refine gz_bipush K (v := (60 : Int32)) dX10_readsElement_207 (by decide) ?_
      refine gz_icmp_ne K 231 dX10_readsElement_209 (by decide) (fun h => ?_) (fun h => ?_)
      · have hp := hp.1 h
        refine gz_iconst K (v := (1 : Int32)) dX10_readsElement_231 (by decide) ?_
        exact gz_zret K hr (by decide) hp dX10_readsElement_232 (Nat.le_of_ble_eq_true rfl) (Nat.le_of_ble_eq_true rfl)
      · have hp := hp.2 h
        refine gz_aload_n K dX10_readsElement_212 0 rfl ?_
        refine gz_get K (v := .int (gz_i (sz_i (sz_i σ 43 18 ((gz_i σ 43 18) + (1 : Int32))) 43 25 ((gz_i (sz_i σ 43 18 ((gz_i σ 43 18) + (1 : Int32))) 43 25) - (1 : Int32))) 43 22)) (by decide) (ce_43 _ _ _ _ _ _) rfl inz_X10 22 (by decide) zq5_53 rfl dX10_readsElement_213 ?_
        refine gz_istore K [(4, .int (gz_i (sz_i (sz_i σ 43 18 ((gz_i σ 43 18) + (1 : Int32))) 43 25 ((gz_i (sz_i σ 43 18 ((gz_i σ 43 18) + (1 : Int32))) 43 25) - (1 : Int32))) 43 22)), (0, .ref (ad 43)), (1, .int y1), (2, .int y2), (3, .int y3)] dX10_readsElement_216 (by decide) rfl ?_
        refine gz_aload_n K dX10_readsElement_218 1 rfl ?_
        refine gz_iload_n K dX10_readsElement_219 3 rfl ?_
        refine gz_iload_n K dX10_readsElement_220 4 rfl ?_
        refine gz_callV K hex (c_X10_comesBack K.2.2.2.2.2 K.2.2.1 hp) cf_X10_comesBack zq5_206 (by decide) (ce_43 _ _ _ _ _ _) rfl dX10_readsElement_221 rfl rfl (Nat.le_of_ble_eq_true rfl) ⟨Nat.le_of_ble_eq_true rfl, Nat.le_of_ble_eq_true rfl⟩ ⟨Nat.le_of_ble_eq_true rfl, Nat.le_of_ble_eq_true rfl⟩ (Nat.le_of_ble_eq_true rfl) (Nat.le_of_ble_eq_true rfl) (fun _ _ h => h.elim) (fun _ τ221 hp => ?_)
        refine gz_norm (st' := []) (cells' := 0) (slots' := 0) rfl rfl rfl ?_
        refine gz_aload_n K dX10_readsElement_224 1 rfl ?_
        refine gz_iload_n K dX10_readsElement_225 4 rfl ?_
        refine gz_iload K dX10_readsElement_226 0 rfl ?_
        refine gz_callV K hex (c_X10_comesBack K.2.2.2.2.2 K.2.2.1 hp) cf_X10_comesBack zq5_206 (by decide) (ce_43 _ _ _ _ _ _) rfl dX10_readsElement_228 rfl rfl (Nat.le_of_ble_eq_true rfl) ⟨Nat.le_of_ble_eq_true rfl, Nat.le_of_ble_eq_true rfl⟩ ⟨Nat.le_of_ble_eq_true rfl, Nat.le_of_ble_eq_true rfl⟩ (Nat.le_of_ble_eq_true rfl) (Nat.le_of_ble_eq_true rfl) (fun _ _ h => h.elim) (fun _ τ228 hp => ?_)
        refine gz_norm (st' := []) (cells' := 0) (slots' := 0) rfl rfl rfl ?_
        refine gz_iconst K (v := (1 : Int32)) dX10_readsElement_231 (by decide) ?_
        exact gz_zret K hr (by decide) hp dX10_readsElement_232 (Nat.le_of_ble_eq_true rfl) (Nat.le_of_ble_eq_true rfl)
    · have hp := hp.2 h
      refine gz_iconst K (v := (0 : Int32)) dX10_readsElement_184 (by decide) ?_
      exact gz_zret K hr (by decide) hp dX10_readsElement_185 (Nat.le_of_ble_eq_true rfl) (Nat.le_of_ble_eq_true rfl)
  have bb_164 : ∀ (σ : Dz) (y1 : Int32) (y2 : Int32) (y3 : Int32) , B_X10_readsElement_164 (X10W 3) post  σ y1 y2 y3 → Gz p l e r_X10_readsElement_3 s m args below meth c D ad ty 5 0 0 (Ez below D ad ty nI0 post (fun _ _ => False) args s 0 0) σ 164 [(0, .ref (ad 43)), (1, .int y1), (2, .int y2), (3, .int y3)] [] := by
    intro σ y1 y2 y3 hp
    unfold B_X10_readsElement_164 at hp
    refine gz_aload_n K dX10_readsElement_164 0 rfl ?_
    refine gz_callV K hex (c_X10_here K.2.2.2.2.2 K.2.2.1 hp) cf_X10_here zq5_173 (by decide) (ce_43 _ _ _ _ _ _) rfl dX10_readsElement_165 rfl rfl (Nat.le_of_ble_eq_true rfl) ⟨Nat.le_of_ble_eq_true rfl, Nat.le_of_ble_eq_true rfl⟩ ⟨Nat.le_of_ble_eq_true rfl, Nat.le_of_ble_eq_true rfl⟩ (Nat.le_of_ble_eq_true rfl) (Nat.le_of_ble_eq_true rfl) (fun _ _ h => h.elim) (fun r165 τ hp => ?_)
    obtain ⟨rfl, hp⟩ := hp
    refine gz_norm (st' := [.int r165]) (cells' := 0) (slots' := 0) rfl rfl rfl ?_
    refine gz_iload_n K dX10_readsElement_168 1 rfl ?_
    refine gz_bipush K (v := (40 : Int32)) dX10_readsElement_169 (by decide) ?_
    refine gz_icmp_ne K 179 dX10_readsElement_171 (by decide) (fun h => ?_) (fun h => ?_)
    · have hp := hp.1 h
      refine gz_bipush K (v := (62 : Int32)) dX10_readsElement_179 (by decide) ?_
      exact bb_181 σ y1 y2 y3 (62 : Int32) r165  hp
    · have hp := hp.2 h
      refine gz_bipush K (v := (41 : Int32)) dX10_readsElement_174 (by decide) ?_
      refine gz_goto K 181 dX10_readsElement_176 (by decide) ?_
      exact bb_181 σ y1 y2 y3 (41 : Int32) r165  hp
  have bb_83 : ∀ (σ : Dz) (y1 : Int32) (y2 : Int32) , B_X10_readsElement_83 (X10W 3) post  σ y1 y2 → Gz p l e r_X10_readsElement_3 s m args below meth c D ad ty 5 0 0 (Ez below D ad ty nI0 post (fun _ _ => False) args s 0 0) σ 83 [(0, .ref (ad 43)), (1, .int y1), (2, .int y2)] [] := by
    intro σ y1 y2 hp
    unfold B_X10_readsElement_83 at hp
    refine gz_aload_n K dX10_readsElement_83 0 rfl ?_
    refine gz_get K (v := .int (gz_i σ 43 25)) (by decide) (ce_43 _ _ _ _ _ _) rfl inz_X10 25 (by decide) zq5_56 rfl dX10_readsElement_84 ?_
    refine gz_bipush K (v := (6 : Int32)) dX10_readsElement_87 (by decide) ?_
    refine gz_icmp_ne K 94 dX10_readsElement_89 (by decide) (fun h => ?_) (fun h => ?_)
    · have hp := hp.1 h
      refine gz_aload_n K dX10_readsElement_94 0 rfl ?_
      refine gz_dup K dX10_readsElement_95 rfl ?_
      refine gz_get K (v := .int (gz_i σ 43 25)) (by decide) (ce_43 _ _ _ _ _ _) rfl inz_X10 25 (by decide) zq5_56 rfl dX10_readsElement_96 ?_
      refine gz_iconst K (v := (1 : Int32)) dX10_readsElement_99 (by decide) ?_
      refine gz_iadd K dX10_readsElement_100 ?_
      refine gz_put K (x := ((gz_i σ 43 25) + (1 : Int32))) (by decide) (ce_43 _ _ _ _ _ _) rfl inz_X10 tyX10 tyX10_ok nmX10 25 (by decide) zq5_56 rfl (tyX10_ok _ (by decide)) rfl rfl (Nat.le_of_ble_eq_true rfl) peX10_25 dX10_readsElement_101 ?_
      refine gz_aload_n K dX10_readsElement_104 0 rfl ?_
      refine gz_dup K dX10_readsElement_105 rfl ?_
      refine gz_get K (v := .int (gz_i (sz_i σ 43 25 ((gz_i σ 43 25) + (1 : Int32))) 43 18)) (by decide) (ce_43 _ _ _ _ _ _) rfl inz_X10 18 (by decide) zq5_49 rfl dX10_readsElement_106 ?_
      refine gz_iconst K (v := (1 : Int32)) dX10_readsElement_109 (by decide) ?_
      refine gz_iadd K dX10_readsElement_110 ?_
      refine gz_put K (x := ((gz_i (sz_i σ 43 25 ((gz_i σ 43 25) + (1 : Int32))) 43 18) + (1 : Int32))) (by decide) (ce_43 _ _ _ _ _ _) rfl inz_X10 tyX10 tyX10_ok nmX10 18 (by decide) zq5_49 rfl (tyX10_ok _ (by decide)) rfl rfl (Nat.le_of_ble_eq_true rfl) peX10_18 dX10_readsElement_111 ?_
      refine gz_aload_n K dX10_readsElement_114 0 rfl ?_
      refine gz_callS K hex (c_X10_readsWord_3 K.2.2.2.2.2 K.2.2.1 hp) cf_X10_readsWord zq5_196 dX10_readsElement_115 rfl rfl (Nat.le_of_ble_eq_true rfl) ⟨Nat.le_of_ble_eq_true rfl, Nat.le_of_ble_eq_true rfl⟩ ⟨Nat.le_of_ble_eq_true rfl, Nat.le_of_ble_eq_true rfl⟩ (Nat.le_of_ble_eq_true rfl) (Nat.le_of_ble_eq_true rfl) (fun _ _ h => h.elim) (fun r115 τ115 hp => ?_)
      refine gz_norm (st' := [.int r115]) (cells' := 0) (slots' := 0) rfl rfl rfl ?_
      refine gz_if_ne K 123 dX10_readsElement_118 (by decide) (fun h => ?_) (fun h => ?_)
      · have hp := hp.1 h
        refine gz_aload_n K dX10_readsElement_123 0 rfl ?_
        refine gz_get K (v := .int (gz_i τ115 43 22)) (by decide) (ce_43 _ _ _ _ _ _) rfl inz_X10 22 (by decide) zq5_53 rfl dX10_readsElement_124 ?_
        refine gz_istore_n K [(3, .int (gz_i τ115 43 22)), (0, .ref (ad 43)), (1, .int y1), (2, .int y2)] dX10_readsElement_127 (by decide) rfl ?_
        refine gz_iload_n K dX10_readsElement_128 2 rfl ?_
        refine gz_bipush K (v := (60 : Int32)) dX10_readsElement_129 (by decide) ?_
        refine gz_icmp_ne K 164 dX10_readsElement_131 (by decide) (fun h => ?_) (fun h => ?_)
        · have hp := hp.1 h
          refine gz_sub [1, 2, 3, 0] rfl ?_
          exact bb_164 τ115 y1 y2 (gz_i τ115 43 22)  hp
        · have hp := hp.2 h
          refine gz_aload_n K dX10_readsElement_134 1 rfl ?_
          refine gz_callV K hex (c_X10_here K.2.2.2.2.2 K.2.2.1 hp) cf_X10_here zq5_173 (by decide) (ce_43 _ _ _ _ _ _) rfl dX10_readsElement_135 rfl rfl (Nat.le_of_ble_eq_true rfl) ⟨Nat.le_of_ble_eq_true rfl, Nat.le_of_ble_eq_true rfl⟩ ⟨Nat.le_of_ble_eq_true rfl, Nat.le_of_ble_eq_true rfl⟩ (Nat.le_of_ble_eq_true rfl) (Nat.le_of_ble_eq_true rfl) (fun _ _ h => h.elim) (fun r135 τ hp => ?_)
          obtain ⟨rfl, hp⟩ := hp
          refine gz_norm (st' := [.int r135]) (cells' := 0) (slots' := 0) rfl rfl rfl ?_
          refine gz_bipush K (v := (44 : Int32)) dX10_readsElement_138 (by decide) ?_
          refine gz_icmp_eq K 145 dX10_readsElement_140 (by decide) (fun h => ?_) (fun h => ?_)
          · have hp := hp.1 h
            refine gz_aload_n K dX10_readsElement_145 1 rfl ?_
            refine gz_dup K dX10_readsElement_146 rfl ?_
            refine gz_get K (v := .int (gz_i τ115 43 18)) (by decide) (ce_43 _ _ _ _ _ _) rfl inz_X10 18 (by decide) zq5_49 rfl dX10_readsElement_147 ?_
            refine gz_iconst K (v := (1 : Int32)) dX10_readsElement_150 (by decide) ?_
            refine gz_iadd K dX10_readsElement_151 ?_
            refine gz_put K (x := ((gz_i τ115 43 18) + (1 : Int32))) (by decide) (ce_43 _ _ _ _ _ _) rfl inz_X10 tyX10 tyX10_ok nmX10 18 (by decide) zq5_49 rfl (tyX10_ok _ (by decide)) rfl rfl (Nat.le_of_ble_eq_true rfl) peX10_18 dX10_readsElement_152 ?_
            refine gz_aload_n K dX10_readsElement_155 1 rfl ?_
            refine gz_callS K hex (c_X10_readsWord_3 K.2.2.2.2.2 K.2.2.1 hp) cf_X10_readsWord zq5_196 dX10_readsElement_156 rfl rfl (Nat.le_of_ble_eq_true rfl) ⟨Nat.le_of_ble_eq_true rfl, Nat.le_of_ble_eq_true rfl⟩ ⟨Nat.le_of_ble_eq_true rfl, Nat.le_of_ble_eq_true rfl⟩ (Nat.le_of_ble_eq_true rfl) (Nat.le_of_ble_eq_true rfl) (fun _ _ h => h.elim) (fun r156 τ156 hp => ?_)
            refine gz_norm (st' := [.int r156]) (cells' := 0) (slots' := 0) rfl rfl rfl ?_
            refine gz_if_ne K 164 dX10_readsElement_159 (by decide) (fun h => ?_) (fun h => ?_)
            · have hp := hp.1 h
              refine gz_sub [1, 2, 3, 0] rfl ?_
              exact bb_164 τ156 y1 y2 (gz_i τ115 43 22)  hp
            · have hp := hp.2 h
              refine gz_iconst K (v := (0 : Int32)) dX10_readsElement_162 (by decide) ?_
              exact gz_zret K hr (by decide) hp dX10_readsElement_163 (Nat.le_of_ble_eq_true rfl) (Nat.le_of_ble_eq_true rfl)
          · have hp := hp.2 h
            refine gz_iconst K (v := (0 : Int32)) dX10_readsElement_143 (by decide) ?_
            exact gz_zret K hr (by decide) hp dX10_readsElement_144 (Nat.le_of_ble_eq_true rfl) (Nat.le_of_ble_eq_true rfl)
      · have hp := hp.2 h
        refine gz_iconst K (v := (0 : Int32)) dX10_readsElement_121 (by decide) ?_
        exact gz_zret K hr (by decide) hp dX10_readsElement_122 (Nat.le_of_ble_eq_true rfl) (Nat.le_of_ble_eq_true rfl)
    · have hp := hp.2 h
      refine gz_iconst K (v := (0 : Int32)) dX10_readsElement_92 (by decide) ?_
      exact gz_zret K hr (by decide) hp dX10_readsElement_93 (Nat.le_of_ble_eq_true rfl) (Nat.le_of_ble_eq_true rfl)
  have bb_46 : ∀ (σ : Dz) (y1 : Int32) (z0 : Int32) , B_X10_readsElement_46 (X10W 3) post  σ y1 z0 → Gz p l e r_X10_readsElement_3 s m args below meth c D ad ty 5 0 0 (Ez below D ad ty nI0 post (fun _ _ => False) args s 0 0) σ 46 [(0, .ref (ad 43)), (1, .int y1)] [.int z0, .ref (ad 43)] := by
    intro σ y1 z0 hp
    unfold B_X10_readsElement_46 at hp
    obtain ⟨h, hp⟩ := hp
    refine gz_put K (x := z0) (by decide) (ce_43 _ _ _ _ _ _) rfl inz_X10 tyX10 tyX10_ok nmX10 24 (by decide) zq5_55 rfl (tyX10_ok _ (by decide)) (nB h) (fB h) (Nat.le_of_ble_eq_true rfl) peX10_24 dX10_readsElement_46 ?_
    refine gz_aload_n K dX10_readsElement_49 0 rfl ?_
    refine gz_iconst K (v := (2 : Int32)) dX10_readsElement_50 (by decide) ?_
    refine gz_iload_n K dX10_readsElement_51 1 rfl ?_
    refine gz_bipush K (v := (97 : Int32)) dX10_readsElement_52 (by decide) ?_
    refine gz_isub K dX10_readsElement_54 ?_
    refine gz_imul K dX10_readsElement_55 ?_
    refine gz_callV K hex (c_X10_comes K.2.2.2.2.2 K.2.2.1 hp) cf_X10_comes zq5_202 (by decide) (ce_43 _ _ _ _ _ _) rfl dX10_readsElement_56 rfl rfl (Nat.le_of_ble_eq_true rfl) ⟨Nat.le_of_ble_eq_true rfl, Nat.le_of_ble_eq_true rfl⟩ ⟨Nat.le_of_ble_eq_true rfl, Nat.le_of_ble_eq_true rfl⟩ (Nat.le_of_ble_eq_true rfl) (Nat.le_of_ble_eq_true rfl) (fun _ _ h => h.elim) (fun _ τ56 hp => ?_)
    refine gz_norm (st' := []) (cells' := 0) (slots' := 0) rfl rfl rfl ?_
    refine gz_aload_n K dX10_readsElement_59 0 rfl ?_
    refine gz_dup K dX10_readsElement_60 rfl ?_
    refine gz_get K (v := .int (gz_i τ56 43 18)) (by decide) (ce_43 _ _ _ _ _ _) rfl inz_X10 18 (by decide) zq5_49 rfl dX10_readsElement_61 ?_
    refine gz_iconst K (v := (1 : Int32)) dX10_readsElement_64 (by decide) ?_
    refine gz_iadd K dX10_readsElement_65 ?_
    refine gz_put K (x := ((gz_i τ56 43 18) + (1 : Int32))) (by decide) (ce_43 _ _ _ _ _ _) rfl inz_X10 tyX10 tyX10_ok nmX10 18 (by decide) zq5_49 rfl (tyX10_ok _ (by decide)) rfl rfl (Nat.le_of_ble_eq_true rfl) peX10_18 dX10_readsElement_66 ?_
    refine gz_iconst K (v := (1 : Int32)) dX10_readsElement_69 (by decide) ?_
    exact gz_zret K hr (by decide) hp dX10_readsElement_70 (Nat.le_of_ble_eq_true rfl) (Nat.le_of_ble_eq_true rfl)
  have bb_41 : ∀ (σ : Dz) (y1 : Int32) , B_X10_readsElement_41 (X10W 3) post  σ y1 → Gz p l e r_X10_readsElement_3 s m args below meth c D ad ty 5 0 0 (Ez below D ad ty nI0 post (fun _ _ => False) args s 0 0) σ 41 [(0, .ref (ad 43)), (1, .int y1)] [.ref (ad 43)] := by
    intro σ y1 hp
    unfold B_X10_readsElement_41 at hp
    refine gz_iconst K (v := (1 : Int32)) dX10_readsElement_41 (by decide) ?_
    refine gz_goto K 46 dX10_readsElement_42 (by decide) ?_
    exact bb_46 σ y1 (1 : Int32)  hp
  show Gz p l e r_X10_readsElement_3 s m args below meth c D ad ty 5 0 0 (Ez below D ad ty nI0 post (fun _ _ => False) args s 0 0) σ 0 [(0, .ref (ad 43))] []
  refine gz_aload_n K dX10_readsElement_0 0 rfl ?_
  refine gz_callV K hex (c_X10_here K.2.2.2.2.2 K.2.2.1 hp) cf_X10_here zq5_173 (by decide) (ce_43 _ _ _ _ _ _) rfl dX10_readsElement_1 rfl rfl (Nat.le_of_ble_eq_true rfl) ⟨Nat.le_of_ble_eq_true rfl, Nat.le_of_ble_eq_true rfl⟩ ⟨Nat.le_of_ble_eq_true rfl, Nat.le_of_ble_eq_true rfl⟩ (Nat.le_of_ble_eq_true rfl) (Nat.le_of_ble_eq_true rfl) (fun _ _ h => h.elim) (fun r1 τ hp => ?_)
  obtain ⟨rfl, hp⟩ := hp
  refine gz_norm (st' := [.int r1]) (cells' := 0) (slots' := 0) rfl rfl rfl ?_
  refine gz_istore_n K [(1, .int r1), (0, .ref (ad 43))] dX10_readsElement_4 (by decide) rfl ?_
  refine gz_aload_n K dX10_readsElement_5 1 rfl ?_
  refine gz_get K (v := .int (gz_i σ 43 22)) (by decide) (ce_43 _ _ _ _ _ _) rfl inz_X10 22 (by decide) zq5_53 rfl dX10_readsElement_6 ?_
  refine gz_istore_n K [(2, .int (gz_i σ 43 22)), (1, .int r1), (0, .ref (ad 43))] dX10_readsElement_9 (by decide) rfl ?_
  refine gz_iload_n K dX10_readsElement_10 1 rfl ?_
  refine gz_bipush K (v := (97 : Int32)) dX10_readsElement_11 (by decide) ?_
  refine gz_bipush K (v := (101 : Int32)) dX10_readsElement_13 (by decide) ?_
  refine gz_callS K hex (c_X10_in K.2.2.2.2.2 K.2.2.1 hp) cf_X10_in zq5_146 dX10_readsElement_15 rfl rfl (Nat.le_of_ble_eq_true rfl) ⟨Nat.le_of_ble_eq_true rfl, Nat.le_of_ble_eq_true rfl⟩ ⟨Nat.le_of_ble_eq_true rfl, Nat.le_of_ble_eq_true rfl⟩ (Nat.le_of_ble_eq_true rfl) (Nat.le_of_ble_eq_true rfl) (fun _ _ h => h.elim) (fun r15 τ hp => ?_)
  obtain ⟨rfl, hp⟩ := hp
  refine gz_norm (st' := [.int r15]) (cells' := 0) (slots' := 0) rfl rfl rfl ?_
  refine gz_if_eq K 71 dX10_readsElement_18 (by decide) (fun h => ?_) (fun h => ?_)
  · have hp := hp.1 h
    refine gz_iload_n K dX10_readsElement_71 1 rfl ?_
    refine gz_bipush K (v := (40 : Int32)) dX10_readsElement_72 (by decide) ?_
    refine gz_icmp_eq K 83 dX10_readsElement_74 (by decide) (fun h => ?_) (fun h => ?_)
    · have hp := hp.1 h
      refine gz_sub [2, 1, 0] rfl ?_
      exact bb_83 σ r1 (gz_i σ 43 22)  hp
    · have hp := hp.2 h
      refine gz_iload_n K dX10_readsElement_77 1 rfl ?_
      refine gz_bipush K (v := (60 : Int32)) dX10_readsElement_78 (by decide) ?_
      refine gz_icmp_ne K 92 dX10_readsElement_80 (by decide) (fun h => ?_) (fun h => ?_)
      · have hp := hp.1 h
        refine gz_iconst K (v := (0 : Int32)) dX10_readsElement_92 (by decide) ?_
        exact gz_zret K hr (by decide) hp dX10_readsElement_93 (Nat.le_of_ble_eq_true rfl) (Nat.le_of_ble_eq_true rfl)
      · have hp := hp.2 h
        refine gz_sub [2, 1, 0] rfl ?_
        exact bb_83 σ r1 (gz_i σ 43 22)  hp
  · have hp := hp.2 h
    refine gz_aload_n K dX10_readsElement_21 2 rfl ?_
    refine gz_aload_n K dX10_readsElement_22 2 rfl ?_
    refine gz_get K (v := .int (gz_i σ 43 24)) (by decide) (ce_43 _ _ _ _ _ _) rfl inz_X10 24 (by decide) zq5_55 rfl dX10_readsElement_23 ?_
    refine gz_if_ne K 41 dX10_readsElement_26 (by decide) (fun h => ?_) (fun h => ?_)
    · have hp := hp.1 h
      refine gz_sub [2, 1] rfl ?_
      exact bb_41 σ r1  hp
    · have hp := hp.2 h
      refine gz_aload_n K dX10_readsElement_29 2 rfl ?_
      refine gz_get K (v := .ref (ad 45)) (by decide) (ce_43 _ _ _ _ _ _) rfl inz_X10 3 (by decide) zq5_34 rfl dX10_readsElement_30 ?_
      refine gz_iload_n K dX10_readsElement_33 1 rfl ?_
      refine gz_bipush K (v := (97 : Int32)) dX10_readsElement_34 (by decide) ?_
      refine gz_isub K dX10_readsElement_36 ?_
      obtain ⟨h, hp⟩ := hp
      refine gz_zald K (by decide) (ce_45 _ _ _ _ _ _) h dX10_readsElement_37 ?_
      refine gz_if_ne K 45 dX10_readsElement_38 (by decide) (fun h => ?_) (fun h => ?_)
      · have hp := hp.1 h
        refine gz_iconst K (v := (0 : Int32)) dX10_readsElement_45 (by decide) ?_
        refine gz_sub [2, 1] rfl ?_
        exact bb_46 σ r1 (0 : Int32)  hp
      · have hp := hp.2 h
        refine gz_sub [2, 1] rfl ?_
        exact bb_41 σ r1  hp
set_option maxRecDepth 100000 in
set_option maxHeartbeats 4000000 in
theorem c_X10_readsWord_4 {l : Launch} {D : va_G} {ad : Nat → Nat} {ty : Nat → ClassId} (hl : l.stackTraces = false) (hj : ∀ i j, i < 68 → j < 68 → ad i = ad j → i = j) {σ : Dz} {post : Int32 → Dz → Prop} (hp : X10W 4 σ post) : Mz l D ad ty yX10_readsWord cX10_readsWord 2 (some .boolean) r_X10_readsWord_4 nI0 σ [.ref (ad 43)] post (fun _ _ => False) := by
  refine mz_of (by decide) hl hj (Nat.le_of_ble_eq_true rfl) ?_
  intro p e s m args below meth c K hex hr
  have hp : Q_X10_readsWord (X10E 3) σ post := hp
  unfold Q_X10_readsWord at hp
  show Gz p l e r_X10_readsWord_4 s m args below meth c D ad ty 2 0 0 (Ez below D ad ty nI0 post (fun _ _ => False) args s 0 0) σ 0 [(0, .ref (ad 43))] []
  have ll_0 : ∀ (n_0 : Nat) (σ : Dz) , L_X10_readsWord_0 (X10E 3) post  n_0 σ → Gz p l e r_X10_readsWord_4 s m args below meth c D ad ty 2 0 0 (Ez below D ad ty nI0 post (fun _ _ => False) args s 0 0) σ 0 [(0, .ref (ad 43))] [] := by
    intro n_0; induction n_0 with
    | zero => intro σ hp; exact False.elim hp
    | succ n_0 ih_0 =>
      intro σ hp
      have hp : B_X10_readsWord_0 (X10E 3) post  (L_X10_readsWord_0 (X10E 3) post  n_0) σ := hp
      unfold B_X10_readsWord_0 at hp
      have bb_32 : ∀ (σ : Dz) , B_X10_readsWord_32 (X10E 3) post (L_X10_readsWord_0 (X10E 3) post  n_0) σ → Gz p l e r_X10_readsWord_4 s m args below meth c D ad ty 2 0 0 (Ez below D ad ty nI0 post (fun _ _ => False) args s 0 0) σ 32 [(0, .ref (ad 43))] [] := by
        intro σ hp
        unfold B_X10_readsWord_32 at hp
        refine gz_aload_n K dX10_readsWord_32 0 rfl ?_
        refine gz_get K (v := .int (gz_i σ 43 22)) (by decide) (ce_43 _ _ _ _ _ _) rfl inz_X10 22 (by decide) zq5_53 rfl dX10_readsWord_33 ?_
        refine gz_istore_n K [(1, .int (gz_i σ 43 22)), (0, .ref (ad 43))] dX10_readsWord_36 (by decide) rfl ?_
        refine gz_aload_n K dX10_readsWord_37 1 rfl ?_
        refine gz_callS K hex (c_X10_readsElement_3 K.2.2.2.2.2 K.2.2.1 hp) cf_X10_readsElement zq5_199 dX10_readsWord_38 rfl rfl (Nat.le_of_ble_eq_true rfl) ⟨Nat.le_of_ble_eq_true rfl, Nat.le_of_ble_eq_true rfl⟩ ⟨Nat.le_of_ble_eq_true rfl, Nat.le_of_ble_eq_true rfl⟩ (Nat.le_of_ble_eq_true rfl) (Nat.le_of_ble_eq_true rfl) (fun _ _ h => h.elim) (fun r38 τ38 hp => ?_)
        refine gz_norm (st' := [.int r38]) (cells' := 0) (slots' := 0) rfl rfl rfl ?_
        refine gz_if_ne K 46 dX10_readsWord_41 (by decide) (fun h => ?_) (fun h => ?_)
        · have hp := hp.1 h
          refine gz_aload_n K dX10_readsWord_46 1 rfl ?_
          refine gz_iload_n K dX10_readsWord_47 0 rfl ?_
          refine gz_callV K hex (c_X10_readsBehind K.2.2.2.2.2 K.2.2.1 hp) cf_X10_readsBehind zq5_210 (by decide) (ce_43 _ _ _ _ _ _) rfl dX10_readsWord_48 rfl rfl (Nat.le_of_ble_eq_true rfl) ⟨Nat.le_of_ble_eq_true rfl, Nat.le_of_ble_eq_true rfl⟩ ⟨Nat.le_of_ble_eq_true rfl, Nat.le_of_ble_eq_true rfl⟩ (Nat.le_of_ble_eq_true rfl) (Nat.le_of_ble_eq_true rfl) (fun _ _ h => h.elim) (fun _ τ48 hp => ?_)
          refine gz_norm (st' := []) (cells' := 0) (slots' := 0) rfl rfl rfl ?_
          refine gz_goto K 0 dX10_readsWord_51 (by decide) ?_
          refine gz_sub [1] rfl ?_
          exact ih_0 τ48  hp
        · have hp := hp.2 h
          refine gz_iconst K (v := (0 : Int32)) dX10_readsWord_44 (by decide) ?_
          exact gz_zret K hr (by decide) hp dX10_readsWord_45 (Nat.le_of_ble_eq_true rfl) (Nat.le_of_ble_eq_true rfl)
      refine gz_aload_n K dX10_readsWord_0 0 rfl ?_
      refine gz_callV K hex (c_X10_here K.2.2.2.2.2 K.2.2.1 hp) cf_X10_here zq5_173 (by decide) (ce_43 _ _ _ _ _ _) rfl dX10_readsWord_1 rfl rfl (Nat.le_of_ble_eq_true rfl) ⟨Nat.le_of_ble_eq_true rfl, Nat.le_of_ble_eq_true rfl⟩ ⟨Nat.le_of_ble_eq_true rfl, Nat.le_of_ble_eq_true rfl⟩ (Nat.le_of_ble_eq_true rfl) (Nat.le_of_ble_eq_true rfl) (fun _ _ h => h.elim) (fun r1 τ hp => ?_)
      obtain ⟨rfl, hp⟩ := hp
      refine gz_norm (st' := [.int r1]) (cells' := 0) (slots' := 0) rfl rfl rfl ?_
      refine gz_bipush K (v := (97 : Int32)) dX10_readsWord_4 (by decide) ?_
      refine gz_bipush K (v := (101 : Int32)) dX10_readsWord_6 (by decide) ?_
      refine gz_callS K hex (c_X10_in K.2.2.2.2.2 K.2.2.1 hp) cf_X10_in zq5_146 dX10_readsWord_8 rfl rfl (Nat.le_of_ble_eq_true rfl) ⟨Nat.le_of_ble_eq_true rfl, Nat.le_of_ble_eq_true rfl⟩ ⟨Nat.le_of_ble_eq_true rfl, Nat.le_of_ble_eq_true rfl⟩ (Nat.le_of_ble_eq_true rfl) (Nat.le_of_ble_eq_true rfl) (fun _ _ h => h.elim) (fun r8 τ hp => ?_)
      obtain ⟨rfl, hp⟩ := hp
      refine gz_norm (st' := [.int r8]) (cells' := 0) (slots' := 0) rfl rfl rfl ?_
      refine gz_if_ne K 32 dX10_readsWord_11 (by decide) (fun h => ?_) (fun h => ?_)
      · have hp := hp.1 h
        exact bb_32 σ  hp
      · have hp := hp.2 h
        refine gz_aload_n K dX10_readsWord_14 0 rfl ?_
        refine gz_callV K hex (c_X10_here K.2.2.2.2.2 K.2.2.1 hp) cf_X10_here zq5_173 (by decide) (ce_43 _ _ _ _ _ _) rfl dX10_readsWord_15 rfl rfl (Nat.le_of_ble_eq_true rfl) ⟨Nat.le_of_ble_eq_true rfl, Nat.le_of_ble_eq_true rfl⟩ ⟨Nat.le_of_ble_eq_true rfl, Nat.le_of_ble_eq_true rfl⟩ (Nat.le_of_ble_eq_true rfl) (Nat.le_of_ble_eq_true rfl) (fun _ _ h => h.elim) (fun r15 τ hp => ?_)
        obtain ⟨rfl, hp⟩ := hp
        refine gz_norm (st' := [.int r15]) (cells' := 0) (slots' := 0) rfl rfl rfl ?_
        refine gz_bipush K (v := (40 : Int32)) dX10_readsWord_18 (by decide) ?_
        refine gz_icmp_eq K 32 dX10_readsWord_20 (by decide) (fun h => ?_) (fun h => ?_)
        · have hp := hp.1 h
          exact bb_32 σ  hp
        · have hp := hp.2 h
          refine gz_aload_n K dX10_readsWord_23 0 rfl ?_
          refine gz_callV K hex (c_X10_here K.2.2.2.2.2 K.2.2.1 hp) cf_X10_here zq5_173 (by decide) (ce_43 _ _ _ _ _ _) rfl dX10_readsWord_24 rfl rfl (Nat.le_of_ble_eq_true rfl) ⟨Nat.le_of_ble_eq_true rfl, Nat.le_of_ble_eq_true rfl⟩ ⟨Nat.le_of_ble_eq_true rfl, Nat.le_of_ble_eq_true rfl⟩ (Nat.le_of_ble_eq_true rfl) (Nat.le_of_ble_eq_true rfl) (fun _ _ h => h.elim) (fun r24 τ hp => ?_)
          obtain ⟨rfl, hp⟩ := hp
          refine gz_norm (st' := [.int r24]) (cells' := 0) (slots' := 0) rfl rfl rfl ?_
          refine gz_bipush K (v := (60 : Int32)) dX10_readsWord_27 (by decide) ?_
          refine gz_icmp_ne K 54 dX10_readsWord_29 (by decide) (fun h => ?_) (fun h => ?_)
          · have hp := hp.1 h
            refine gz_iconst K (v := (1 : Int32)) dX10_readsWord_54 (by decide) ?_
            exact gz_zret K hr (by decide) hp dX10_readsWord_55 (Nat.le_of_ble_eq_true rfl) (Nat.le_of_ble_eq_true rfl)
          · have hp := hp.2 h
            exact bb_32 σ  hp
  obtain ⟨n, hp⟩ := hp
  exact ll_0 n σ  hp
set_option maxRecDepth 100000 in
set_option maxHeartbeats 4000000 in
theorem c_X10_readsElement_4 {l : Launch} {D : va_G} {ad : Nat → Nat} {ty : Nat → ClassId} (hl : l.stackTraces = false) (hj : ∀ i j, i < 68 → j < 68 → ad i = ad j → i = j) {σ : Dz} {post : Int32 → Dz → Prop} (hp : X10E 4 σ post) : Mz l D ad ty yX10_readsElement cX10_readsElement 5 (some .boolean) r_X10_readsElement_4 nI0 σ [.ref (ad 43)] post (fun _ _ => False) := by
  refine mz_of (by decide) hl hj (Nat.le_of_ble_eq_true rfl) ?_
  intro p e s m args below meth c K hex hr
  have hp : Q_X10_readsElement (X10W 4) σ post := hp
  unfold Q_X10_readsElement at hp
  have bb_181 : ∀ (σ : Dz) (y1 : Int32) (y2 : Int32) (y3 : Int32) (z0 : Int32) (z1 : Int32) , B_X10_readsElement_181 (X10W 4) post  σ y1 y2 y3 z0 z1 → Gz p l e r_X10_readsElement_4 s m args below meth c D ad ty 5 0 0 (Ez below D ad ty nI0 post (fun _ _ => False) args s 0 0) σ 181 [(0, .ref (ad 43)), (1, .int y1), (2, .int y2), (3, .int y3)] [.int z0, .int z1] := by
    intro σ y1 y2 y3 z0 z1 hp
    unfold B_X10_readsElement_181 at hp
    refine gz_icmp_eq K 186 dX10_readsElement_181 (by decide) (fun h => ?_) (fun h => ?_)
    · have hp := hp.1 h
      refine gz_aload_n K dX10_readsElement_186 0 rfl ?_
      refine gz_dup K dX10_readsElement_187 rfl ?_
      refine gz_get K (v := .int (gz_i σ 43 18)) (by decide) (ce_43 _ _ _ _ _ _) rfl inz_X10 18 (by decide) zq5_49 rfl dX10_readsElement_188 ?_
      refine gz_iconst K (v := (1 : Int32)) dX10_readsElement_191 (by decide) ?_
      refine gz_iadd K dX10_readsElement_192 ?_
      refine gz_put K (x := ((gz_i σ 43 18) + (1 : Int32))) (by decide) (ce_43 _ _ _ _ _ _) rfl inz_X10 tyX10 tyX10_ok nmX10 18 (by decide) zq5_49 rfl (tyX10_ok _ (by decide)) rfl rfl (Nat.le_of_ble_eq_true rfl) peX10_18 dX10_readsElement_193 ?_
      refine gz_aload_n K dX10_readsElement_196 0 rfl ?_
      refine gz_dup K dX10_readsElement_197 rfl ?_
      refine gz_get K (v := .int (gz_i (sz_i σ 43 18 ((gz_i σ 43 18) + (1 : Int32))) 43 25)) (by decide) (ce_43 _ _ _ _ _ _) rfl inz_X10 25 (by decide) zq5_56 rfl dX10_readsElement_198 ?_
      refine gz_iconst K (v := (1 : Int32)) dX10_readsElement_201 (by decide) ?_
      refine gz_isub K dX10_readsElement_202 ?_
      refine gz_put K (x := ((gz_i (sz_i σ 43 18 ((gz_i σ 43 18) + (1 : Int32))) 43 25) - (1 : Int32))) (by decide) (ce_43 _ _ _ _ _ _) rfl inz_X10 tyX10 tyX10_ok nmX10 25 (by decide) zq5_56 rfl (tyX10_ok _ (by decide)) rfl rfl (Nat.le_of_ble_eq_true rfl) peX10_25 dX10_readsElement_203 ?_
      refine gz_iload_n K dX10_readsElement_206 1 rfl ?_
      refine gz_bipush K (v := (60 : Int32)) dX10_readsElement_207 (by decide) ?_
      refine gz_icmp_ne K 231 dX10_readsElement_209 (by decide) (fun h => ?_) (fun h => ?_)
      · have hp := hp.1 h
        refine gz_iconst K (v := (1 : Int32)) dX10_readsElement_231 (by decide) ?_
        exact gz_zret K hr (by decide) hp dX10_readsElement_232 (Nat.le_of_ble_eq_true rfl) (Nat.le_of_ble_eq_true rfl)
      · have hp := hp.2 h
        refine gz_aload_n K dX10_readsElement_212 0 rfl ?_
        refine gz_get K (v := .int (gz_i (sz_i (sz_i σ 43 18 ((gz_i σ 43 18) + (1 : Int32))) 43 25 ((gz_i (sz_i σ 43 18 ((gz_i σ 43 18) + (1 : Int32))) 43 25) - (1 : Int32))) 43 22)) (by decide) (ce_43 _ _ _ _ _ _) rfl inz_X10 22 (by decide) zq5_53 rfl dX10_readsElement_213 ?_
        refine gz_istore K [(4, .int (gz_i (sz_i (sz_i σ 43 18 ((gz_i σ 43 18) + (1 : Int32))) 43 25 ((gz_i (sz_i σ 43 18 ((gz_i σ 43 18) + (1 : Int32))) 43 25) - (1 : Int32))) 43 22)), (0, .ref (ad 43)), (1, .int y1), (2, .int y2), (3, .int y3)] dX10_readsElement_216 (by decide) rfl ?_
        refine gz_aload_n K dX10_readsElement_218 1 rfl ?_
        refine gz_iload_n K dX10_readsElement_219 3 rfl ?_
        refine gz_iload_n K dX10_readsElement_220 4 rfl ?_
        refine gz_callV K hex (c_X10_comesBack K.2.2.2.2.2 K.2.2.1 hp) cf_X10_comesBack zq5_206 (by decide) (ce_43 _ _ _ _ _ _) rfl dX10_readsElement_221 rfl rfl (Nat.le_of_ble_eq_true rfl) ⟨Nat.le_of_ble_eq_true rfl, Nat.le_of_ble_eq_true rfl⟩ ⟨Nat.le_of_ble_eq_true rfl, Nat.le_of_ble_eq_true rfl⟩ (Nat.le_of_ble_eq_true rfl) (Nat.le_of_ble_eq_true rfl) (fun _ _ h => h.elim) (fun _ τ221 hp => ?_)
        refine gz_norm (st' := []) (cells' := 0) (slots' := 0) rfl rfl rfl ?_
        refine gz_aload_n K dX10_readsElement_224 1 rfl ?_
        refine gz_iload_n K dX10_readsElement_225 4 rfl ?_
        refine gz_iload K dX10_readsElement_226 0 rfl ?_
        refine gz_callV K hex (c_X10_comesBack K.2.2.2.2.2 K.2.2.1 hp) cf_X10_comesBack zq5_206 (by decide) (ce_43 _ _ _ _ _ _) rfl dX10_readsElement_228 rfl rfl (Nat.le_of_ble_eq_true rfl) ⟨Nat.le_of_ble_eq_true rfl, Nat.le_of_ble_eq_true rfl⟩ ⟨Nat.le_of_ble_eq_true rfl, Nat.le_of_ble_eq_true rfl⟩ (Nat.le_of_ble_eq_true rfl) (Nat.le_of_ble_eq_true rfl) (fun _ _ h => h.elim) (fun _ τ228 hp => ?_)
        refine gz_norm (st' := []) (cells' := 0) (slots' := 0) rfl rfl rfl ?_
        refine gz_iconst K (v := (1 : Int32)) dX10_readsElement_231 (by decide) ?_
        exact gz_zret K hr (by decide) hp dX10_readsElement_232 (Nat.le_of_ble_eq_true rfl) (Nat.le_of_ble_eq_true rfl)
    · have hp := hp.2 h
      refine gz_iconst K (v := (0 : Int32)) dX10_readsElement_184 (by decide) ?_
      exact gz_zret K hr (by decide) hp dX10_readsElement_185 (Nat.le_of_ble_eq_true rfl) (Nat.le_of_ble_eq_true rfl)
  have bb_164 : ∀ (σ : Dz) (y1 : Int32) (y2 : Int32) (y3 : Int32) , B_X10_readsElement_164 (X10W 4) post  σ y1 y2 y3 → Gz p l e r_X10_readsElement_4 s m args below meth c D ad ty 5 0 0 (Ez below D ad ty nI0 post (fun _ _ => False) args s 0 0) σ 164 [(0, .ref (ad 43)), (1, .int y1), (2, .int y2), (3, .int y3)] [] := by
    intro σ y1 y2 y3 hp
    unfold B_X10_readsElement_164 at hp
    refine gz_aload_n K dX10_readsElement_164 0 rfl ?_
    refine gz_callV K hex (c_X10_here K.2.2.2.2.2 K.2.2.1 hp) cf_X10_here zq5_173 (by decide) (ce_43 _ _ _ _ _ _) rfl dX10_readsElement_165 rfl rfl (Nat.le_of_ble_eq_true rfl) ⟨Nat.le_of_ble_eq_true rfl, Nat.le_of_ble_eq_true rfl⟩ ⟨Nat.le_of_ble_eq_true rfl, Nat.le_of_ble_eq_true rfl⟩ (Nat.le_of_ble_eq_true rfl) (Nat.le_of_ble_eq_true rfl) (fun _ _ h => h.elim) (fun r165 τ hp => ?_)
    obtain ⟨rfl, hp⟩ := hp
    refine gz_norm (st' := [.int r165]) (cells' := 0) (slots' := 0) rfl rfl rfl ?_
    refine gz_iload_n K dX10_readsElement_168 1 rfl ?_
    refine gz_bipush K (v := (40 : Int32)) dX10_readsElement_169 (by decide) ?_
    refine gz_icmp_ne K 179 dX10_readsElement_171 (by decide) (fun h => ?_) (fun h => ?_)
    · have hp := hp.1 h
      refine gz_bipush K (v := (62 : Int32)) dX10_readsElement_179 (by decide) ?_
      exact bb_181 σ y1 y2 y3 (62 : Int32) r165  hp
    · have hp := hp.2 h
      refine gz_bipush K (v := (41 : Int32)) dX10_readsElement_174 (by decide) ?_
      refine gz_goto K 181 dX10_readsElement_176 (by decide) ?_
      exact bb_181 σ y1 y2 y3 (41 : Int32) r165  hp
  have bb_83 : ∀ (σ : Dz) (y1 : Int32) (y2 : Int32) , B_X10_readsElement_83 (X10W 4) post  σ y1 y2 → Gz p l e r_X10_readsElement_4 s m args below meth c D ad ty 5 0 0 (Ez below D ad ty nI0 post (fun _ _ => False) args s 0 0) σ 83 [(0, .ref (ad 43)), (1, .int y1), (2, .int y2)] [] := by
    intro σ y1 y2 hp
    unfold B_X10_readsElement_83 at hp
    refine gz_aload_n K dX10_readsElement_83 0 rfl ?_
    refine gz_get K (v := .int (gz_i σ 43 25)) (by decide) (ce_43 _ _ _ _ _ _) rfl inz_X10 25 (by decide) zq5_56 rfl dX10_readsElement_84 ?_
    refine gz_bipush K (v := (6 : Int32)) dX10_readsElement_87 (by decide) ?_
    refine gz_icmp_ne K 94 dX10_readsElement_89 (by decide) (fun h => ?_) (fun h => ?_)
    · have hp := hp.1 h
      refine gz_aload_n K dX10_readsElement_94 0 rfl ?_
      refine gz_dup K dX10_readsElement_95 rfl ?_
      refine gz_get K (v := .int (gz_i σ 43 25)) (by decide) (ce_43 _ _ _ _ _ _) rfl inz_X10 25 (by decide) zq5_56 rfl dX10_readsElement_96 ?_
      refine gz_iconst K (v := (1 : Int32)) dX10_readsElement_99 (by decide) ?_
      refine gz_iadd K dX10_readsElement_100 ?_
      refine gz_put K (x := ((gz_i σ 43 25) + (1 : Int32))) (by decide) (ce_43 _ _ _ _ _ _) rfl inz_X10 tyX10 tyX10_ok nmX10 25 (by decide) zq5_56 rfl (tyX10_ok _ (by decide)) rfl rfl (Nat.le_of_ble_eq_true rfl) peX10_25 dX10_readsElement_101 ?_
      refine gz_aload_n K dX10_readsElement_104 0 rfl ?_
      refine gz_dup K dX10_readsElement_105 rfl ?_
      refine gz_get K (v := .int (gz_i (sz_i σ 43 25 ((gz_i σ 43 25) + (1 : Int32))) 43 18)) (by decide) (ce_43 _ _ _ _ _ _) rfl inz_X10 18 (by decide) zq5_49 rfl dX10_readsElement_106 ?_
      refine gz_iconst K (v := (1 : Int32)) dX10_readsElement_109 (by decide) ?_
      refine gz_iadd K dX10_readsElement_110 ?_
      refine gz_put K (x := ((gz_i (sz_i σ 43 25 ((gz_i σ 43 25) + (1 : Int32))) 43 18) + (1 : Int32))) (by decide) (ce_43 _ _ _ _ _ _) rfl inz_X10 tyX10 tyX10_ok nmX10 18 (by decide) zq5_49 rfl (tyX10_ok _ (by decide)) rfl rfl (Nat.le_of_ble_eq_true rfl) peX10_18 dX10_readsElement_111 ?_
      refine gz_aload_n K dX10_readsElement_114 0 rfl ?_
      refine gz_callS K hex (c_X10_readsWord_4 K.2.2.2.2.2 K.2.2.1 hp) cf_X10_readsWord zq5_196 dX10_readsElement_115 rfl rfl (Nat.le_of_ble_eq_true rfl) ⟨Nat.le_of_ble_eq_true rfl, Nat.le_of_ble_eq_true rfl⟩ ⟨Nat.le_of_ble_eq_true rfl, Nat.le_of_ble_eq_true rfl⟩ (Nat.le_of_ble_eq_true rfl) (Nat.le_of_ble_eq_true rfl) (fun _ _ h => h.elim) (fun r115 τ115 hp => ?_)
      refine gz_norm (st' := [.int r115]) (cells' := 0) (slots' := 0) rfl rfl rfl ?_
      refine gz_if_ne K 123 dX10_readsElement_118 (by decide) (fun h => ?_) (fun h => ?_)
      · have hp := hp.1 h
        refine gz_aload_n K dX10_readsElement_123 0 rfl ?_
        refine gz_get K (v := .int (gz_i τ115 43 22)) (by decide) (ce_43 _ _ _ _ _ _) rfl inz_X10 22 (by decide) zq5_53 rfl dX10_readsElement_124 ?_
        refine gz_istore_n K [(3, .int (gz_i τ115 43 22)), (0, .ref (ad 43)), (1, .int y1), (2, .int y2)] dX10_readsElement_127 (by decide) rfl ?_
        refine gz_iload_n K dX10_readsElement_128 2 rfl ?_
        refine gz_bipush K (v := (60 : Int32)) dX10_readsElement_129 (by decide) ?_
        refine gz_icmp_ne K 164 dX10_readsElement_131 (by decide) (fun h => ?_) (fun h => ?_)
        · have hp := hp.1 h
          refine gz_sub [1, 2, 3, 0] rfl ?_
          exact bb_164 τ115 y1 y2 (gz_i τ115 43 22)  hp
        · have hp := hp.2 h
          refine gz_aload_n K dX10_readsElement_134 1 rfl ?_
          refine gz_callV K hex (c_X10_here K.2.2.2.2.2 K.2.2.1 hp) cf_X10_here zq5_173 (by decide) (ce_43 _ _ _ _ _ _) rfl dX10_readsElement_135 rfl rfl (Nat.le_of_ble_eq_true rfl) ⟨Nat.le_of_ble_eq_true rfl, Nat.le_of_ble_eq_true rfl⟩ ⟨Nat.le_of_ble_eq_true rfl, Nat.le_of_ble_eq_true rfl⟩ (Nat.le_of_ble_eq_true rfl) (Nat.le_of_ble_eq_true rfl) (fun _ _ h => h.elim) (fun r135 τ hp => ?_)
          obtain ⟨rfl, hp⟩ := hp
          refine gz_norm (st' := [.int r135]) (cells' := 0) (slots' := 0) rfl rfl rfl ?_
          refine gz_bipush K (v := (44 : Int32)) dX10_readsElement_138 (by decide) ?_
          refine gz_icmp_eq K 145 dX10_readsElement_140 (by decide) (fun h => ?_) (fun h => ?_)
          · have hp := hp.1 h
            refine gz_aload_n K dX10_readsElement_145 1 rfl ?_
            refine gz_dup K dX10_readsElement_146 rfl ?_
            refine gz_get K (v := .int (gz_i τ115 43 18)) (by decide) (ce_43 _ _ _ _ _ _) rfl inz_X10 18 (by decide) zq5_49 rfl dX10_readsElement_147 ?_
            refine gz_iconst K (v := (1 : Int32)) dX10_readsElement_150 (by decide) ?_
            refine gz_iadd K dX10_readsElement_151 ?_
            refine gz_put K (x := ((gz_i τ115 43 18) + (1 : Int32))) (by decide) (ce_43 _ _ _ _ _ _) rfl inz_X10 tyX10 tyX10_ok nmX10 18 (by decide) zq5_49 rfl (tyX10_ok _ (by decide)) rfl rfl (Nat.le_of_ble_eq_true rfl) peX10_18 dX10_readsElement_152 ?_
            refine gz_aload_n K dX10_readsElement_155 1 rfl ?_
            refine gz_callS K hex (c_X10_readsWord_4 K.2.2.2.2.2 K.2.2.1 hp) cf_X10_readsWord zq5_196 dX10_readsElement_156 rfl rfl (Nat.le_of_ble_eq_true rfl) ⟨Nat.le_of_ble_eq_true rfl, Nat.le_of_ble_eq_true rfl⟩ ⟨Nat.le_of_ble_eq_true rfl, Nat.le_of_ble_eq_true rfl⟩ (Nat.le_of_ble_eq_true rfl) (Nat.le_of_ble_eq_true rfl) (fun _ _ h => h.elim) (fun r156 τ156 hp => ?_)
            refine gz_norm (st' := [.int r156]) (cells' := 0) (slots' := 0) rfl rfl rfl ?_
            refine gz_if_ne K 164 dX10_readsElement_159 (by decide) (fun h => ?_) (fun h => ?_)
            · have hp := hp.1 h
              refine gz_sub [1, 2, 3, 0] rfl ?_
              exact bb_164 τ156 y1 y2 (gz_i τ115 43 22)  hp
            · have hp := hp.2 h
              refine gz_iconst K (v := (0 : Int32)) dX10_readsElement_162 (by decide) ?_
              exact gz_zret K hr (by decide) hp dX10_readsElement_163 (Nat.le_of_ble_eq_true rfl) (Nat.le_of_ble_eq_true rfl)
          · have hp := hp.2 h
            refine gz_iconst K (v := (0 : Int32)) dX10_readsElement_143 (by decide) ?_
            exact gz_zret K hr (by decide) hp dX10_readsElement_144 (Nat.le_of_ble_eq_true rfl) (Nat.le_of_ble_eq_true rfl)
      · have hp := hp.2 h
        refine gz_iconst K (v := (0 : Int32)) dX10_readsElement_121 (by decide) ?_
        exact gz_zret K hr (by decide) hp dX10_readsElement_122 (Nat.le_of_ble_eq_true rfl) (Nat.le_of_ble_eq_true rfl)
    · have hp := hp.2 h
      refine gz_iconst K (v := (0 : Int32)) dX10_readsElement_92 (by decide) ?_
      exact gz_zret K hr (by decide) hp dX10_readsElement_93 (Nat.le_of_ble_eq_true rfl) (Nat.le_of_ble_eq_true rfl)
  have bb_46 : ∀ (σ : Dz) (y1 : Int32) (z0 : Int32) , B_X10_readsElement_46 (X10W 4) post  σ y1 z0 → Gz p l e r_X10_readsElement_4 s m args below meth c D ad ty 5 0 0 (Ez below D ad ty nI0 post (fun _ _ => False) args s 0 0) σ 46 [(0, .ref (ad 43)), (1, .int y1)] [.int z0, .ref (ad 43)] := by
    intro σ y1 z0 hp
    unfold B_X10_readsElement_46 at hp
    obtain ⟨h, hp⟩ := hp
    refine gz_put K (x := z0) (by decide) (ce_43 _ _ _ _ _ _) rfl inz_X10 tyX10 tyX10_ok nmX10 24 (by decide) zq5_55 rfl (tyX10_ok _ (by decide)) (nB h) (fB h) (Nat.le_of_ble_eq_true rfl) peX10_24 dX10_readsElement_46 ?_
    refine gz_aload_n K dX10_readsElement_49 0 rfl ?_
    refine gz_iconst K (v := (2 : Int32)) dX10_readsElement_50 (by decide) ?_
    refine gz_iload_n K dX10_readsElement_51 1 rfl ?_
    refine gz_bipush K (v := (97 : Int32)) dX10_readsElement_52 (by decide) ?_
    refine gz_isub K dX10_readsElement_54 ?_
    refine gz_imul K dX10_readsElement_55 ?_
    refine gz_callV K hex (c_X10_comes K.2.2.2.2.2 K.2.2.1 hp) cf_X10_comes zq5_202 (by decide) (ce_43 _ _ _ _ _ _) rfl dX10_readsElement_56 rfl rfl (Nat.le_of_ble_eq_true rfl) ⟨Nat.le_of_ble_eq_true rfl, Nat.le_of_ble_eq_true rfl⟩ ⟨Nat.le_of_ble_eq_true rfl, Nat.le_of_ble_eq_true rfl⟩ (Nat.le_of_ble_eq_true rfl) (Nat.le_of_ble_eq_true rfl) (fun _ _ h => h.elim) (fun _ τ56 hp => ?_)
    refine gz_norm (st' := []) (cells' := 0) (slots' := 0) rfl rfl rfl ?_
    refine gz_aload_n K dX10_readsElement_59 0 rfl ?_
    refine gz_dup K dX10_readsElement_60 rfl ?_
    refine gz_get K (v := .int (gz_i τ56 43 18)) (by decide) (ce_43 _ _ _ _ _ _) rfl inz_X10 18 (by decide) zq5_49 rfl dX10_readsElement_61 ?_
    refine gz_iconst K (v := (1 : Int32)) dX10_readsElement_64 (by decide) ?_
    refine gz_iadd K dX10_readsElement_65 ?_
    refine gz_put K (x := ((gz_i τ56 43 18) + (1 : Int32))) (by decide) (ce_43 _ _ _ _ _ _) rfl inz_X10 tyX10 tyX10_ok nmX10 18 (by decide) zq5_49 rfl (tyX10_ok _ (by decide)) rfl rfl (Nat.le_of_ble_eq_true rfl) peX10_18 dX10_readsElement_66 ?_
    refine gz_iconst K (v := (1 : Int32)) dX10_readsElement_69 (by decide) ?_
    exact gz_zret K hr (by decide) hp dX10_readsElement_70 (Nat.le_of_ble_eq_true rfl) (Nat.le_of_ble_eq_true rfl)
  have bb_41 : ∀ (σ : Dz) (y1 : Int32) , B_X10_readsElement_41 (X10W 4) post  σ y1 → Gz p l e r_X10_readsElement_4 s m args below meth c D ad ty 5 0 0 (Ez below D ad ty nI0 post (fun _ _ => False) args s 0 0) σ 41 [(0, .ref (ad 43)), (1, .int y1)] [.ref (ad 43)] := by
    intro σ y1 hp
    unfold B_X10_readsElement_41 at hp
    refine gz_iconst K (v := (1 : Int32)) dX10_readsElement_41 (by decide) ?_
    refine gz_goto K 46 dX10_readsElement_42 (by decide) ?_
    exact bb_46 σ y1 (1 : Int32)  hp
  show Gz p l e r_X10_readsElement_4 s m args below meth c D ad ty 5 0 0 (Ez below D ad ty nI0 post (fun _ _ => False) args s 0 0) σ 0 [(0, .ref (ad 43))] []
  refine gz_aload_n K dX10_readsElement_0 0 rfl ?_
  refine gz_callV K hex (c_X10_here K.2.2.2.2.2 K.2.2.1 hp) cf_X10_here zq5_173 (by decide) (ce_43 _ _ _ _ _ _) rfl dX10_readsElement_1 rfl rfl (Nat.le_of_ble_eq_true rfl) ⟨Nat.le_of_ble_eq_true rfl, Nat.le_of_ble_eq_true rfl⟩ ⟨Nat.le_of_ble_eq_true rfl, Nat.le_of_ble_eq_true rfl⟩ (Nat.le_of_ble_eq_true rfl) (Nat.le_of_ble_eq_true rfl) (fun _ _ h => h.elim) (fun r1 τ hp => ?_)
  obtain ⟨rfl, hp⟩ := hp
  refine gz_norm (st' := [.int r1]) (cells' := 0) (slots' := 0) rfl rfl rfl ?_
  refine gz_istore_n K [(1, .int r1), (0, .ref (ad 43))] dX10_readsElement_4 (by decide) rfl ?_
  refine gz_aload_n K dX10_readsElement_5 1 rfl ?_
  refine gz_get K (v := .int (gz_i σ 43 22)) (by decide) (ce_43 _ _ _ _ _ _) rfl inz_X10 22 (by decide) zq5_53 rfl dX10_readsElement_6 ?_
  refine gz_istore_n K [(2, .int (gz_i σ 43 22)), (1, .int r1), (0, .ref (ad 43))] dX10_readsElement_9 (by decide) rfl ?_
  refine gz_iload_n K dX10_readsElement_10 1 rfl ?_
  refine gz_bipush K (v := (97 : Int32)) dX10_readsElement_11 (by decide) ?_
  refine gz_bipush K (v := (101 : Int32)) dX10_readsElement_13 (by decide) ?_
  refine gz_callS K hex (c_X10_in K.2.2.2.2.2 K.2.2.1 hp) cf_X10_in zq5_146 dX10_readsElement_15 rfl rfl (Nat.le_of_ble_eq_true rfl) ⟨Nat.le_of_ble_eq_true rfl, Nat.le_of_ble_eq_true rfl⟩ ⟨Nat.le_of_ble_eq_true rfl, Nat.le_of_ble_eq_true rfl⟩ (Nat.le_of_ble_eq_true rfl) (Nat.le_of_ble_eq_true rfl) (fun _ _ h => h.elim) (fun r15 τ hp => ?_)
  obtain ⟨rfl, hp⟩ := hp
  refine gz_norm (st' := [.int r15]) (cells' := 0) (slots' := 0) rfl rfl rfl ?_
  refine gz_if_eq K 71 dX10_readsElement_18 (by decide) (fun h => ?_) (fun h => ?_)
  · have hp := hp.1 h
    refine gz_iload_n K dX10_readsElement_71 1 rfl ?_
    refine gz_bipush K (v := (40 : Int32)) dX10_readsElement_72 (by decide) ?_
    refine gz_icmp_eq K 83 dX10_readsElement_74 (by decide) (fun h => ?_) (fun h => ?_)
    · have hp := hp.1 h
      refine gz_sub [2, 1, 0] rfl ?_
      exact bb_83 σ r1 (gz_i σ 43 22)  hp
    · have hp := hp.2 h
      refine gz_iload_n K dX10_readsElement_77 1 rfl ?_
      refine gz_bipush K (v := (60 : Int32)) dX10_readsElement_78 (by decide) ?_
      refine gz_icmp_ne K 92 dX10_readsElement_80 (by decide) (fun h => ?_) (fun h => ?_)
      · have hp := hp.1 h
        refine gz_iconst K (v := (0 : Int32)) dX10_readsElement_92 (by decide) ?_
        exact gz_zret K hr (by decide) hp dX10_readsElement_93 (Nat.le_of_ble_eq_true rfl) (Nat.le_of_ble_eq_true rfl)
      · have hp := hp.2 h
        refine gz_sub [2, 1, 0] rfl ?_
        exact bb_83 σ r1 (gz_i σ 43 22)  hp
  · have hp := hp.2 h
    refine gz_aload_n K dX10_readsElement_21 2 rfl ?_
    refine gz_aload_n K dX10_readsElement_22 2 rfl ?_
    refine gz_get K (v := .int (gz_i σ 43 24)) (by decide) (ce_43 _ _ _ _ _ _) rfl inz_X10 24 (by decide) zq5_55 rfl dX10_readsElement_23 ?_
    refine gz_if_ne K 41 dX10_readsElement_26 (by decide) (fun h => ?_) (fun h => ?_)
    · have hp := hp.1 h
      refine gz_sub [2, 1] rfl ?_
      exact bb_41 σ r1  hp
    · have hp := hp.2 h
      refine gz_aload_n K dX10_readsElement_29 2 rfl ?_
      refine gz_get K (v := .ref (ad 45)) (by decide) (ce_43 _ _ _ _ _ _) rfl inz_X10 3 (by decide) zq5_34 rfl dX10_readsElement_30 ?_
      refine gz_iload_n K dX10_readsElement_33 1 rfl ?_
      refine gz_bipush K (v := (97 : Int32)) dX10_readsElement_34 (by decide) ?_
      refine gz_isub K dX10_readsElement_36 ?_
      obtain ⟨h, hp⟩ := hp
      refine gz_zald K (by decide) (ce_45 _ _ _ _ _ _) h dX10_readsElement_37 ?_
      refine gz_if_ne K 45 dX10_readsElement_38 (by decide) (fun h => ?_) (fun h => ?_)
      · have hp := hp.1 h
        refine gz_iconst K (v := (0 : Int32)) dX10_readsElement_45 (by decide) ?_
        refine gz_sub [2, 1] rfl ?_
        exact bb_46 σ r1 (0 : Int32)  hp
      · have hp := hp.2 h
        refine gz_sub [2, 1] rfl ?_
        exact bb_41 σ r1  hp
set_option maxRecDepth 100000 in
set_option maxHeartbeats 4000000 in
theorem c_X10_readsWord_5 {l : Launch} {D : va_G} {ad : Nat → Nat} {ty : Nat → ClassId} (hl : l.stackTraces = false) (hj : ∀ i j, i < 68 → j < 68 → ad i = ad j → i = j) {σ : Dz} {post : Int32 → Dz → Prop} (hp : X10W 5 σ post) : Mz l D ad ty yX10_readsWord cX10_readsWord 2 (some .boolean) r_X10_readsWord_5 nI0 σ [.ref (ad 43)] post (fun _ _ => False) := by
  refine mz_of (by decide) hl hj (Nat.le_of_ble_eq_true rfl) ?_
  intro p e s m args below meth c K hex hr
  have hp : Q_X10_readsWord (X10E 4) σ post := hp
  unfold Q_X10_readsWord at hp
  show Gz p l e r_X10_readsWord_5 s m args below meth c D ad ty 2 0 0 (Ez below D ad ty nI0 post (fun _ _ => False) args s 0 0) σ 0 [(0, .ref (ad 43))] []
  have ll_0 : ∀ (n_0 : Nat) (σ : Dz) , L_X10_readsWord_0 (X10E 4) post  n_0 σ → Gz p l e r_X10_readsWord_5 s m args below meth c D ad ty 2 0 0 (Ez below D ad ty nI0 post (fun _ _ => False) args s 0 0) σ 0 [(0, .ref (ad 43))] [] := by
    intro n_0; induction n_0 with
    | zero => intro σ hp; exact False.elim hp
    | succ n_0 ih_0 =>
      intro σ hp
      have hp : B_X10_readsWord_0 (X10E 4) post  (L_X10_readsWord_0 (X10E 4) post  n_0) σ := hp
      unfold B_X10_readsWord_0 at hp
      have bb_32 : ∀ (σ : Dz) , B_X10_readsWord_32 (X10E 4) post (L_X10_readsWord_0 (X10E 4) post  n_0) σ → Gz p l e r_X10_readsWord_5 s m args below meth c D ad ty 2 0 0 (Ez below D ad ty nI0 post (fun _ _ => False) args s 0 0) σ 32 [(0, .ref (ad 43))] [] := by
        intro σ hp
        unfold B_X10_readsWord_32 at hp
        refine gz_aload_n K dX10_readsWord_32 0 rfl ?_
        refine gz_get K (v := .int (gz_i σ 43 22)) (by decide) (ce_43 _ _ _ _ _ _) rfl inz_X10 22 (by decide) zq5_53 rfl dX10_readsWord_33 ?_
        refine gz_istore_n K [(1, .int (gz_i σ 43 22)), (0, .ref (ad 43))] dX10_readsWord_36 (by decide) rfl ?_
        refine gz_aload_n K dX10_readsWord_37 1 rfl ?_
        refine gz_callS K hex (c_X10_readsElement_4 K.2.2.2.2.2 K.2.2.1 hp) cf_X10_readsElement zq5_199 dX10_readsWord_38 rfl rfl (Nat.le_of_ble_eq_true rfl) ⟨Nat.le_of_ble_eq_true rfl, Nat.le_of_ble_eq_true rfl⟩ ⟨Nat.le_of_ble_eq_true rfl, Nat.le_of_ble_eq_true rfl⟩ (Nat.le_of_ble_eq_true rfl) (Nat.le_of_ble_eq_true rfl) (fun _ _ h => h.elim) (fun r38 τ38 hp => ?_)
        refine gz_norm (st' := [.int r38]) (cells' := 0) (slots' := 0) rfl rfl rfl ?_
        refine gz_if_ne K 46 dX10_readsWord_41 (by decide) (fun h => ?_) (fun h => ?_)
        · have hp := hp.1 h
          refine gz_aload_n K dX10_readsWord_46 1 rfl ?_
          refine gz_iload_n K dX10_readsWord_47 0 rfl ?_
          refine gz_callV K hex (c_X10_readsBehind K.2.2.2.2.2 K.2.2.1 hp) cf_X10_readsBehind zq5_210 (by decide) (ce_43 _ _ _ _ _ _) rfl dX10_readsWord_48 rfl rfl (Nat.le_of_ble_eq_true rfl) ⟨Nat.le_of_ble_eq_true rfl, Nat.le_of_ble_eq_true rfl⟩ ⟨Nat.le_of_ble_eq_true rfl, Nat.le_of_ble_eq_true rfl⟩ (Nat.le_of_ble_eq_true rfl) (Nat.le_of_ble_eq_true rfl) (fun _ _ h => h.elim) (fun _ τ48 hp => ?_)
          refine gz_norm (st' := []) (cells' := 0) (slots' := 0) rfl rfl rfl ?_
          refine gz_goto K 0 dX10_readsWord_51 (by decide) ?_
          refine gz_sub [1] rfl ?_
          exact ih_0 τ48  hp
        · have hp := hp.2 h
          refine gz_iconst K (v := (0 : Int32)) dX10_readsWord_44 (by decide) ?_
          exact gz_zret K hr (by decide) hp dX10_readsWord_45 (Nat.le_of_ble_eq_true rfl) (Nat.le_of_ble_eq_true rfl)
      refine gz_aload_n K dX10_readsWord_0 0 rfl ?_
      refine gz_callV K hex (c_X10_here K.2.2.2.2.2 K.2.2.1 hp) cf_X10_here zq5_173 (by decide) (ce_43 _ _ _ _ _ _) rfl dX10_readsWord_1 rfl rfl (Nat.le_of_ble_eq_true rfl) ⟨Nat.le_of_ble_eq_true rfl, Nat.le_of_ble_eq_true rfl⟩ ⟨Nat.le_of_ble_eq_true rfl, Nat.le_of_ble_eq_true rfl⟩ (Nat.le_of_ble_eq_true rfl) (Nat.le_of_ble_eq_true rfl) (fun _ _ h => h.elim) (fun r1 τ hp => ?_)
      obtain ⟨rfl, hp⟩ := hp
      refine gz_norm (st' := [.int r1]) (cells' := 0) (slots' := 0) rfl rfl rfl ?_
      refine gz_bipush K (v := (97 : Int32)) dX10_readsWord_4 (by decide) ?_
      refine gz_bipush K (v := (101 : Int32)) dX10_readsWord_6 (by decide) ?_
      refine gz_callS K hex (c_X10_in K.2.2.2.2.2 K.2.2.1 hp) cf_X10_in zq5_146 dX10_readsWord_8 rfl rfl (Nat.le_of_ble_eq_true rfl) ⟨Nat.le_of_ble_eq_true rfl, Nat.le_of_ble_eq_true rfl⟩ ⟨Nat.le_of_ble_eq_true rfl, Nat.le_of_ble_eq_true rfl⟩ (Nat.le_of_ble_eq_true rfl) (Nat.le_of_ble_eq_true rfl) (fun _ _ h => h.elim) (fun r8 τ hp => ?_)
      obtain ⟨rfl, hp⟩ := hp
      refine gz_norm (st' := [.int r8]) (cells' := 0) (slots' := 0) rfl rfl rfl ?_
      refine gz_if_ne K 32 dX10_readsWord_11 (by decide) (fun h => ?_) (fun h => ?_)
      · have hp := hp.1 h
        exact bb_32 σ  hp
      · have hp := hp.2 h
        refine gz_aload_n K dX10_readsWord_14 0 rfl ?_
        refine gz_callV K hex (c_X10_here K.2.2.2.2.2 K.2.2.1 hp) cf_X10_here zq5_173 (by decide) (ce_43 _ _ _ _ _ _) rfl dX10_readsWord_15 rfl rfl (Nat.le_of_ble_eq_true rfl) ⟨Nat.le_of_ble_eq_true rfl, Nat.le_of_ble_eq_true rfl⟩ ⟨Nat.le_of_ble_eq_true rfl, Nat.le_of_ble_eq_true rfl⟩ (Nat.le_of_ble_eq_true rfl) (Nat.le_of_ble_eq_true rfl) (fun _ _ h => h.elim) (fun r15 τ hp => ?_)
        obtain ⟨rfl, hp⟩ := hp
        refine gz_norm (st' := [.int r15]) (cells' := 0) (slots' := 0) rfl rfl rfl ?_
        refine gz_bipush K (v := (40 : Int32)) dX10_readsWord_18 (by decide) ?_
        refine gz_icmp_eq K 32 dX10_readsWord_20 (by decide) (fun h => ?_) (fun h => ?_)
        · have hp := hp.1 h
          exact bb_32 σ  hp
        · have hp := hp.2 h
          refine gz_aload_n K dX10_readsWord_23 0 rfl ?_
          refine gz_callV K hex (c_X10_here K.2.2.2.2.2 K.2.2.1 hp) cf_X10_here zq5_173 (by decide) (ce_43 _ _ _ _ _ _) rfl dX10_readsWord_24 rfl rfl (Nat.le_of_ble_eq_true rfl) ⟨Nat.le_of_ble_eq_true rfl, Nat.le_of_ble_eq_true rfl⟩ ⟨Nat.le_of_ble_eq_true rfl, Nat.le_of_ble_eq_true rfl⟩ (Nat.le_of_ble_eq_true rfl) (Nat.le_of_ble_eq_true rfl) (fun _ _ h => h.elim) (fun r24 τ hp => ?_)
          obtain ⟨rfl, hp⟩ := hp
          refine gz_norm (st' := [.int r24]) (cells' := 0) (slots' := 0) rfl rfl rfl ?_
          refine gz_bipush K (v := (60 : Int32)) dX10_readsWord_27 (by decide) ?_
          refine gz_icmp_ne K 54 dX10_readsWord_29 (by decide) (fun h => ?_) (fun h => ?_)
          · have hp := hp.1 h
            refine gz_iconst K (v := (1 : Int32)) dX10_readsWord_54 (by decide) ?_
            exact gz_zret K hr (by decide) hp dX10_readsWord_55 (Nat.le_of_ble_eq_true rfl) (Nat.le_of_ble_eq_true rfl)
          · have hp := hp.2 h
            exact bb_32 σ  hp
  obtain ⟨n, hp⟩ := hp
  exact ll_0 n σ  hp
set_option maxRecDepth 100000 in
set_option maxHeartbeats 4000000 in
theorem c_X10_readsElement_5 {l : Launch} {D : va_G} {ad : Nat → Nat} {ty : Nat → ClassId} (hl : l.stackTraces = false) (hj : ∀ i j, i < 68 → j < 68 → ad i = ad j → i = j) {σ : Dz} {post : Int32 → Dz → Prop} (hp : X10E 5 σ post) : Mz l D ad ty yX10_readsElement cX10_readsElement 5 (some .boolean) r_X10_readsElement_5 nI0 σ [.ref (ad 43)] post (fun _ _ => False) := by
  refine mz_of (by decide) hl hj (Nat.le_of_ble_eq_true rfl) ?_
  intro p e s m args below meth c K hex hr
  have hp : Q_X10_readsElement (X10W 5) σ post := hp
  unfold Q_X10_readsElement at hp
  have bb_181 : ∀ (σ : Dz) (y1 : Int32) (y2 : Int32) (y3 : Int32) (z0 : Int32) (z1 : Int32) , B_X10_readsElement_181 (X10W 5) post  σ y1 y2 y3 z0 z1 → Gz p l e r_X10_readsElement_5 s m args below meth c D ad ty 5 0 0 (Ez below D ad ty nI0 post (fun _ _ => False) args s 0 0) σ 181 [(0, .ref (ad 43)), (1, .int y1), (2, .int y2), (3, .int y3)] [.int z0, .int z1] := by
    intro σ y1 y2 y3 z0 z1 hp
    unfold B_X10_readsElement_181 at hp
    refine gz_icmp_eq K 186 dX10_readsElement_181 (by decide) (fun h => ?_) (fun h => ?_)
    · have hp := hp.1 h
      refine gz_aload_n K dX10_readsElement_186 0 rfl ?_
      refine gz_dup K dX10_readsElement_187 rfl ?_
      refine gz_get K (v := .int (gz_i σ 43 18)) (by decide) (ce_43 _ _ _ _ _ _) rfl inz_X10 18 (by decide) zq5_49 rfl dX10_readsElement_188 ?_
      refine gz_iconst K (v := (1 : Int32)) dX10_readsElement_191 (by decide) ?_
      refine gz_iadd K dX10_readsElement_192 ?_
      refine gz_put K (x := ((gz_i σ 43 18) + (1 : Int32))) (by decide) (ce_43 _ _ _ _ _ _) rfl inz_X10 tyX10 tyX10_ok nmX10 18 (by decide) zq5_49 rfl (tyX10_ok _ (by decide)) rfl rfl (Nat.le_of_ble_eq_true rfl) peX10_18 dX10_readsElement_193 ?_
      refine gz_aload_n K dX10_readsElement_196 0 rfl ?_
      refine gz_dup K dX10_readsElement_197 rfl ?_
      refine gz_get K (v := .int (gz_i (sz_i σ 43 18 ((gz_i σ 43 18) + (1 : Int32))) 43 25)) (by decide) (ce_43 _ _ _ _ _ _) rfl inz_X10 25 (by decide) zq5_56 rfl dX10_readsElement_198 ?_
      refine gz_iconst K (v := (1 : Int32)) dX10_readsElement_201 (by decide) ?_
      refine gz_isub K dX10_readsElement_202 ?_
      refine gz_put K (x := ((gz_i (sz_i σ 43 18 ((gz_i σ 43 18) + (1 : Int32))) 43 25) - (1 : Int32))) (by decide) (ce_43 _ _ _ _ _ _) rfl inz_X10 tyX10 tyX10_ok nmX10 25 (by decide) zq5_56 rfl (tyX10_ok _ (by decide)) rfl rfl (Nat.le_of_ble_eq_true rfl) peX10_25 dX10_readsElement_203 ?_
      refine gz_iload_n K dX10_readsElement_206 1 rfl ?_
      refine gz_bipush K (v := (60 : Int32)) dX10_readsElement_207 (by decide) ?_
      refine gz_icmp_ne K 231 dX10_readsElement_209 (by decide) (fun h => ?_) (fun h => ?_)
      · have hp := hp.1 h
        refine gz_iconst K (v := (1 : Int32)) dX10_readsElement_231 (by decide) ?_
        exact gz_zret K hr (by decide) hp dX10_readsElement_232 (Nat.le_of_ble_eq_true rfl) (Nat.le_of_ble_eq_true rfl)
      · have hp := hp.2 h
        refine gz_aload_n K dX10_readsElement_212 0 rfl ?_
        refine gz_get K (v := .int (gz_i (sz_i (sz_i σ 43 18 ((gz_i σ 43 18) + (1 : Int32))) 43 25 ((gz_i (sz_i σ 43 18 ((gz_i σ 43 18) + (1 : Int32))) 43 25) - (1 : Int32))) 43 22)) (by decide) (ce_43 _ _ _ _ _ _) rfl inz_X10 22 (by decide) zq5_53 rfl dX10_readsElement_213 ?_
        refine gz_istore K [(4, .int (gz_i (sz_i (sz_i σ 43 18 ((gz_i σ 43 18) + (1 : Int32))) 43 25 ((gz_i (sz_i σ 43 18 ((gz_i σ 43 18) + (1 : Int32))) 43 25) - (1 : Int32))) 43 22)), (0, .ref (ad 43)), (1, .int y1), (2, .int y2), (3, .int y3)] dX10_readsElement_216 (by decide) rfl ?_
        refine gz_aload_n K dX10_readsElement_218 1 rfl ?_
        refine gz_iload_n K dX10_readsElement_219 3 rfl ?_
        refine gz_iload_n K dX10_readsElement_220 4 rfl ?_
        refine gz_callV K hex (c_X10_comesBack K.2.2.2.2.2 K.2.2.1 hp) cf_X10_comesBack zq5_206 (by decide) (ce_43 _ _ _ _ _ _) rfl dX10_readsElement_221 rfl rfl (Nat.le_of_ble_eq_true rfl) ⟨Nat.le_of_ble_eq_true rfl, Nat.le_of_ble_eq_true rfl⟩ ⟨Nat.le_of_ble_eq_true rfl, Nat.le_of_ble_eq_true rfl⟩ (Nat.le_of_ble_eq_true rfl) (Nat.le_of_ble_eq_true rfl) (fun _ _ h => h.elim) (fun _ τ221 hp => ?_)
        refine gz_norm (st' := []) (cells' := 0) (slots' := 0) rfl rfl rfl ?_
        refine gz_aload_n K dX10_readsElement_224 1 rfl ?_
        refine gz_iload_n K dX10_readsElement_225 4 rfl ?_
        refine gz_iload K dX10_readsElement_226 0 rfl ?_
        refine gz_callV K hex (c_X10_comesBack K.2.2.2.2.2 K.2.2.1 hp) cf_X10_comesBack zq5_206 (by decide) (ce_43 _ _ _ _ _ _) rfl dX10_readsElement_228 rfl rfl (Nat.le_of_ble_eq_true rfl) ⟨Nat.le_of_ble_eq_true rfl, Nat.le_of_ble_eq_true rfl⟩ ⟨Nat.le_of_ble_eq_true rfl, Nat.le_of_ble_eq_true rfl⟩ (Nat.le_of_ble_eq_true rfl) (Nat.le_of_ble_eq_true rfl) (fun _ _ h => h.elim) (fun _ τ228 hp => ?_)
        refine gz_norm (st' := []) (cells' := 0) (slots' := 0) rfl rfl rfl ?_
        refine gz_iconst K (v := (1 : Int32)) dX10_readsElement_231 (by decide) ?_
        exact gz_zret K hr (by decide) hp dX10_readsElement_232 (Nat.le_of_ble_eq_true rfl) (Nat.le_of_ble_eq_true rfl)
    · have hp := hp.2 h
      refine gz_iconst K (v := (0 : Int32)) dX10_readsElement_184 (by decide) ?_
      exact gz_zret K hr (by decide) hp dX10_readsElement_185 (Nat.le_of_ble_eq_true rfl) (Nat.le_of_ble_eq_true rfl)
  have bb_164 : ∀ (σ : Dz) (y1 : Int32) (y2 : Int32) (y3 : Int32) , B_X10_readsElement_164 (X10W 5) post  σ y1 y2 y3 → Gz p l e r_X10_readsElement_5 s m args below meth c D ad ty 5 0 0 (Ez below D ad ty nI0 post (fun _ _ => False) args s 0 0) σ 164 [(0, .ref (ad 43)), (1, .int y1), (2, .int y2), (3, .int y3)] [] := by
    intro σ y1 y2 y3 hp
    unfold B_X10_readsElement_164 at hp
    refine gz_aload_n K dX10_readsElement_164 0 rfl ?_
    refine gz_callV K hex (c_X10_here K.2.2.2.2.2 K.2.2.1 hp) cf_X10_here zq5_173 (by decide) (ce_43 _ _ _ _ _ _) rfl dX10_readsElement_165 rfl rfl (Nat.le_of_ble_eq_true rfl) ⟨Nat.le_of_ble_eq_true rfl, Nat.le_of_ble_eq_true rfl⟩ ⟨Nat.le_of_ble_eq_true rfl, Nat.le_of_ble_eq_true rfl⟩ (Nat.le_of_ble_eq_true rfl) (Nat.le_of_ble_eq_true rfl) (fun _ _ h => h.elim) (fun r165 τ hp => ?_)
    obtain ⟨rfl, hp⟩ := hp
    refine gz_norm (st' := [.int r165]) (cells' := 0) (slots' := 0) rfl rfl rfl ?_
    refine gz_iload_n K dX10_readsElement_168 1 rfl ?_
    refine gz_bipush K (v := (40 : Int32)) dX10_readsElement_169 (by decide) ?_
    refine gz_icmp_ne K 179 dX10_readsElement_171 (by decide) (fun h => ?_) (fun h => ?_)
    · have hp := hp.1 h
      refine gz_bipush K (v := (62 : Int32)) dX10_readsElement_179 (by decide) ?_
      exact bb_181 σ y1 y2 y3 (62 : Int32) r165  hp
    · have hp := hp.2 h
      refine gz_bipush K (v := (41 : Int32)) dX10_readsElement_174 (by decide) ?_
      refine gz_goto K 181 dX10_readsElement_176 (by decide) ?_
      exact bb_181 σ y1 y2 y3 (41 : Int32) r165  hp
  have bb_83 : ∀ (σ : Dz) (y1 : Int32) (y2 : Int32) , B_X10_readsElement_83 (X10W 5) post  σ y1 y2 → Gz p l e r_X10_readsElement_5 s m args below meth c D ad ty 5 0 0 (Ez below D ad ty nI0 post (fun _ _ => False) args s 0 0) σ 83 [(0, .ref (ad 43)), (1, .int y1), (2, .int y2)] [] := by
    intro σ y1 y2 hp
    unfold B_X10_readsElement_83 at hp
    refine gz_aload_n K dX10_readsElement_83 0 rfl ?_
    refine gz_get K (v := .int (gz_i σ 43 25)) (by decide) (ce_43 _ _ _ _ _ _) rfl inz_X10 25 (by decide) zq5_56 rfl dX10_readsElement_84 ?_
    refine gz_bipush K (v := (6 : Int32)) dX10_readsElement_87 (by decide) ?_
    refine gz_icmp_ne K 94 dX10_readsElement_89 (by decide) (fun h => ?_) (fun h => ?_)
    · have hp := hp.1 h
      refine gz_aload_n K dX10_readsElement_94 0 rfl ?_
      refine gz_dup K dX10_readsElement_95 rfl ?_
      refine gz_get K (v := .int (gz_i σ 43 25)) (by decide) (ce_43 _ _ _ _ _ _) rfl inz_X10 25 (by decide) zq5_56 rfl dX10_readsElement_96 ?_
      refine gz_iconst K (v := (1 : Int32)) dX10_readsElement_99 (by decide) ?_
      refine gz_iadd K dX10_readsElement_100 ?_
      refine gz_put K (x := ((gz_i σ 43 25) + (1 : Int32))) (by decide) (ce_43 _ _ _ _ _ _) rfl inz_X10 tyX10 tyX10_ok nmX10 25 (by decide) zq5_56 rfl (tyX10_ok _ (by decide)) rfl rfl (Nat.le_of_ble_eq_true rfl) peX10_25 dX10_readsElement_101 ?_
      refine gz_aload_n K dX10_readsElement_104 0 rfl ?_
      refine gz_dup K dX10_readsElement_105 rfl ?_
      refine gz_get K (v := .int (gz_i (sz_i σ 43 25 ((gz_i σ 43 25) + (1 : Int32))) 43 18)) (by decide) (ce_43 _ _ _ _ _ _) rfl inz_X10 18 (by decide) zq5_49 rfl dX10_readsElement_106 ?_
      refine gz_iconst K (v := (1 : Int32)) dX10_readsElement_109 (by decide) ?_
      refine gz_iadd K dX10_readsElement_110 ?_
      refine gz_put K (x := ((gz_i (sz_i σ 43 25 ((gz_i σ 43 25) + (1 : Int32))) 43 18) + (1 : Int32))) (by decide) (ce_43 _ _ _ _ _ _) rfl inz_X10 tyX10 tyX10_ok nmX10 18 (by decide) zq5_49 rfl (tyX10_ok _ (by decide)) rfl rfl (Nat.le_of_ble_eq_true rfl) peX10_18 dX10_readsElement_111 ?_
      refine gz_aload_n K dX10_readsElement_114 0 rfl ?_
      refine gz_callS K hex (c_X10_readsWord_5 K.2.2.2.2.2 K.2.2.1 hp) cf_X10_readsWord zq5_196 dX10_readsElement_115 rfl rfl (Nat.le_of_ble_eq_true rfl) ⟨Nat.le_of_ble_eq_true rfl, Nat.le_of_ble_eq_true rfl⟩ ⟨Nat.le_of_ble_eq_true rfl, Nat.le_of_ble_eq_true rfl⟩ (Nat.le_of_ble_eq_true rfl) (Nat.le_of_ble_eq_true rfl) (fun _ _ h => h.elim) (fun r115 τ115 hp => ?_)
      refine gz_norm (st' := [.int r115]) (cells' := 0) (slots' := 0) rfl rfl rfl ?_
      refine gz_if_ne K 123 dX10_readsElement_118 (by decide) (fun h => ?_) (fun h => ?_)
      · have hp := hp.1 h
        refine gz_aload_n K dX10_readsElement_123 0 rfl ?_
        refine gz_get K (v := .int (gz_i τ115 43 22)) (by decide) (ce_43 _ _ _ _ _ _) rfl inz_X10 22 (by decide) zq5_53 rfl dX10_readsElement_124 ?_
        refine gz_istore_n K [(3, .int (gz_i τ115 43 22)), (0, .ref (ad 43)), (1, .int y1), (2, .int y2)] dX10_readsElement_127 (by decide) rfl ?_
        refine gz_iload_n K dX10_readsElement_128 2 rfl ?_
        refine gz_bipush K (v := (60 : Int32)) dX10_readsElement_129 (by decide) ?_
        refine gz_icmp_ne K 164 dX10_readsElement_131 (by decide) (fun h => ?_) (fun h => ?_)
        · have hp := hp.1 h
          refine gz_sub [1, 2, 3, 0] rfl ?_
          exact bb_164 τ115 y1 y2 (gz_i τ115 43 22)  hp
        · have hp := hp.2 h
          refine gz_aload_n K dX10_readsElement_134 1 rfl ?_
          refine gz_callV K hex (c_X10_here K.2.2.2.2.2 K.2.2.1 hp) cf_X10_here zq5_173 (by decide) (ce_43 _ _ _ _ _ _) rfl dX10_readsElement_135 rfl rfl (Nat.le_of_ble_eq_true rfl) ⟨Nat.le_of_ble_eq_true rfl, Nat.le_of_ble_eq_true rfl⟩ ⟨Nat.le_of_ble_eq_true rfl, Nat.le_of_ble_eq_true rfl⟩ (Nat.le_of_ble_eq_true rfl) (Nat.le_of_ble_eq_true rfl) (fun _ _ h => h.elim) (fun r135 τ hp => ?_)
          obtain ⟨rfl, hp⟩ := hp
          refine gz_norm (st' := [.int r135]) (cells' := 0) (slots' := 0) rfl rfl rfl ?_
          refine gz_bipush K (v := (44 : Int32)) dX10_readsElement_138 (by decide) ?_
          refine gz_icmp_eq K 145 dX10_readsElement_140 (by decide) (fun h => ?_) (fun h => ?_)
          · have hp := hp.1 h
            refine gz_aload_n K dX10_readsElement_145 1 rfl ?_
            refine gz_dup K dX10_readsElement_146 rfl ?_
            refine gz_get K (v := .int (gz_i τ115 43 18)) (by decide) (ce_43 _ _ _ _ _ _) rfl inz_X10 18 (by decide) zq5_49 rfl dX10_readsElement_147 ?_
            refine gz_iconst K (v := (1 : Int32)) dX10_readsElement_150 (by decide) ?_
            refine gz_iadd K dX10_readsElement_151 ?_
            refine gz_put K (x := ((gz_i τ115 43 18) + (1 : Int32))) (by decide) (ce_43 _ _ _ _ _ _) rfl inz_X10 tyX10 tyX10_ok nmX10 18 (by decide) zq5_49 rfl (tyX10_ok _ (by decide)) rfl rfl (Nat.le_of_ble_eq_true rfl) peX10_18 dX10_readsElement_152 ?_
            refine gz_aload_n K dX10_readsElement_155 1 rfl ?_
            refine gz_callS K hex (c_X10_readsWord_5 K.2.2.2.2.2 K.2.2.1 hp) cf_X10_readsWord zq5_196 dX10_readsElement_156 rfl rfl (Nat.le_of_ble_eq_true rfl) ⟨Nat.le_of_ble_eq_true rfl, Nat.le_of_ble_eq_true rfl⟩ ⟨Nat.le_of_ble_eq_true rfl, Nat.le_of_ble_eq_true rfl⟩ (Nat.le_of_ble_eq_true rfl) (Nat.le_of_ble_eq_true rfl) (fun _ _ h => h.elim) (fun r156 τ156 hp => ?_)
            refine gz_norm (st' := [.int r156]) (cells' := 0) (slots' := 0) rfl rfl rfl ?_
            refine gz_if_ne K 164 dX10_readsElement_159 (by decide) (fun h => ?_) (fun h => ?_)
            · have hp := hp.1 h
              refine gz_sub [1, 2, 3, 0] rfl ?_
              exact bb_164 τ156 y1 y2 (gz_i τ115 43 22)  hp
            · have hp := hp.2 h
              refine gz_iconst K (v := (0 : Int32)) dX10_readsElement_162 (by decide) ?_
              exact gz_zret K hr (by decide) hp dX10_readsElement_163 (Nat.le_of_ble_eq_true rfl) (Nat.le_of_ble_eq_true rfl)
          · have hp := hp.2 h
            refine gz_iconst K (v := (0 : Int32)) dX10_readsElement_143 (by decide) ?_
            exact gz_zret K hr (by decide) hp dX10_readsElement_144 (Nat.le_of_ble_eq_true rfl) (Nat.le_of_ble_eq_true rfl)
      · have hp := hp.2 h
        refine gz_iconst K (v := (0 : Int32)) dX10_readsElement_121 (by decide) ?_
        exact gz_zret K hr (by decide) hp dX10_readsElement_122 (Nat.le_of_ble_eq_true rfl) (Nat.le_of_ble_eq_true rfl)
    · have hp := hp.2 h
      refine gz_iconst K (v := (0 : Int32)) dX10_readsElement_92 (by decide) ?_
      exact gz_zret K hr (by decide) hp dX10_readsElement_93 (Nat.le_of_ble_eq_true rfl) (Nat.le_of_ble_eq_true rfl)
  have bb_46 : ∀ (σ : Dz) (y1 : Int32) (z0 : Int32) , B_X10_readsElement_46 (X10W 5) post  σ y1 z0 → Gz p l e r_X10_readsElement_5 s m args below meth c D ad ty 5 0 0 (Ez below D ad ty nI0 post (fun _ _ => False) args s 0 0) σ 46 [(0, .ref (ad 43)), (1, .int y1)] [.int z0, .ref (ad 43)] := by
    intro σ y1 z0 hp
    unfold B_X10_readsElement_46 at hp
    obtain ⟨h, hp⟩ := hp
    refine gz_put K (x := z0) (by decide) (ce_43 _ _ _ _ _ _) rfl inz_X10 tyX10 tyX10_ok nmX10 24 (by decide) zq5_55 rfl (tyX10_ok _ (by decide)) (nB h) (fB h) (Nat.le_of_ble_eq_true rfl) peX10_24 dX10_readsElement_46 ?_
    refine gz_aload_n K dX10_readsElement_49 0 rfl ?_
    refine gz_iconst K (v := (2 : Int32)) dX10_readsElement_50 (by decide) ?_
    refine gz_iload_n K dX10_readsElement_51 1 rfl ?_
    refine gz_bipush K (v := (97 : Int32)) dX10_readsElement_52 (by decide) ?_
    refine gz_isub K dX10_readsElement_54 ?_
    refine gz_imul K dX10_readsElement_55 ?_
    refine gz_callV K hex (c_X10_comes K.2.2.2.2.2 K.2.2.1 hp) cf_X10_comes zq5_202 (by decide) (ce_43 _ _ _ _ _ _) rfl dX10_readsElement_56 rfl rfl (Nat.le_of_ble_eq_true rfl) ⟨Nat.le_of_ble_eq_true rfl, Nat.le_of_ble_eq_true rfl⟩ ⟨Nat.le_of_ble_eq_true rfl, Nat.le_of_ble_eq_true rfl⟩ (Nat.le_of_ble_eq_true rfl) (Nat.le_of_ble_eq_true rfl) (fun _ _ h => h.elim) (fun _ τ56 hp => ?_)
    refine gz_norm (st' := []) (cells' := 0) (slots' := 0) rfl rfl rfl ?_
    refine gz_aload_n K dX10_readsElement_59 0 rfl ?_
    refine gz_dup K dX10_readsElement_60 rfl ?_
    refine gz_get K (v := .int (gz_i τ56 43 18)) (by decide) (ce_43 _ _ _ _ _ _) rfl inz_X10 18 (by decide) zq5_49 rfl dX10_readsElement_61 ?_
    refine gz_iconst K (v := (1 : Int32)) dX10_readsElement_64 (by decide) ?_
    refine gz_iadd K dX10_readsElement_65 ?_
    refine gz_put K (x := ((gz_i τ56 43 18) + (1 : Int32))) (by decide) (ce_43 _ _ _ _ _ _) rfl inz_X10 tyX10 tyX10_ok nmX10 18 (by decide) zq5_49 rfl (tyX10_ok _ (by decide)) rfl rfl (Nat.le_of_ble_eq_true rfl) peX10_18 dX10_readsElement_66 ?_
    refine gz_iconst K (v := (1 : Int32)) dX10_readsElement_69 (by decide) ?_
    exact gz_zret K hr (by decide) hp dX10_readsElement_70 (Nat.le_of_ble_eq_true rfl) (Nat.le_of_ble_eq_true rfl)
  have bb_41 : ∀ (σ : Dz) (y1 : Int32) , B_X10_readsElement_41 (X10W 5) post  σ y1 → Gz p l e r_X10_readsElement_5 s m args below meth c D ad ty 5 0 0 (Ez below D ad ty nI0 post (fun _ _ => False) args s 0 0) σ 41 [(0, .ref (ad 43)), (1, .int y1)] [.ref (ad 43)] := by
    intro σ y1 hp
    unfold B_X10_readsElement_41 at hp
    refine gz_iconst K (v := (1 : Int32)) dX10_readsElement_41 (by decide) ?_
    refine gz_goto K 46 dX10_readsElement_42 (by decide) ?_
    exact bb_46 σ y1 (1 : Int32)  hp
  show Gz p l e r_X10_readsElement_5 s m args below meth c D ad ty 5 0 0 (Ez below D ad ty nI0 post (fun _ _ => False) args s 0 0) σ 0 [(0, .ref (ad 43))] []
  refine gz_aload_n K dX10_readsElement_0 0 rfl ?_
  refine gz_callV K hex (c_X10_here K.2.2.2.2.2 K.2.2.1 hp) cf_X10_here zq5_173 (by decide) (ce_43 _ _ _ _ _ _) rfl dX10_readsElement_1 rfl rfl (Nat.le_of_ble_eq_true rfl) ⟨Nat.le_of_ble_eq_true rfl, Nat.le_of_ble_eq_true rfl⟩ ⟨Nat.le_of_ble_eq_true rfl, Nat.le_of_ble_eq_true rfl⟩ (Nat.le_of_ble_eq_true rfl) (Nat.le_of_ble_eq_true rfl) (fun _ _ h => h.elim) (fun r1 τ hp => ?_)
  obtain ⟨rfl, hp⟩ := hp
  refine gz_norm (st' := [.int r1]) (cells' := 0) (slots' := 0) rfl rfl rfl ?_
  refine gz_istore_n K [(1, .int r1), (0, .ref (ad 43))] dX10_readsElement_4 (by decide) rfl ?_
  refine gz_aload_n K dX10_readsElement_5 1 rfl ?_
  refine gz_get K (v := .int (gz_i σ 43 22)) (by decide) (ce_43 _ _ _ _ _ _) rfl inz_X10 22 (by decide) zq5_53 rfl dX10_readsElement_6 ?_
  refine gz_istore_n K [(2, .int (gz_i σ 43 22)), (1, .int r1), (0, .ref (ad 43))] dX10_readsElement_9 (by decide) rfl ?_
  refine gz_iload_n K dX10_readsElement_10 1 rfl ?_
  refine gz_bipush K (v := (97 : Int32)) dX10_readsElement_11 (by decide) ?_
  refine gz_bipush K (v := (101 : Int32)) dX10_readsElement_13 (by decide) ?_
  refine gz_callS K hex (c_X10_in K.2.2.2.2.2 K.2.2.1 hp) cf_X10_in zq5_146 dX10_readsElement_15 rfl rfl (Nat.le_of_ble_eq_true rfl) ⟨Nat.le_of_ble_eq_true rfl, Nat.le_of_ble_eq_true rfl⟩ ⟨Nat.le_of_ble_eq_true rfl, Nat.le_of_ble_eq_true rfl⟩ (Nat.le_of_ble_eq_true rfl) (Nat.le_of_ble_eq_true rfl) (fun _ _ h => h.elim) (fun r15 τ hp => ?_)
  obtain ⟨rfl, hp⟩ := hp
  refine gz_norm (st' := [.int r15]) (cells' := 0) (slots' := 0) rfl rfl rfl ?_
  refine gz_if_eq K 71 dX10_readsElement_18 (by decide) (fun h => ?_) (fun h => ?_)
  · have hp := hp.1 h
    refine gz_iload_n K dX10_readsElement_71 1 rfl ?_
    refine gz_bipush K (v := (40 : Int32)) dX10_readsElement_72 (by decide) ?_
    refine gz_icmp_eq K 83 dX10_readsElement_74 (by decide) (fun h => ?_) (fun h => ?_)
    · have hp := hp.1 h
      refine gz_sub [2, 1, 0] rfl ?_
      exact bb_83 σ r1 (gz_i σ 43 22)  hp
    · have hp := hp.2 h
      refine gz_iload_n K dX10_readsElement_77 1 rfl ?_
      refine gz_bipush K (v := (60 : Int32)) dX10_readsElement_78 (by decide) ?_
      refine gz_icmp_ne K 92 dX10_readsElement_80 (by decide) (fun h => ?_) (fun h => ?_)
      · have hp := hp.1 h
        refine gz_iconst K (v := (0 : Int32)) dX10_readsElement_92 (by decide) ?_
        exact gz_zret K hr (by decide) hp dX10_readsElement_93 (Nat.le_of_ble_eq_true rfl) (Nat.le_of_ble_eq_true rfl)
      · have hp := hp.2 h
        refine gz_sub [2, 1, 0] rfl ?_
        exact bb_83 σ r1 (gz_i σ 43 22)  hp
  · have hp := hp.2 h
    refine gz_aload_n K dX10_readsElement_21 2 rfl ?_
    refine gz_aload_n K dX10_readsElement_22 2 rfl ?_
    refine gz_get K (v := .int (gz_i σ 43 24)) (by decide) (ce_43 _ _ _ _ _ _) rfl inz_X10 24 (by decide) zq5_55 rfl dX10_readsElement_23 ?_
    refine gz_if_ne K 41 dX10_readsElement_26 (by decide) (fun h => ?_) (fun h => ?_)
    · have hp := hp.1 h
      refine gz_sub [2, 1] rfl ?_
      exact bb_41 σ r1  hp
    · have hp := hp.2 h
      refine gz_aload_n K dX10_readsElement_29 2 rfl ?_
      refine gz_get K (v := .ref (ad 45)) (by decide) (ce_43 _ _ _ _ _ _) rfl inz_X10 3 (by decide) zq5_34 rfl dX10_readsElement_30 ?_
      refine gz_iload_n K dX10_readsElement_33 1 rfl ?_
      refine gz_bipush K (v := (97 : Int32)) dX10_readsElement_34 (by decide) ?_
      refine gz_isub K dX10_readsElement_36 ?_
      obtain ⟨h, hp⟩ := hp
      refine gz_zald K (by decide) (ce_45 _ _ _ _ _ _) h dX10_readsElement_37 ?_
      refine gz_if_ne K 45 dX10_readsElement_38 (by decide) (fun h => ?_) (fun h => ?_)
      · have hp := hp.1 h
        refine gz_iconst K (v := (0 : Int32)) dX10_readsElement_45 (by decide) ?_
        refine gz_sub [2, 1] rfl ?_
        exact bb_46 σ r1 (0 : Int32)  hp
      · have hp := hp.2 h
        refine gz_sub [2, 1] rfl ?_
        exact bb_41 σ r1  hp
set_option maxRecDepth 100000 in
set_option maxHeartbeats 4000000 in
theorem c_X10_readsWord_6 {l : Launch} {D : va_G} {ad : Nat → Nat} {ty : Nat → ClassId} (hl : l.stackTraces = false) (hj : ∀ i j, i < 68 → j < 68 → ad i = ad j → i = j) {σ : Dz} {post : Int32 → Dz → Prop} (hp : X10W 6 σ post) : Mz l D ad ty yX10_readsWord cX10_readsWord 2 (some .boolean) r_X10_readsWord_6 nI0 σ [.ref (ad 43)] post (fun _ _ => False) := by
  refine mz_of (by decide) hl hj (Nat.le_of_ble_eq_true rfl) ?_
  intro p e s m args below meth c K hex hr
  have hp : Q_X10_readsWord (X10E 5) σ post := hp
  unfold Q_X10_readsWord at hp
  show Gz p l e r_X10_readsWord_6 s m args below meth c D ad ty 2 0 0 (Ez below D ad ty nI0 post (fun _ _ => False) args s 0 0) σ 0 [(0, .ref (ad 43))] []
  have ll_0 : ∀ (n_0 : Nat) (σ : Dz) , L_X10_readsWord_0 (X10E 5) post  n_0 σ → Gz p l e r_X10_readsWord_6 s m args below meth c D ad ty 2 0 0 (Ez below D ad ty nI0 post (fun _ _ => False) args s 0 0) σ 0 [(0, .ref (ad 43))] [] := by
    intro n_0; induction n_0 with
    | zero => intro σ hp; exact False.elim hp
    | succ n_0 ih_0 =>
      intro σ hp
      have hp : B_X10_readsWord_0 (X10E 5) post  (L_X10_readsWord_0 (X10E 5) post  n_0) σ := hp
      unfold B_X10_readsWord_0 at hp
      have bb_32 : ∀ (σ : Dz) , B_X10_readsWord_32 (X10E 5) post (L_X10_readsWord_0 (X10E 5) post  n_0) σ → Gz p l e r_X10_readsWord_6 s m args below meth c D ad ty 2 0 0 (Ez below D ad ty nI0 post (fun _ _ => False) args s 0 0) σ 32 [(0, .ref (ad 43))] [] := by
        intro σ hp
        unfold B_X10_readsWord_32 at hp
        refine gz_aload_n K dX10_readsWord_32 0 rfl ?_
        refine gz_get K (v := .int (gz_i σ 43 22)) (by decide) (ce_43 _ _ _ _ _ _) rfl inz_X10 22 (by decide) zq5_53 rfl dX10_readsWord_33 ?_
        refine gz_istore_n K [(1, .int (gz_i σ 43 22)), (0, .ref (ad 43))] dX10_readsWord_36 (by decide) rfl ?_
        refine gz_aload_n K dX10_readsWord_37 1 rfl ?_
        refine gz_callS K hex (c_X10_readsElement_5 K.2.2.2.2.2 K.2.2.1 hp) cf_X10_readsElement zq5_199 dX10_readsWord_38 rfl rfl (Nat.le_of_ble_eq_true rfl) ⟨Nat.le_of_ble_eq_true rfl, Nat.le_of_ble_eq_true rfl⟩ ⟨Nat.le_of_ble_eq_true rfl, Nat.le_of_ble_eq_true rfl⟩ (Nat.le_of_ble_eq_true rfl) (Nat.le_of_ble_eq_true rfl) (fun _ _ h => h.elim) (fun r38 τ38 hp => ?_)
        refine gz_norm (st' := [.int r38]) (cells' := 0) (slots' := 0) rfl rfl rfl ?_
        refine gz_if_ne K 46 dX10_readsWord_41 (by decide) (fun h => ?_) (fun h => ?_)
        · have hp := hp.1 h
          refine gz_aload_n K dX10_readsWord_46 1 rfl ?_
          refine gz_iload_n K dX10_readsWord_47 0 rfl ?_
          refine gz_callV K hex (c_X10_readsBehind K.2.2.2.2.2 K.2.2.1 hp) cf_X10_readsBehind zq5_210 (by decide) (ce_43 _ _ _ _ _ _) rfl dX10_readsWord_48 rfl rfl (Nat.le_of_ble_eq_true rfl) ⟨Nat.le_of_ble_eq_true rfl, Nat.le_of_ble_eq_true rfl⟩ ⟨Nat.le_of_ble_eq_true rfl, Nat.le_of_ble_eq_true rfl⟩ (Nat.le_of_ble_eq_true rfl) (Nat.le_of_ble_eq_true rfl) (fun _ _ h => h.elim) (fun _ τ48 hp => ?_)
          refine gz_norm (st' := []) (cells' := 0) (slots' := 0) rfl rfl rfl ?_
          refine gz_goto K 0 dX10_readsWord_51 (by decide) ?_
          refine gz_sub [1] rfl ?_
          exact ih_0 τ48  hp
        · have hp := hp.2 h
          refine gz_iconst K (v := (0 : Int32)) dX10_readsWord_44 (by decide) ?_
          exact gz_zret K hr (by decide) hp dX10_readsWord_45 (Nat.le_of_ble_eq_true rfl) (Nat.le_of_ble_eq_true rfl)
      refine gz_aload_n K dX10_readsWord_0 0 rfl ?_
      refine gz_callV K hex (c_X10_here K.2.2.2.2.2 K.2.2.1 hp) cf_X10_here zq5_173 (by decide) (ce_43 _ _ _ _ _ _) rfl dX10_readsWord_1 rfl rfl (Nat.le_of_ble_eq_true rfl) ⟨Nat.le_of_ble_eq_true rfl, Nat.le_of_ble_eq_true rfl⟩ ⟨Nat.le_of_ble_eq_true rfl, Nat.le_of_ble_eq_true rfl⟩ (Nat.le_of_ble_eq_true rfl) (Nat.le_of_ble_eq_true rfl) (fun _ _ h => h.elim) (fun r1 τ hp => ?_)
      obtain ⟨rfl, hp⟩ := hp
      refine gz_norm (st' := [.int r1]) (cells' := 0) (slots' := 0) rfl rfl rfl ?_
      refine gz_bipush K (v := (97 : Int32)) dX10_readsWord_4 (by decide) ?_
      refine gz_bipush K (v := (101 : Int32)) dX10_readsWord_6 (by decide) ?_
      refine gz_callS K hex (c_X10_in K.2.2.2.2.2 K.2.2.1 hp) cf_X10_in zq5_146 dX10_readsWord_8 rfl rfl (Nat.le_of_ble_eq_true rfl) ⟨Nat.le_of_ble_eq_true rfl, Nat.le_of_ble_eq_true rfl⟩ ⟨Nat.le_of_ble_eq_true rfl, Nat.le_of_ble_eq_true rfl⟩ (Nat.le_of_ble_eq_true rfl) (Nat.le_of_ble_eq_true rfl) (fun _ _ h => h.elim) (fun r8 τ hp => ?_)
      obtain ⟨rfl, hp⟩ := hp
      refine gz_norm (st' := [.int r8]) (cells' := 0) (slots' := 0) rfl rfl rfl ?_
      refine gz_if_ne K 32 dX10_readsWord_11 (by decide) (fun h => ?_) (fun h => ?_)
      · have hp := hp.1 h
        exact bb_32 σ  hp
      · have hp := hp.2 h
        refine gz_aload_n K dX10_readsWord_14 0 rfl ?_
        refine gz_callV K hex (c_X10_here K.2.2.2.2.2 K.2.2.1 hp) cf_X10_here zq5_173 (by decide) (ce_43 _ _ _ _ _ _) rfl dX10_readsWord_15 rfl rfl (Nat.le_of_ble_eq_true rfl) ⟨Nat.le_of_ble_eq_true rfl, Nat.le_of_ble_eq_true rfl⟩ ⟨Nat.le_of_ble_eq_true rfl, Nat.le_of_ble_eq_true rfl⟩ (Nat.le_of_ble_eq_true rfl) (Nat.le_of_ble_eq_true rfl) (fun _ _ h => h.elim) (fun r15 τ hp => ?_)
        obtain ⟨rfl, hp⟩ := hp
        refine gz_norm (st' := [.int r15]) (cells' := 0) (slots' := 0) rfl rfl rfl ?_
        refine gz_bipush K (v := (40 : Int32)) dX10_readsWord_18 (by decide) ?_
        refine gz_icmp_eq K 32 dX10_readsWord_20 (by decide) (fun h => ?_) (fun h => ?_)
        · have hp := hp.1 h
          exact bb_32 σ  hp
        · have hp := hp.2 h
          refine gz_aload_n K dX10_readsWord_23 0 rfl ?_
          refine gz_callV K hex (c_X10_here K.2.2.2.2.2 K.2.2.1 hp) cf_X10_here zq5_173 (by decide) (ce_43 _ _ _ _ _ _) rfl dX10_readsWord_24 rfl rfl (Nat.le_of_ble_eq_true rfl) ⟨Nat.le_of_ble_eq_true rfl, Nat.le_of_ble_eq_true rfl⟩ ⟨Nat.le_of_ble_eq_true rfl, Nat.le_of_ble_eq_true rfl⟩ (Nat.le_of_ble_eq_true rfl) (Nat.le_of_ble_eq_true rfl) (fun _ _ h => h.elim) (fun r24 τ hp => ?_)
          obtain ⟨rfl, hp⟩ := hp
          refine gz_norm (st' := [.int r24]) (cells' := 0) (slots' := 0) rfl rfl rfl ?_
          refine gz_bipush K (v := (60 : Int32)) dX10_readsWord_27 (by decide) ?_
          refine gz_icmp_ne K 54 dX10_readsWord_29 (by decide) (fun h => ?_) (fun h => ?_)
          · have hp := hp.1 h
            refine gz_iconst K (v := (1 : Int32)) dX10_readsWord_54 (by decide) ?_
            exact gz_zret K hr (by decide) hp dX10_readsWord_55 (Nat.le_of_ble_eq_true rfl) (Nat.le_of_ble_eq_true rfl)
          · have hp := hp.2 h
            exact bb_32 σ  hp
  obtain ⟨n, hp⟩ := hp
  exact ll_0 n σ  hp
set_option maxRecDepth 100000 in
set_option maxHeartbeats 4000000 in
theorem c_X10_readsElement_6 {l : Launch} {D : va_G} {ad : Nat → Nat} {ty : Nat → ClassId} (hl : l.stackTraces = false) (hj : ∀ i j, i < 68 → j < 68 → ad i = ad j → i = j) {σ : Dz} {post : Int32 → Dz → Prop} (hp : X10E 6 σ post) : Mz l D ad ty yX10_readsElement cX10_readsElement 5 (some .boolean) r_X10_readsElement_6 nI0 σ [.ref (ad 43)] post (fun _ _ => False) := by
  refine mz_of (by decide) hl hj (Nat.le_of_ble_eq_true rfl) ?_
  intro p e s m args below meth c K hex hr
  have hp : Q_X10_readsElement (X10W 6) σ post := hp
  unfold Q_X10_readsElement at hp
  have bb_181 : ∀ (σ : Dz) (y1 : Int32) (y2 : Int32) (y3 : Int32) (z0 : Int32) (z1 : Int32) , B_X10_readsElement_181 (X10W 6) post  σ y1 y2 y3 z0 z1 → Gz p l e r_X10_readsElement_6 s m args below meth c D ad ty 5 0 0 (Ez below D ad ty nI0 post (fun _ _ => False) args s 0 0) σ 181 [(0, .ref (ad 43)), (1, .int y1), (2, .int y2), (3, .int y3)] [.int z0, .int z1] := by
    intro σ y1 y2 y3 z0 z1 hp
    unfold B_X10_readsElement_181 at hp
    refine gz_icmp_eq K 186 dX10_readsElement_181 (by decide) (fun h => ?_) (fun h => ?_)
    · have hp := hp.1 h
      refine gz_aload_n K dX10_readsElement_186 0 rfl ?_
      refine gz_dup K dX10_readsElement_187 rfl ?_
      refine gz_get K (v := .int (gz_i σ 43 18)) (by decide) (ce_43 _ _ _ _ _ _) rfl inz_X10 18 (by decide) zq5_49 rfl dX10_readsElement_188 ?_
      refine gz_iconst K (v := (1 : Int32)) dX10_readsElement_191 (by decide) ?_
      refine gz_iadd K dX10_readsElement_192 ?_
      refine gz_put K (x := ((gz_i σ 43 18) + (1 : Int32))) (by decide) (ce_43 _ _ _ _ _ _) rfl inz_X10 tyX10 tyX10_ok nmX10 18 (by decide) zq5_49 rfl (tyX10_ok _ (by decide)) rfl rfl (Nat.le_of_ble_eq_true rfl) peX10_18 dX10_readsElement_193 ?_
      refine gz_aload_n K dX10_readsElement_196 0 rfl ?_
      refine gz_dup K dX10_readsElement_197 rfl ?_
      refine gz_get K (v := .int (gz_i (sz_i σ 43 18 ((gz_i σ 43 18) + (1 : Int32))) 43 25)) (by decide) (ce_43 _ _ _ _ _ _) rfl inz_X10 25 (by decide) zq5_56 rfl dX10_readsElement_198 ?_
      refine gz_iconst K (v := (1 : Int32)) dX10_readsElement_201 (by decide) ?_
      refine gz_isub K dX10_readsElement_202 ?_
      refine gz_put K (x := ((gz_i (sz_i σ 43 18 ((gz_i σ 43 18) + (1 : Int32))) 43 25) - (1 : Int32))) (by decide) (ce_43 _ _ _ _ _ _) rfl inz_X10 tyX10 tyX10_ok nmX10 25 (by decide) zq5_56 rfl (tyX10_ok _ (by decide)) rfl rfl (Nat.le_of_ble_eq_true rfl) peX10_25 dX10_readsElement_203 ?_
      refine gz_iload_n K dX10_readsElement_206 1 rfl ?_
      refine gz_bipush K (v := (60 : Int32)) dX10_readsElement_207 (by decide) ?_
      refine gz_icmp_ne K 231 dX10_readsElement_209 (by decide) (fun h => ?_) (fun h => ?_)
      · have hp := hp.1 h
        refine gz_iconst K (v := (1 : Int32)) dX10_readsElement_231 (by decide) ?_
        exact gz_zret K hr (by decide) hp dX10_readsElement_232 (Nat.le_of_ble_eq_true rfl) (Nat.le_of_ble_eq_true rfl)
      · have hp := hp.2 h
        refine gz_aload_n K dX10_readsElement_212 0 rfl ?_
        refine gz_get K (v := .int (gz_i (sz_i (sz_i σ 43 18 ((gz_i σ 43 18) + (1 : Int32))) 43 25 ((gz_i (sz_i σ 43 18 ((gz_i σ 43 18) + (1 : Int32))) 43 25) - (1 : Int32))) 43 22)) (by decide) (ce_43 _ _ _ _ _ _) rfl inz_X10 22 (by decide) zq5_53 rfl dX10_readsElement_213 ?_
        refine gz_istore K [(4, .int (gz_i (sz_i (sz_i σ 43 18 ((gz_i σ 43 18) + (1 : Int32))) 43 25 ((gz_i (sz_i σ 43 18 ((gz_i σ 43 18) + (1 : Int32))) 43 25) - (1 : Int32))) 43 22)), (0, .ref (ad 43)), (1, .int y1), (2, .int y2), (3, .int y3)] dX10_readsElement_216 (by decide) rfl ?_
        refine gz_aload_n K dX10_readsElement_218 1 rfl ?_
        refine gz_iload_n K dX10_readsElement_219 3 rfl ?_
        refine gz_iload_n K dX10_readsElement_220 4 rfl ?_
        refine gz_callV K hex (c_X10_comesBack K.2.2.2.2.2 K.2.2.1 hp) cf_X10_comesBack zq5_206 (by decide) (ce_43 _ _ _ _ _ _) rfl dX10_readsElement_221 rfl rfl (Nat.le_of_ble_eq_true rfl) ⟨Nat.le_of_ble_eq_true rfl, Nat.le_of_ble_eq_true rfl⟩ ⟨Nat.le_of_ble_eq_true rfl, Nat.le_of_ble_eq_true rfl⟩ (Nat.le_of_ble_eq_true rfl) (Nat.le_of_ble_eq_true rfl) (fun _ _ h => h.elim) (fun _ τ221 hp => ?_)
        refine gz_norm (st' := []) (cells' := 0) (slots' := 0) rfl rfl rfl ?_
        refine gz_aload_n K dX10_readsElement_224 1 rfl ?_
        refine gz_iload_n K dX10_readsElement_225 4 rfl ?_
        refine gz_iload K dX10_readsElement_226 0 rfl ?_
        refine gz_callV K hex (c_X10_comesBack K.2.2.2.2.2 K.2.2.1 hp) cf_X10_comesBack zq5_206 (by decide) (ce_43 _ _ _ _ _ _) rfl dX10_readsElement_228 rfl rfl (Nat.le_of_ble_eq_true rfl) ⟨Nat.le_of_ble_eq_true rfl, Nat.le_of_ble_eq_true rfl⟩ ⟨Nat.le_of_ble_eq_true rfl, Nat.le_of_ble_eq_true rfl⟩ (Nat.le_of_ble_eq_true rfl) (Nat.le_of_ble_eq_true rfl) (fun _ _ h => h.elim) (fun _ τ228 hp => ?_)
        refine gz_norm (st' := []) (cells' := 0) (slots' := 0) rfl rfl rfl ?_
        refine gz_iconst K (v := (1 : Int32)) dX10_readsElement_231 (by decide) ?_
        exact gz_zret K hr (by decide) hp dX10_readsElement_232 (Nat.le_of_ble_eq_true rfl) (Nat.le_of_ble_eq_true rfl)
    · have hp := hp.2 h
      refine gz_iconst K (v := (0 : Int32)) dX10_readsElement_184 (by decide) ?_
      exact gz_zret K hr (by decide) hp dX10_readsElement_185 (Nat.le_of_ble_eq_true rfl) (Nat.le_of_ble_eq_true rfl)
  have bb_164 : ∀ (σ : Dz) (y1 : Int32) (y2 : Int32) (y3 : Int32) , B_X10_readsElement_164 (X10W 6) post  σ y1 y2 y3 → Gz p l e r_X10_readsElement_6 s m args below meth c D ad ty 5 0 0 (Ez below D ad ty nI0 post (fun _ _ => False) args s 0 0) σ 164 [(0, .ref (ad 43)), (1, .int y1), (2, .int y2), (3, .int y3)] [] := by
    intro σ y1 y2 y3 hp
    unfold B_X10_readsElement_164 at hp
    refine gz_aload_n K dX10_readsElement_164 0 rfl ?_
    refine gz_callV K hex (c_X10_here K.2.2.2.2.2 K.2.2.1 hp) cf_X10_here zq5_173 (by decide) (ce_43 _ _ _ _ _ _) rfl dX10_readsElement_165 rfl rfl (Nat.le_of_ble_eq_true rfl) ⟨Nat.le_of_ble_eq_true rfl, Nat.le_of_ble_eq_true rfl⟩ ⟨Nat.le_of_ble_eq_true rfl, Nat.le_of_ble_eq_true rfl⟩ (Nat.le_of_ble_eq_true rfl) (Nat.le_of_ble_eq_true rfl) (fun _ _ h => h.elim) (fun r165 τ hp => ?_)
    obtain ⟨rfl, hp⟩ := hp
    refine gz_norm (st' := [.int r165]) (cells' := 0) (slots' := 0) rfl rfl rfl ?_
    refine gz_iload_n K dX10_readsElement_168 1 rfl ?_
    refine gz_bipush K (v := (40 : Int32)) dX10_readsElement_169 (by decide) ?_
    refine gz_icmp_ne K 179 dX10_readsElement_171 (by decide) (fun h => ?_) (fun h => ?_)
    · have hp := hp.1 h
      refine gz_bipush K (v := (62 : Int32)) dX10_readsElement_179 (by decide) ?_
      exact bb_181 σ y1 y2 y3 (62 : Int32) r165  hp
    · have hp := hp.2 h
      refine gz_bipush K (v := (41 : Int32)) dX10_readsElement_174 (by decide) ?_
      refine gz_goto K 181 dX10_readsElement_176 (by decide) ?_
      exact bb_181 σ y1 y2 y3 (41 : Int32) r165  hp
  have bb_83 : ∀ (σ : Dz) (y1 : Int32) (y2 : Int32) , B_X10_readsElement_83 (X10W 6) post  σ y1 y2 → Gz p l e r_X10_readsElement_6 s m args below meth c D ad ty 5 0 0 (Ez below D ad ty nI0 post (fun _ _ => False) args s 0 0) σ 83 [(0, .ref (ad 43)), (1, .int y1), (2, .int y2)] [] := by
    intro σ y1 y2 hp
    unfold B_X10_readsElement_83 at hp
    refine gz_aload_n K dX10_readsElement_83 0 rfl ?_
    refine gz_get K (v := .int (gz_i σ 43 25)) (by decide) (ce_43 _ _ _ _ _ _) rfl inz_X10 25 (by decide) zq5_56 rfl dX10_readsElement_84 ?_
    refine gz_bipush K (v := (6 : Int32)) dX10_readsElement_87 (by decide) ?_
    refine gz_icmp_ne K 94 dX10_readsElement_89 (by decide) (fun h => ?_) (fun h => ?_)
    · have hp := hp.1 h
      refine gz_aload_n K dX10_readsElement_94 0 rfl ?_
      refine gz_dup K dX10_readsElement_95 rfl ?_
      refine gz_get K (v := .int (gz_i σ 43 25)) (by decide) (ce_43 _ _ _ _ _ _) rfl inz_X10 25 (by decide) zq5_56 rfl dX10_readsElement_96 ?_
      refine gz_iconst K (v := (1 : Int32)) dX10_readsElement_99 (by decide) ?_
      refine gz_iadd K dX10_readsElement_100 ?_
      refine gz_put K (x := ((gz_i σ 43 25) + (1 : Int32))) (by decide) (ce_43 _ _ _ _ _ _) rfl inz_X10 tyX10 tyX10_ok nmX10 25 (by decide) zq5_56 rfl (tyX10_ok _ (by decide)) rfl rfl (Nat.le_of_ble_eq_true rfl) peX10_25 dX10_readsElement_101 ?_
      refine gz_aload_n K dX10_readsElement_104 0 rfl ?_
      refine gz_dup K dX10_readsElement_105 rfl ?_
      refine gz_get K (v := .int (gz_i (sz_i σ 43 25 ((gz_i σ 43 25) + (1 : Int32))) 43 18)) (by decide) (ce_43 _ _ _ _ _ _) rfl inz_X10 18 (by decide) zq5_49 rfl dX10_readsElement_106 ?_
      refine gz_iconst K (v := (1 : Int32)) dX10_readsElement_109 (by decide) ?_
      refine gz_iadd K dX10_readsElement_110 ?_
      refine gz_put K (x := ((gz_i (sz_i σ 43 25 ((gz_i σ 43 25) + (1 : Int32))) 43 18) + (1 : Int32))) (by decide) (ce_43 _ _ _ _ _ _) rfl inz_X10 tyX10 tyX10_ok nmX10 18 (by decide) zq5_49 rfl (tyX10_ok _ (by decide)) rfl rfl (Nat.le_of_ble_eq_true rfl) peX10_18 dX10_readsElement_111 ?_
      refine gz_aload_n K dX10_readsElement_114 0 rfl ?_
      refine gz_callS K hex (c_X10_readsWord_6 K.2.2.2.2.2 K.2.2.1 hp) cf_X10_readsWord zq5_196 dX10_readsElement_115 rfl rfl (Nat.le_of_ble_eq_true rfl) ⟨Nat.le_of_ble_eq_true rfl, Nat.le_of_ble_eq_true rfl⟩ ⟨Nat.le_of_ble_eq_true rfl, Nat.le_of_ble_eq_true rfl⟩ (Nat.le_of_ble_eq_true rfl) (Nat.le_of_ble_eq_true rfl) (fun _ _ h => h.elim) (fun r115 τ115 hp => ?_)
      refine gz_norm (st' := [.int r115]) (cells' := 0) (slots' := 0) rfl rfl rfl ?_
      refine gz_if_ne K 123 dX10_readsElement_118 (by decide) (fun h => ?_) (fun h => ?_)
      · have hp := hp.1 h
        refine gz_aload_n K dX10_readsElement_123 0 rfl ?_
        refine gz_get K (v := .int (gz_i τ115 43 22)) (by decide) (ce_43 _ _ _ _ _ _) rfl inz_X10 22 (by decide) zq5_53 rfl dX10_readsElement_124 ?_
        refine gz_istore_n K [(3, .int (gz_i τ115 43 22)), (0, .ref (ad 43)), (1, .int y1), (2, .int y2)] dX10_readsElement_127 (by decide) rfl ?_
        refine gz_iload_n K dX10_readsElement_128 2 rfl ?_
        refine gz_bipush K (v := (60 : Int32)) dX10_readsElement_129 (by decide) ?_
        refine gz_icmp_ne K 164 dX10_readsElement_131 (by decide) (fun h => ?_) (fun h => ?_)
        · have hp := hp.1 h
          refine gz_sub [1, 2, 3, 0] rfl ?_
          exact bb_164 τ115 y1 y2 (gz_i τ115 43 22)  hp
        · have hp := hp.2 h
          refine gz_aload_n K dX10_readsElement_134 1 rfl ?_
          refine gz_callV K hex (c_X10_here K.2.2.2.2.2 K.2.2.1 hp) cf_X10_here zq5_173 (by decide) (ce_43 _ _ _ _ _ _) rfl dX10_readsElement_135 rfl rfl (Nat.le_of_ble_eq_true rfl) ⟨Nat.le_of_ble_eq_true rfl, Nat.le_of_ble_eq_true rfl⟩ ⟨Nat.le_of_ble_eq_true rfl, Nat.le_of_ble_eq_true rfl⟩ (Nat.le_of_ble_eq_true rfl) (Nat.le_of_ble_eq_true rfl) (fun _ _ h => h.elim) (fun r135 τ hp => ?_)
          obtain ⟨rfl, hp⟩ := hp
          refine gz_norm (st' := [.int r135]) (cells' := 0) (slots' := 0) rfl rfl rfl ?_
          refine gz_bipush K (v := (44 : Int32)) dX10_readsElement_138 (by decide) ?_
          refine gz_icmp_eq K 145 dX10_readsElement_140 (by decide) (fun h => ?_) (fun h => ?_)
          · have hp := hp.1 h
            refine gz_aload_n K dX10_readsElement_145 1 rfl ?_
            refine gz_dup K dX10_readsElement_146 rfl ?_
            refine gz_get K (v := .int (gz_i τ115 43 18)) (by decide) (ce_43 _ _ _ _ _ _) rfl inz_X10 18 (by decide) zq5_49 rfl dX10_readsElement_147 ?_
            refine gz_iconst K (v := (1 : Int32)) dX10_readsElement_150 (by decide) ?_
            refine gz_iadd K dX10_readsElement_151 ?_
            refine gz_put K (x := ((gz_i τ115 43 18) + (1 : Int32))) (by decide) (ce_43 _ _ _ _ _ _) rfl inz_X10 tyX10 tyX10_ok nmX10 18 (by decide) zq5_49 rfl (tyX10_ok _ (by decide)) rfl rfl (Nat.le_of_ble_eq_true rfl) peX10_18 dX10_readsElement_152 ?_
            refine gz_aload_n K dX10_readsElement_155 1 rfl ?_
            refine gz_callS K hex (c_X10_readsWord_6 K.2.2.2.2.2 K.2.2.1 hp) cf_X10_readsWord zq5_196 dX10_readsElement_156 rfl rfl (Nat.le_of_ble_eq_true rfl) ⟨Nat.le_of_ble_eq_true rfl, Nat.le_of_ble_eq_true rfl⟩ ⟨Nat.le_of_ble_eq_true rfl, Nat.le_of_ble_eq_true rfl⟩ (Nat.le_of_ble_eq_true rfl) (Nat.le_of_ble_eq_true rfl) (fun _ _ h => h.elim) (fun r156 τ156 hp => ?_)
            refine gz_norm (st' := [.int r156]) (cells' := 0) (slots' := 0) rfl rfl rfl ?_
            refine gz_if_ne K 164 dX10_readsElement_159 (by decide) (fun h => ?_) (fun h => ?_)
            · have hp := hp.1 h
              refine gz_sub [1, 2, 3, 0] rfl ?_
              exact bb_164 τ156 y1 y2 (gz_i τ115 43 22)  hp
            · have hp := hp.2 h
              refine gz_iconst K (v := (0 : Int32)) dX10_readsElement_162 (by decide) ?_
              exact gz_zret K hr (by decide) hp dX10_readsElement_163 (Nat.le_of_ble_eq_true rfl) (Nat.le_of_ble_eq_true rfl)
          · have hp := hp.2 h
            refine gz_iconst K (v := (0 : Int32)) dX10_readsElement_143 (by decide) ?_
            exact gz_zret K hr (by decide) hp dX10_readsElement_144 (Nat.le_of_ble_eq_true rfl) (Nat.le_of_ble_eq_true rfl)
      · have hp := hp.2 h
        refine gz_iconst K (v := (0 : Int32)) dX10_readsElement_121 (by decide) ?_
        exact gz_zret K hr (by decide) hp dX10_readsElement_122 (Nat.le_of_ble_eq_true rfl) (Nat.le_of_ble_eq_true rfl)
    · have hp := hp.2 h
      refine gz_iconst K (v := (0 : Int32)) dX10_readsElement_92 (by decide) ?_
      exact gz_zret K hr (by decide) hp dX10_readsElement_93 (Nat.le_of_ble_eq_true rfl) (Nat.le_of_ble_eq_true rfl)
  have bb_46 : ∀ (σ : Dz) (y1 : Int32) (z0 : Int32) , B_X10_readsElement_46 (X10W 6) post  σ y1 z0 → Gz p l e r_X10_readsElement_6 s m args below meth c D ad ty 5 0 0 (Ez below D ad ty nI0 post (fun _ _ => False) args s 0 0) σ 46 [(0, .ref (ad 43)), (1, .int y1)] [.int z0, .ref (ad 43)] := by
    intro σ y1 z0 hp
    unfold B_X10_readsElement_46 at hp
    obtain ⟨h, hp⟩ := hp
    refine gz_put K (x := z0) (by decide) (ce_43 _ _ _ _ _ _) rfl inz_X10 tyX10 tyX10_ok nmX10 24 (by decide) zq5_55 rfl (tyX10_ok _ (by decide)) (nB h) (fB h) (Nat.le_of_ble_eq_true rfl) peX10_24 dX10_readsElement_46 ?_
    refine gz_aload_n K dX10_readsElement_49 0 rfl ?_
    refine gz_iconst K (v := (2 : Int32)) dX10_readsElement_50 (by decide) ?_
    refine gz_iload_n K dX10_readsElement_51 1 rfl ?_
    refine gz_bipush K (v := (97 : Int32)) dX10_readsElement_52 (by decide) ?_
    refine gz_isub K dX10_readsElement_54 ?_
    refine gz_imul K dX10_readsElement_55 ?_
    refine gz_callV K hex (c_X10_comes K.2.2.2.2.2 K.2.2.1 hp) cf_X10_comes zq5_202 (by decide) (ce_43 _ _ _ _ _ _) rfl dX10_readsElement_56 rfl rfl (Nat.le_of_ble_eq_true rfl) ⟨Nat.le_of_ble_eq_true rfl, Nat.le_of_ble_eq_true rfl⟩ ⟨Nat.le_of_ble_eq_true rfl, Nat.le_of_ble_eq_true rfl⟩ (Nat.le_of_ble_eq_true rfl) (Nat.le_of_ble_eq_true rfl) (fun _ _ h => h.elim) (fun _ τ56 hp => ?_)
    refine gz_norm (st' := []) (cells' := 0) (slots' := 0) rfl rfl rfl ?_
    refine gz_aload_n K dX10_readsElement_59 0 rfl ?_
    refine gz_dup K dX10_readsElement_60 rfl ?_
    refine gz_get K (v := .int (gz_i τ56 43 18)) (by decide) (ce_43 _ _ _ _ _ _) rfl inz_X10 18 (by decide) zq5_49 rfl dX10_readsElement_61 ?_
    refine gz_iconst K (v := (1 : Int32)) dX10_readsElement_64 (by decide) ?_
    refine gz_iadd K dX10_readsElement_65 ?_
    refine gz_put K (x := ((gz_i τ56 43 18) + (1 : Int32))) (by decide) (ce_43 _ _ _ _ _ _) rfl inz_X10 tyX10 tyX10_ok nmX10 18 (by decide) zq5_49 rfl (tyX10_ok _ (by decide)) rfl rfl (Nat.le_of_ble_eq_true rfl) peX10_18 dX10_readsElement_66 ?_
    refine gz_iconst K (v := (1 : Int32)) dX10_readsElement_69 (by decide) ?_
    exact gz_zret K hr (by decide) hp dX10_readsElement_70 (Nat.le_of_ble_eq_true rfl) (Nat.le_of_ble_eq_true rfl)
  have bb_41 : ∀ (σ : Dz) (y1 : Int32) , B_X10_readsElement_41 (X10W 6) post  σ y1 → Gz p l e r_X10_readsElement_6 s m args below meth c D ad ty 5 0 0 (Ez below D ad ty nI0 post (fun _ _ => False) args s 0 0) σ 41 [(0, .ref (ad 43)), (1, .int y1)] [.ref (ad 43)] := by
    intro σ y1 hp
    unfold B_X10_readsElement_41 at hp
    refine gz_iconst K (v := (1 : Int32)) dX10_readsElement_41 (by decide) ?_
    refine gz_goto K 46 dX10_readsElement_42 (by decide) ?_
    exact bb_46 σ y1 (1 : Int32)  hp
  show Gz p l e r_X10_readsElement_6 s m args below meth c D ad ty 5 0 0 (Ez below D ad ty nI0 post (fun _ _ => False) args s 0 0) σ 0 [(0, .ref (ad 43))] []
  refine gz_aload_n K dX10_readsElement_0 0 rfl ?_
  refine gz_callV K hex (c_X10_here K.2.2.2.2.2 K.2.2.1 hp) cf_X10_here zq5_173 (by decide) (ce_43 _ _ _ _ _ _) rfl dX10_readsElement_1 rfl rfl (Nat.le_of_ble_eq_true rfl) ⟨Nat.le_of_ble_eq_true rfl, Nat.le_of_ble_eq_true rfl⟩ ⟨Nat.le_of_ble_eq_true rfl, Nat.le_of_ble_eq_true rfl⟩ (Nat.le_of_ble_eq_true rfl) (Nat.le_of_ble_eq_true rfl) (fun _ _ h => h.elim) (fun r1 τ hp => ?_)
  obtain ⟨rfl, hp⟩ := hp
  refine gz_norm (st' := [.int r1]) (cells' := 0) (slots' := 0) rfl rfl rfl ?_
  refine gz_istore_n K [(1, .int r1), (0, .ref (ad 43))] dX10_readsElement_4 (by decide) rfl ?_
  refine gz_aload_n K dX10_readsElement_5 1 rfl ?_
  refine gz_get K (v := .int (gz_i σ 43 22)) (by decide) (ce_43 _ _ _ _ _ _) rfl inz_X10 22 (by decide) zq5_53 rfl dX10_readsElement_6 ?_
  refine gz_istore_n K [(2, .int (gz_i σ 43 22)), (1, .int r1), (0, .ref (ad 43))] dX10_readsElement_9 (by decide) rfl ?_
  refine gz_iload_n K dX10_readsElement_10 1 rfl ?_
  refine gz_bipush K (v := (97 : Int32)) dX10_readsElement_11 (by decide) ?_
  refine gz_bipush K (v := (101 : Int32)) dX10_readsElement_13 (by decide) ?_
  refine gz_callS K hex (c_X10_in K.2.2.2.2.2 K.2.2.1 hp) cf_X10_in zq5_146 dX10_readsElement_15 rfl rfl (Nat.le_of_ble_eq_true rfl) ⟨Nat.le_of_ble_eq_true rfl, Nat.le_of_ble_eq_true rfl⟩ ⟨Nat.le_of_ble_eq_true rfl, Nat.le_of_ble_eq_true rfl⟩ (Nat.le_of_ble_eq_true rfl) (Nat.le_of_ble_eq_true rfl) (fun _ _ h => h.elim) (fun r15 τ hp => ?_)
  obtain ⟨rfl, hp⟩ := hp
  refine gz_norm (st' := [.int r15]) (cells' := 0) (slots' := 0) rfl rfl rfl ?_
  refine gz_if_eq K 71 dX10_readsElement_18 (by decide) (fun h => ?_) (fun h => ?_)
  · have hp := hp.1 h
    refine gz_iload_n K dX10_readsElement_71 1 rfl ?_
    refine gz_bipush K (v := (40 : Int32)) dX10_readsElement_72 (by decide) ?_
    refine gz_icmp_eq K 83 dX10_readsElement_74 (by decide) (fun h => ?_) (fun h => ?_)
    · have hp := hp.1 h
      refine gz_sub [2, 1, 0] rfl ?_
      exact bb_83 σ r1 (gz_i σ 43 22)  hp
    · have hp := hp.2 h
      refine gz_iload_n K dX10_readsElement_77 1 rfl ?_
      refine gz_bipush K (v := (60 : Int32)) dX10_readsElement_78 (by decide) ?_
      refine gz_icmp_ne K 92 dX10_readsElement_80 (by decide) (fun h => ?_) (fun h => ?_)
      · have hp := hp.1 h
        refine gz_iconst K (v := (0 : Int32)) dX10_readsElement_92 (by decide) ?_
        exact gz_zret K hr (by decide) hp dX10_readsElement_93 (Nat.le_of_ble_eq_true rfl) (Nat.le_of_ble_eq_true rfl)
      · have hp := hp.2 h
        refine gz_sub [2, 1, 0] rfl ?_
        exact bb_83 σ r1 (gz_i σ 43 22)  hp
  · have hp := hp.2 h
    refine gz_aload_n K dX10_readsElement_21 2 rfl ?_
    refine gz_aload_n K dX10_readsElement_22 2 rfl ?_
    refine gz_get K (v := .int (gz_i σ 43 24)) (by decide) (ce_43 _ _ _ _ _ _) rfl inz_X10 24 (by decide) zq5_55 rfl dX10_readsElement_23 ?_
    refine gz_if_ne K 41 dX10_readsElement_26 (by decide) (fun h => ?_) (fun h => ?_)
    · have hp := hp.1 h
      refine gz_sub [2, 1] rfl ?_
      exact bb_41 σ r1  hp
    · have hp := hp.2 h
      refine gz_aload_n K dX10_readsElement_29 2 rfl ?_
      refine gz_get K (v := .ref (ad 45)) (by decide) (ce_43 _ _ _ _ _ _) rfl inz_X10 3 (by decide) zq5_34 rfl dX10_readsElement_30 ?_
      refine gz_iload_n K dX10_readsElement_33 1 rfl ?_
      refine gz_bipush K (v := (97 : Int32)) dX10_readsElement_34 (by decide) ?_
      refine gz_isub K dX10_readsElement_36 ?_
      obtain ⟨h, hp⟩ := hp
      refine gz_zald K (by decide) (ce_45 _ _ _ _ _ _) h dX10_readsElement_37 ?_
      refine gz_if_ne K 45 dX10_readsElement_38 (by decide) (fun h => ?_) (fun h => ?_)
      · have hp := hp.1 h
        refine gz_iconst K (v := (0 : Int32)) dX10_readsElement_45 (by decide) ?_
        refine gz_sub [2, 1] rfl ?_
        exact bb_46 σ r1 (0 : Int32)  hp
      · have hp := hp.2 h
        refine gz_sub [2, 1] rfl ?_
        exact bb_41 σ r1  hp
set_option maxRecDepth 100000 in
set_option maxHeartbeats 4000000 in
theorem c_X10_readsWord_7 {l : Launch} {D : va_G} {ad : Nat → Nat} {ty : Nat → ClassId} (hl : l.stackTraces = false) (hj : ∀ i j, i < 68 → j < 68 → ad i = ad j → i = j) {σ : Dz} {post : Int32 → Dz → Prop} (hp : X10W 7 σ post) : Mz l D ad ty yX10_readsWord cX10_readsWord 2 (some .boolean) r_X10_readsWord_7 nI0 σ [.ref (ad 43)] post (fun _ _ => False) := by
  refine mz_of (by decide) hl hj (Nat.le_of_ble_eq_true rfl) ?_
  intro p e s m args below meth c K hex hr
  have hp : Q_X10_readsWord (X10E 6) σ post := hp
  unfold Q_X10_readsWord at hp
  show Gz p l e r_X10_readsWord_7 s m args below meth c D ad ty 2 0 0 (Ez below D ad ty nI0 post (fun _ _ => False) args s 0 0) σ 0 [(0, .ref (ad 43))] []
  have ll_0 : ∀ (n_0 : Nat) (σ : Dz) , L_X10_readsWord_0 (X10E 6) post  n_0 σ → Gz p l e r_X10_readsWord_7 s m args below meth c D ad ty 2 0 0 (Ez below D ad ty nI0 post (fun _ _ => False) args s 0 0) σ 0 [(0, .ref (ad 43))] [] := by
    intro n_0; induction n_0 with
    | zero => intro σ hp; exact False.elim hp
    | succ n_0 ih_0 =>
      intro σ hp
      have hp : B_X10_readsWord_0 (X10E 6) post  (L_X10_readsWord_0 (X10E 6) post  n_0) σ := hp
      unfold B_X10_readsWord_0 at hp
      have bb_32 : ∀ (σ : Dz) , B_X10_readsWord_32 (X10E 6) post (L_X10_readsWord_0 (X10E 6) post  n_0) σ → Gz p l e r_X10_readsWord_7 s m args below meth c D ad ty 2 0 0 (Ez below D ad ty nI0 post (fun _ _ => False) args s 0 0) σ 32 [(0, .ref (ad 43))] [] := by
        intro σ hp
        unfold B_X10_readsWord_32 at hp
        refine gz_aload_n K dX10_readsWord_32 0 rfl ?_
        refine gz_get K (v := .int (gz_i σ 43 22)) (by decide) (ce_43 _ _ _ _ _ _) rfl inz_X10 22 (by decide) zq5_53 rfl dX10_readsWord_33 ?_
        refine gz_istore_n K [(1, .int (gz_i σ 43 22)), (0, .ref (ad 43))] dX10_readsWord_36 (by decide) rfl ?_
        refine gz_aload_n K dX10_readsWord_37 1 rfl ?_
        refine gz_callS K hex (c_X10_readsElement_6 K.2.2.2.2.2 K.2.2.1 hp) cf_X10_readsElement zq5_199 dX10_readsWord_38 rfl rfl (Nat.le_of_ble_eq_true rfl) ⟨Nat.le_of_ble_eq_true rfl, Nat.le_of_ble_eq_true rfl⟩ ⟨Nat.le_of_ble_eq_true rfl, Nat.le_of_ble_eq_true rfl⟩ (Nat.le_of_ble_eq_true rfl) (Nat.le_of_ble_eq_true rfl) (fun _ _ h => h.elim) (fun r38 τ38 hp => ?_)
        refine gz_norm (st' := [.int r38]) (cells' := 0) (slots' := 0) rfl rfl rfl ?_
        refine gz_if_ne K 46 dX10_readsWord_41 (by decide) (fun h => ?_) (fun h => ?_)
        · have hp := hp.1 h
          refine gz_aload_n K dX10_readsWord_46 1 rfl ?_
          refine gz_iload_n K dX10_readsWord_47 0 rfl ?_
          refine gz_callV K hex (c_X10_readsBehind K.2.2.2.2.2 K.2.2.1 hp) cf_X10_readsBehind zq5_210 (by decide) (ce_43 _ _ _ _ _ _) rfl dX10_readsWord_48 rfl rfl (Nat.le_of_ble_eq_true rfl) ⟨Nat.le_of_ble_eq_true rfl, Nat.le_of_ble_eq_true rfl⟩ ⟨Nat.le_of_ble_eq_true rfl, Nat.le_of_ble_eq_true rfl⟩ (Nat.le_of_ble_eq_true rfl) (Nat.le_of_ble_eq_true rfl) (fun _ _ h => h.elim) (fun _ τ48 hp => ?_)
          refine gz_norm (st' := []) (cells' := 0) (slots' := 0) rfl rfl rfl ?_
          refine gz_goto K 0 dX10_readsWord_51 (by decide) ?_
          refine gz_sub [1] rfl ?_
          exact ih_0 τ48  hp
        · have hp := hp.2 h
          refine gz_iconst K (v := (0 : Int32)) dX10_readsWord_44 (by decide) ?_
          exact gz_zret K hr (by decide) hp dX10_readsWord_45 (Nat.le_of_ble_eq_true rfl) (Nat.le_of_ble_eq_true rfl)
      refine gz_aload_n K dX10_readsWord_0 0 rfl ?_
      refine gz_callV K hex (c_X10_here K.2.2.2.2.2 K.2.2.1 hp) cf_X10_here zq5_173 (by decide) (ce_43 _ _ _ _ _ _) rfl dX10_readsWord_1 rfl rfl (Nat.le_of_ble_eq_true rfl) ⟨Nat.le_of_ble_eq_true rfl, Nat.le_of_ble_eq_true rfl⟩ ⟨Nat.le_of_ble_eq_true rfl, Nat.le_of_ble_eq_true rfl⟩ (Nat.le_of_ble_eq_true rfl) (Nat.le_of_ble_eq_true rfl) (fun _ _ h => h.elim) (fun r1 τ hp => ?_)
      obtain ⟨rfl, hp⟩ := hp
      refine gz_norm (st' := [.int r1]) (cells' := 0) (slots' := 0) rfl rfl rfl ?_
      refine gz_bipush K (v := (97 : Int32)) dX10_readsWord_4 (by decide) ?_
      refine gz_bipush K (v := (101 : Int32)) dX10_readsWord_6 (by decide) ?_
      refine gz_callS K hex (c_X10_in K.2.2.2.2.2 K.2.2.1 hp) cf_X10_in zq5_146 dX10_readsWord_8 rfl rfl (Nat.le_of_ble_eq_true rfl) ⟨Nat.le_of_ble_eq_true rfl, Nat.le_of_ble_eq_true rfl⟩ ⟨Nat.le_of_ble_eq_true rfl, Nat.le_of_ble_eq_true rfl⟩ (Nat.le_of_ble_eq_true rfl) (Nat.le_of_ble_eq_true rfl) (fun _ _ h => h.elim) (fun r8 τ hp => ?_)
      obtain ⟨rfl, hp⟩ := hp
      refine gz_norm (st' := [.int r8]) (cells' := 0) (slots' := 0) rfl rfl rfl ?_
      refine gz_if_ne K 32 dX10_readsWord_11 (by decide) (fun h => ?_) (fun h => ?_)
      · have hp := hp.1 h
        exact bb_32 σ  hp
      · have hp := hp.2 h
        refine gz_aload_n K dX10_readsWord_14 0 rfl ?_
        refine gz_callV K hex (c_X10_here K.2.2.2.2.2 K.2.2.1 hp) cf_X10_here zq5_173 (by decide) (ce_43 _ _ _ _ _ _) rfl dX10_readsWord_15 rfl rfl (Nat.le_of_ble_eq_true rfl) ⟨Nat.le_of_ble_eq_true rfl, Nat.le_of_ble_eq_true rfl⟩ ⟨Nat.le_of_ble_eq_true rfl, Nat.le_of_ble_eq_true rfl⟩ (Nat.le_of_ble_eq_true rfl) (Nat.le_of_ble_eq_true rfl) (fun _ _ h => h.elim) (fun r15 τ hp => ?_)
        obtain ⟨rfl, hp⟩ := hp
        refine gz_norm (st' := [.int r15]) (cells' := 0) (slots' := 0) rfl rfl rfl ?_
        refine gz_bipush K (v := (40 : Int32)) dX10_readsWord_18 (by decide) ?_
        refine gz_icmp_eq K 32 dX10_readsWord_20 (by decide) (fun h => ?_) (fun h => ?_)
        · have hp := hp.1 h
          exact bb_32 σ  hp
        · have hp := hp.2 h
          refine gz_aload_n K dX10_readsWord_23 0 rfl ?_
          refine gz_callV K hex (c_X10_here K.2.2.2.2.2 K.2.2.1 hp) cf_X10_here zq5_173 (by decide) (ce_43 _ _ _ _ _ _) rfl dX10_readsWord_24 rfl rfl (Nat.le_of_ble_eq_true rfl) ⟨Nat.le_of_ble_eq_true rfl, Nat.le_of_ble_eq_true rfl⟩ ⟨Nat.le_of_ble_eq_true rfl, Nat.le_of_ble_eq_true rfl⟩ (Nat.le_of_ble_eq_true rfl) (Nat.le_of_ble_eq_true rfl) (fun _ _ h => h.elim) (fun r24 τ hp => ?_)
          obtain ⟨rfl, hp⟩ := hp
          refine gz_norm (st' := [.int r24]) (cells' := 0) (slots' := 0) rfl rfl rfl ?_
          refine gz_bipush K (v := (60 : Int32)) dX10_readsWord_27 (by decide) ?_
          refine gz_icmp_ne K 54 dX10_readsWord_29 (by decide) (fun h => ?_) (fun h => ?_)
          · have hp := hp.1 h
            refine gz_iconst K (v := (1 : Int32)) dX10_readsWord_54 (by decide) ?_
            exact gz_zret K hr (by decide) hp dX10_readsWord_55 (Nat.le_of_ble_eq_true rfl) (Nat.le_of_ble_eq_true rfl)
          · have hp := hp.2 h
            exact bb_32 σ  hp
  obtain ⟨n, hp⟩ := hp
  exact ll_0 n σ  hp
set_option maxRecDepth 100000 in
set_option maxHeartbeats 4000000 in
theorem c_X10_readsElement_7 {l : Launch} {D : va_G} {ad : Nat → Nat} {ty : Nat → ClassId} (hl : l.stackTraces = false) (hj : ∀ i j, i < 68 → j < 68 → ad i = ad j → i = j) {σ : Dz} {post : Int32 → Dz → Prop} (hp : X10E 7 σ post) : Mz l D ad ty yX10_readsElement cX10_readsElement 5 (some .boolean) r_X10_readsElement_7 nI0 σ [.ref (ad 43)] post (fun _ _ => False) := by
  refine mz_of (by decide) hl hj (Nat.le_of_ble_eq_true rfl) ?_
  intro p e s m args below meth c K hex hr
  have hp : Q_X10_readsElement (X10W 7) σ post := hp
  unfold Q_X10_readsElement at hp
  have bb_181 : ∀ (σ : Dz) (y1 : Int32) (y2 : Int32) (y3 : Int32) (z0 : Int32) (z1 : Int32) , B_X10_readsElement_181 (X10W 7) post  σ y1 y2 y3 z0 z1 → Gz p l e r_X10_readsElement_7 s m args below meth c D ad ty 5 0 0 (Ez below D ad ty nI0 post (fun _ _ => False) args s 0 0) σ 181 [(0, .ref (ad 43)), (1, .int y1), (2, .int y2), (3, .int y3)] [.int z0, .int z1] := by
    intro σ y1 y2 y3 z0 z1 hp
    unfold B_X10_readsElement_181 at hp
    refine gz_icmp_eq K 186 dX10_readsElement_181 (by decide) (fun h => ?_) (fun h => ?_)
    · have hp := hp.1 h
      refine gz_aload_n K dX10_readsElement_186 0 rfl ?_
      refine gz_dup K dX10_readsElement_187 rfl ?_
      refine gz_get K (v := .int (gz_i σ 43 18)) (by decide) (ce_43 _ _ _ _ _ _) rfl inz_X10 18 (by decide) zq5_49 rfl dX10_readsElement_188 ?_
      refine gz_iconst K (v := (1 : Int32)) dX10_readsElement_191 (by decide) ?_
      refine gz_iadd K dX10_readsElement_192 ?_
      refine gz_put K (x := ((gz_i σ 43 18) + (1 : Int32))) (by decide) (ce_43 _ _ _ _ _ _) rfl inz_X10 tyX10 tyX10_ok nmX10 18 (by decide) zq5_49 rfl (tyX10_ok _ (by decide)) rfl rfl (Nat.le_of_ble_eq_true rfl) peX10_18 dX10_readsElement_193 ?_
      refine gz_aload_n K dX10_readsElement_196 0 rfl ?_
      refine gz_dup K dX10_readsElement_197 rfl ?_
      refine gz_get K (v := .int (gz_i (sz_i σ 43 18 ((gz_i σ 43 18) + (1 : Int32))) 43 25)) (by decide) (ce_43 _ _ _ _ _ _) rfl inz_X10 25 (by decide) zq5_56 rfl dX10_readsElement_198 ?_
      refine gz_iconst K (v := (1 : Int32)) dX10_readsElement_201 (by decide) ?_
      refine gz_isub K dX10_readsElement_202 ?_
      refine gz_put K (x := ((gz_i (sz_i σ 43 18 ((gz_i σ 43 18) + (1 : Int32))) 43 25) - (1 : Int32))) (by decide) (ce_43 _ _ _ _ _ _) rfl inz_X10 tyX10 tyX10_ok nmX10 25 (by decide) zq5_56 rfl (tyX10_ok _ (by decide)) rfl rfl (Nat.le_of_ble_eq_true rfl) peX10_25 dX10_readsElement_203 ?_
      refine gz_iload_n K dX10_readsElement_206 1 rfl ?_
      refine gz_bipush K (v := (60 : Int32)) dX10_readsElement_207 (by decide) ?_
      refine gz_icmp_ne K 231 dX10_readsElement_209 (by decide) (fun h => ?_) (fun h => ?_)
      · have hp := hp.1 h
        refine gz_iconst K (v := (1 : Int32)) dX10_readsElement_231 (by decide) ?_
        exact gz_zret K hr (by decide) hp dX10_readsElement_232 (Nat.le_of_ble_eq_true rfl) (Nat.le_of_ble_eq_true rfl)
      · have hp := hp.2 h
        refine gz_aload_n K dX10_readsElement_212 0 rfl ?_
        refine gz_get K (v := .int (gz_i (sz_i (sz_i σ 43 18 ((gz_i σ 43 18) + (1 : Int32))) 43 25 ((gz_i (sz_i σ 43 18 ((gz_i σ 43 18) + (1 : Int32))) 43 25) - (1 : Int32))) 43 22)) (by decide) (ce_43 _ _ _ _ _ _) rfl inz_X10 22 (by decide) zq5_53 rfl dX10_readsElement_213 ?_
        refine gz_istore K [(4, .int (gz_i (sz_i (sz_i σ 43 18 ((gz_i σ 43 18) + (1 : Int32))) 43 25 ((gz_i (sz_i σ 43 18 ((gz_i σ 43 18) + (1 : Int32))) 43 25) - (1 : Int32))) 43 22)), (0, .ref (ad 43)), (1, .int y1), (2, .int y2), (3, .int y3)] dX10_readsElement_216 (by decide) rfl ?_
        refine gz_aload_n K dX10_readsElement_218 1 rfl ?_
        refine gz_iload_n K dX10_readsElement_219 3 rfl ?_
        refine gz_iload_n K dX10_readsElement_220 4 rfl ?_
        refine gz_callV K hex (c_X10_comesBack K.2.2.2.2.2 K.2.2.1 hp) cf_X10_comesBack zq5_206 (by decide) (ce_43 _ _ _ _ _ _) rfl dX10_readsElement_221 rfl rfl (Nat.le_of_ble_eq_true rfl) ⟨Nat.le_of_ble_eq_true rfl, Nat.le_of_ble_eq_true rfl⟩ ⟨Nat.le_of_ble_eq_true rfl, Nat.le_of_ble_eq_true rfl⟩ (Nat.le_of_ble_eq_true rfl) (Nat.le_of_ble_eq_true rfl) (fun _ _ h => h.elim) (fun _ τ221 hp => ?_)
        refine gz_norm (st' := []) (cells' := 0) (slots' := 0) rfl rfl rfl ?_
        refine gz_aload_n K dX10_readsElement_224 1 rfl ?_
        refine gz_iload_n K dX10_readsElement_225 4 rfl ?_
        refine gz_iload K dX10_readsElement_226 0 rfl ?_
        refine gz_callV K hex (c_X10_comesBack K.2.2.2.2.2 K.2.2.1 hp) cf_X10_comesBack zq5_206 (by decide) (ce_43 _ _ _ _ _ _) rfl dX10_readsElement_228 rfl rfl (Nat.le_of_ble_eq_true rfl) ⟨Nat.le_of_ble_eq_true rfl, Nat.le_of_ble_eq_true rfl⟩ ⟨Nat.le_of_ble_eq_true rfl, Nat.le_of_ble_eq_true rfl⟩ (Nat.le_of_ble_eq_true rfl) (Nat.le_of_ble_eq_true rfl) (fun _ _ h => h.elim) (fun _ τ228 hp => ?_)
        refine gz_norm (st' := []) (cells' := 0) (slots' := 0) rfl rfl rfl ?_
        refine gz_iconst K (v := (1 : Int32)) dX10_readsElement_231 (by decide) ?_
        exact gz_zret K hr (by decide) hp dX10_readsElement_232 (Nat.le_of_ble_eq_true rfl) (Nat.le_of_ble_eq_true rfl)
    · have hp := hp.2 h
      refine gz_iconst K (v := (0 : Int32)) dX10_readsElement_184 (by decide) ?_
      exact gz_zret K hr (by decide) hp dX10_readsElement_185 (Nat.le_of_ble_eq_true rfl) (Nat.le_of_ble_eq_true rfl)
  have bb_164 : ∀ (σ : Dz) (y1 : Int32) (y2 : Int32) (y3 : Int32) , B_X10_readsElement_164 (X10W 7) post  σ y1 y2 y3 → Gz p l e r_X10_readsElement_7 s m args below meth c D ad ty 5 0 0 (Ez below D ad ty nI0 post (fun _ _ => False) args s 0 0) σ 164 [(0, .ref (ad 43)), (1, .int y1), (2, .int y2), (3, .int y3)] [] := by
    intro σ y1 y2 y3 hp
    unfold B_X10_readsElement_164 at hp
    refine gz_aload_n K dX10_readsElement_164 0 rfl ?_
    refine gz_callV K hex (c_X10_here K.2.2.2.2.2 K.2.2.1 hp) cf_X10_here zq5_173 (by decide) (ce_43 _ _ _ _ _ _) rfl dX10_readsElement_165 rfl rfl (Nat.le_of_ble_eq_true rfl) ⟨Nat.le_of_ble_eq_true rfl, Nat.le_of_ble_eq_true rfl⟩ ⟨Nat.le_of_ble_eq_true rfl, Nat.le_of_ble_eq_true rfl⟩ (Nat.le_of_ble_eq_true rfl) (Nat.le_of_ble_eq_true rfl) (fun _ _ h => h.elim) (fun r165 τ hp => ?_)
    obtain ⟨rfl, hp⟩ := hp
    refine gz_norm (st' := [.int r165]) (cells' := 0) (slots' := 0) rfl rfl rfl ?_
    refine gz_iload_n K dX10_readsElement_168 1 rfl ?_
    refine gz_bipush K (v := (40 : Int32)) dX10_readsElement_169 (by decide) ?_
    refine gz_icmp_ne K 179 dX10_readsElement_171 (by decide) (fun h => ?_) (fun h => ?_)
    · have hp := hp.1 h
      refine gz_bipush K (v := (62 : Int32)) dX10_readsElement_179 (by decide) ?_
      exact bb_181 σ y1 y2 y3 (62 : Int32) r165  hp
    · have hp := hp.2 h
      refine gz_bipush K (v := (41 : Int32)) dX10_readsElement_174 (by decide) ?_
      refine gz_goto K 181 dX10_readsElement_176 (by decide) ?_
      exact bb_181 σ y1 y2 y3 (41 : Int32) r165  hp
  have bb_83 : ∀ (σ : Dz) (y1 : Int32) (y2 : Int32) , B_X10_readsElement_83 (X10W 7) post  σ y1 y2 → Gz p l e r_X10_readsElement_7 s m args below meth c D ad ty 5 0 0 (Ez below D ad ty nI0 post (fun _ _ => False) args s 0 0) σ 83 [(0, .ref (ad 43)), (1, .int y1), (2, .int y2)] [] := by
    intro σ y1 y2 hp
    unfold B_X10_readsElement_83 at hp
    refine gz_aload_n K dX10_readsElement_83 0 rfl ?_
    refine gz_get K (v := .int (gz_i σ 43 25)) (by decide) (ce_43 _ _ _ _ _ _) rfl inz_X10 25 (by decide) zq5_56 rfl dX10_readsElement_84 ?_
    refine gz_bipush K (v := (6 : Int32)) dX10_readsElement_87 (by decide) ?_
    refine gz_icmp_ne K 94 dX10_readsElement_89 (by decide) (fun h => ?_) (fun h => ?_)
    · have hp := hp.1 h
      refine gz_aload_n K dX10_readsElement_94 0 rfl ?_
      refine gz_dup K dX10_readsElement_95 rfl ?_
      refine gz_get K (v := .int (gz_i σ 43 25)) (by decide) (ce_43 _ _ _ _ _ _) rfl inz_X10 25 (by decide) zq5_56 rfl dX10_readsElement_96 ?_
      refine gz_iconst K (v := (1 : Int32)) dX10_readsElement_99 (by decide) ?_
      refine gz_iadd K dX10_readsElement_100 ?_
      refine gz_put K (x := ((gz_i σ 43 25) + (1 : Int32))) (by decide) (ce_43 _ _ _ _ _ _) rfl inz_X10 tyX10 tyX10_ok nmX10 25 (by decide) zq5_56 rfl (tyX10_ok _ (by decide)) rfl rfl (Nat.le_of_ble_eq_true rfl) peX10_25 dX10_readsElement_101 ?_
      refine gz_aload_n K dX10_readsElement_104 0 rfl ?_
      refine gz_dup K dX10_readsElement_105 rfl ?_
      refine gz_get K (v := .int (gz_i (sz_i σ 43 25 ((gz_i σ 43 25) + (1 : Int32))) 43 18)) (by decide) (ce_43 _ _ _ _ _ _) rfl inz_X10 18 (by decide) zq5_49 rfl dX10_readsElement_106 ?_
      refine gz_iconst K (v := (1 : Int32)) dX10_readsElement_109 (by decide) ?_
      refine gz_iadd K dX10_readsElement_110 ?_
      refine gz_put K (x := ((gz_i (sz_i σ 43 25 ((gz_i σ 43 25) + (1 : Int32))) 43 18) + (1 : Int32))) (by decide) (ce_43 _ _ _ _ _ _) rfl inz_X10 tyX10 tyX10_ok nmX10 18 (by decide) zq5_49 rfl (tyX10_ok _ (by decide)) rfl rfl (Nat.le_of_ble_eq_true rfl) peX10_18 dX10_readsElement_111 ?_
      refine gz_aload_n K dX10_readsElement_114 0 rfl ?_
      refine gz_callS K hex (c_X10_readsWord_7 K.2.2.2.2.2 K.2.2.1 hp) cf_X10_readsWord zq5_196 dX10_readsElement_115 rfl rfl (Nat.le_of_ble_eq_true rfl) ⟨Nat.le_of_ble_eq_true rfl, Nat.le_of_ble_eq_true rfl⟩ ⟨Nat.le_of_ble_eq_true rfl, Nat.le_of_ble_eq_true rfl⟩ (Nat.le_of_ble_eq_true rfl) (Nat.le_of_ble_eq_true rfl) (fun _ _ h => h.elim) (fun r115 τ115 hp => ?_)
      refine gz_norm (st' := [.int r115]) (cells' := 0) (slots' := 0) rfl rfl rfl ?_
      refine gz_if_ne K 123 dX10_readsElement_118 (by decide) (fun h => ?_) (fun h => ?_)
      · have hp := hp.1 h
        refine gz_aload_n K dX10_readsElement_123 0 rfl ?_
        refine gz_get K (v := .int (gz_i τ115 43 22)) (by decide) (ce_43 _ _ _ _ _ _) rfl inz_X10 22 (by decide) zq5_53 rfl dX10_readsElement_124 ?_
        refine gz_istore_n K [(3, .int (gz_i τ115 43 22)), (0, .ref (ad 43)), (1, .int y1), (2, .int y2)] dX10_readsElement_127 (by decide) rfl ?_
        refine gz_iload_n K dX10_readsElement_128 2 rfl ?_
        refine gz_bipush K (v := (60 : Int32)) dX10_readsElement_129 (by decide) ?_
        refine gz_icmp_ne K 164 dX10_readsElement_131 (by decide) (fun h => ?_) (fun h => ?_)
        · have hp := hp.1 h
          refine gz_sub [1, 2, 3, 0] rfl ?_
          exact bb_164 τ115 y1 y2 (gz_i τ115 43 22)  hp
        · have hp := hp.2 h
          refine gz_aload_n K dX10_readsElement_134 1 rfl ?_
          refine gz_callV K hex (c_X10_here K.2.2.2.2.2 K.2.2.1 hp) cf_X10_here zq5_173 (by decide) (ce_43 _ _ _ _ _ _) rfl dX10_readsElement_135 rfl rfl (Nat.le_of_ble_eq_true rfl) ⟨Nat.le_of_ble_eq_true rfl, Nat.le_of_ble_eq_true rfl⟩ ⟨Nat.le_of_ble_eq_true rfl, Nat.le_of_ble_eq_true rfl⟩ (Nat.le_of_ble_eq_true rfl) (Nat.le_of_ble_eq_true rfl) (fun _ _ h => h.elim) (fun r135 τ hp => ?_)
          obtain ⟨rfl, hp⟩ := hp
          refine gz_norm (st' := [.int r135]) (cells' := 0) (slots' := 0) rfl rfl rfl ?_
          refine gz_bipush K (v := (44 : Int32)) dX10_readsElement_138 (by decide) ?_
          refine gz_icmp_eq K 145 dX10_readsElement_140 (by decide) (fun h => ?_) (fun h => ?_)
          · have hp := hp.1 h
            refine gz_aload_n K dX10_readsElement_145 1 rfl ?_
            refine gz_dup K dX10_readsElement_146 rfl ?_
            refine gz_get K (v := .int (gz_i τ115 43 18)) (by decide) (ce_43 _ _ _ _ _ _) rfl inz_X10 18 (by decide) zq5_49 rfl dX10_readsElement_147 ?_
            refine gz_iconst K (v := (1 : Int32)) dX10_readsElement_150 (by decide) ?_
            refine gz_iadd K dX10_readsElement_151 ?_
            refine gz_put K (x := ((gz_i τ115 43 18) + (1 : Int32))) (by decide) (ce_43 _ _ _ _ _ _) rfl inz_X10 tyX10 tyX10_ok nmX10 18 (by decide) zq5_49 rfl (tyX10_ok _ (by decide)) rfl rfl (Nat.le_of_ble_eq_true rfl) peX10_18 dX10_readsElement_152 ?_
            refine gz_aload_n K dX10_readsElement_155 1 rfl ?_
            refine gz_callS K hex (c_X10_readsWord_7 K.2.2.2.2.2 K.2.2.1 hp) cf_X10_readsWord zq5_196 dX10_readsElement_156 rfl rfl (Nat.le_of_ble_eq_true rfl) ⟨Nat.le_of_ble_eq_true rfl, Nat.le_of_ble_eq_true rfl⟩ ⟨Nat.le_of_ble_eq_true rfl, Nat.le_of_ble_eq_true rfl⟩ (Nat.le_of_ble_eq_true rfl) (Nat.le_of_ble_eq_true rfl) (fun _ _ h => h.elim) (fun r156 τ156 hp => ?_)
            refine gz_norm (st' := [.int r156]) (cells' := 0) (slots' := 0) rfl rfl rfl ?_
            refine gz_if_ne K 164 dX10_readsElement_159 (by decide) (fun h => ?_) (fun h => ?_)
            · have hp := hp.1 h
              refine gz_sub [1, 2, 3, 0] rfl ?_
              exact bb_164 τ156 y1 y2 (gz_i τ115 43 22)  hp
            · have hp := hp.2 h
              refine gz_iconst K (v := (0 : Int32)) dX10_readsElement_162 (by decide) ?_
              exact gz_zret K hr (by decide) hp dX10_readsElement_163 (Nat.le_of_ble_eq_true rfl) (Nat.le_of_ble_eq_true rfl)
          · have hp := hp.2 h
            refine gz_iconst K (v := (0 : Int32)) dX10_readsElement_143 (by decide) ?_
            exact gz_zret K hr (by decide) hp dX10_readsElement_144 (Nat.le_of_ble_eq_true rfl) (Nat.le_of_ble_eq_true rfl)
      · have hp := hp.2 h
        refine gz_iconst K (v := (0 : Int32)) dX10_readsElement_121 (by decide) ?_
        exact gz_zret K hr (by decide) hp dX10_readsElement_122 (Nat.le_of_ble_eq_true rfl) (Nat.le_of_ble_eq_true rfl)
    · have hp := hp.2 h
      refine gz_iconst K (v := (0 : Int32)) dX10_readsElement_92 (by decide) ?_
      exact gz_zret K hr (by decide) hp dX10_readsElement_93 (Nat.le_of_ble_eq_true rfl) (Nat.le_of_ble_eq_true rfl)
  have bb_46 : ∀ (σ : Dz) (y1 : Int32) (z0 : Int32) , B_X10_readsElement_46 (X10W 7) post  σ y1 z0 → Gz p l e r_X10_readsElement_7 s m args below meth c D ad ty 5 0 0 (Ez below D ad ty nI0 post (fun _ _ => False) args s 0 0) σ 46 [(0, .ref (ad 43)), (1, .int y1)] [.int z0, .ref (ad 43)] := by
    intro σ y1 z0 hp
    unfold B_X10_readsElement_46 at hp
    obtain ⟨h, hp⟩ := hp
    refine gz_put K (x := z0) (by decide) (ce_43 _ _ _ _ _ _) rfl inz_X10 tyX10 tyX10_ok nmX10 24 (by decide) zq5_55 rfl (tyX10_ok _ (by decide)) (nB h) (fB h) (Nat.le_of_ble_eq_true rfl) peX10_24 dX10_readsElement_46 ?_
    refine gz_aload_n K dX10_readsElement_49 0 rfl ?_
    refine gz_iconst K (v := (2 : Int32)) dX10_readsElement_50 (by decide) ?_
    refine gz_iload_n K dX10_readsElement_51 1 rfl ?_
    refine gz_bipush K (v := (97 : Int32)) dX10_readsElement_52 (by decide) ?_
    refine gz_isub K dX10_readsElement_54 ?_
    refine gz_imul K dX10_readsElement_55 ?_
    refine gz_callV K hex (c_X10_comes K.2.2.2.2.2 K.2.2.1 hp) cf_X10_comes zq5_202 (by decide) (ce_43 _ _ _ _ _ _) rfl dX10_readsElement_56 rfl rfl (Nat.le_of_ble_eq_true rfl) ⟨Nat.le_of_ble_eq_true rfl, Nat.le_of_ble_eq_true rfl⟩ ⟨Nat.le_of_ble_eq_true rfl, Nat.le_of_ble_eq_true rfl⟩ (Nat.le_of_ble_eq_true rfl) (Nat.le_of_ble_eq_true rfl) (fun _ _ h => h.elim) (fun _ τ56 hp => ?_)
    refine gz_norm (st' := []) (cells' := 0) (slots' := 0) rfl rfl rfl ?_
    refine gz_aload_n K dX10_readsElement_59 0 rfl ?_
    refine gz_dup K dX10_readsElement_60 rfl ?_
    refine gz_get K (v := .int (gz_i τ56 43 18)) (by decide) (ce_43 _ _ _ _ _ _) rfl inz_X10 18 (by decide) zq5_49 rfl dX10_readsElement_61 ?_
    refine gz_iconst K (v := (1 : Int32)) dX10_readsElement_64 (by decide) ?_
    refine gz_iadd K dX10_readsElement_65 ?_
    refine gz_put K (x := ((gz_i τ56 43 18) + (1 : Int32))) (by decide) (ce_43 _ _ _ _ _ _) rfl inz_X10 tyX10 tyX10_ok nmX10 18 (by decide) zq5_49 rfl (tyX10_ok _ (by decide)) rfl rfl (Nat.le_of_ble_eq_true rfl) peX10_18 dX10_readsElement_66 ?_
    refine gz_iconst K (v := (1 : Int32)) dX10_readsElement_69 (by decide) ?_
    exact gz_zret K hr (by decide) hp dX10_readsElement_70 (Nat.le_of_ble_eq_true rfl) (Nat.le_of_ble_eq_true rfl)
  have bb_41 : ∀ (σ : Dz) (y1 : Int32) , B_X10_readsElement_41 (X10W 7) post  σ y1 → Gz p l e r_X10_readsElement_7 s m args below meth c D ad ty 5 0 0 (Ez below D ad ty nI0 post (fun _ _ => False) args s 0 0) σ 41 [(0, .ref (ad 43)), (1, .int y1)] [.ref (ad 43)] := by
    intro σ y1 hp
    unfold B_X10_readsElement_41 at hp
    refine gz_iconst K (v := (1 : Int32)) dX10_readsElement_41 (by decide) ?_
    refine gz_goto K 46 dX10_readsElement_42 (by decide) ?_
    exact bb_46 σ y1 (1 : Int32)  hp
  show Gz p l e r_X10_readsElement_7 s m args below meth c D ad ty 5 0 0 (Ez below D ad ty nI0 post (fun _ _ => False) args s 0 0) σ 0 [(0, .ref (ad 43))] []
  refine gz_aload_n K dX10_readsElement_0 0 rfl ?_
  refine gz_callV K hex (c_X10_here K.2.2.2.2.2 K.2.2.1 hp) cf_X10_here zq5_173 (by decide) (ce_43 _ _ _ _ _ _) rfl dX10_readsElement_1 rfl rfl (Nat.le_of_ble_eq_true rfl) ⟨Nat.le_of_ble_eq_true rfl, Nat.le_of_ble_eq_true rfl⟩ ⟨Nat.le_of_ble_eq_true rfl, Nat.le_of_ble_eq_true rfl⟩ (Nat.le_of_ble_eq_true rfl) (Nat.le_of_ble_eq_true rfl) (fun _ _ h => h.elim) (fun r1 τ hp => ?_)
  obtain ⟨rfl, hp⟩ := hp
  refine gz_norm (st' := [.int r1]) (cells' := 0) (slots' := 0) rfl rfl rfl ?_
  refine gz_istore_n K [(1, .int r1), (0, .ref (ad 43))] dX10_readsElement_4 (by decide) rfl ?_
  refine gz_aload_n K dX10_readsElement_5 1 rfl ?_
  refine gz_get K (v := .int (gz_i σ 43 22)) (by decide) (ce_43 _ _ _ _ _ _) rfl inz_X10 22 (by decide) zq5_53 rfl dX10_readsElement_6 ?_
  refine gz_istore_n K [(2, .int (gz_i σ 43 22)), (1, .int r1), (0, .ref (ad 43))] dX10_readsElement_9 (by decide) rfl ?_
  refine gz_iload_n K dX10_readsElement_10 1 rfl ?_
  refine gz_bipush K (v := (97 : Int32)) dX10_readsElement_11 (by decide) ?_
  refine gz_bipush K (v := (101 : Int32)) dX10_readsElement_13 (by decide) ?_
  refine gz_callS K hex (c_X10_in K.2.2.2.2.2 K.2.2.1 hp) cf_X10_in zq5_146 dX10_readsElement_15 rfl rfl (Nat.le_of_ble_eq_true rfl) ⟨Nat.le_of_ble_eq_true rfl, Nat.le_of_ble_eq_true rfl⟩ ⟨Nat.le_of_ble_eq_true rfl, Nat.le_of_ble_eq_true rfl⟩ (Nat.le_of_ble_eq_true rfl) (Nat.le_of_ble_eq_true rfl) (fun _ _ h => h.elim) (fun r15 τ hp => ?_)
  obtain ⟨rfl, hp⟩ := hp
  refine gz_norm (st' := [.int r15]) (cells' := 0) (slots' := 0) rfl rfl rfl ?_
  refine gz_if_eq K 71 dX10_readsElement_18 (by decide) (fun h => ?_) (fun h => ?_)
  · have hp := hp.1 h
    refine gz_iload_n K dX10_readsElement_71 1 rfl ?_
    refine gz_bipush K (v := (40 : Int32)) dX10_readsElement_72 (by decide) ?_
    refine gz_icmp_eq K 83 dX10_readsElement_74 (by decide) (fun h => ?_) (fun h => ?_)
    · have hp := hp.1 h
      refine gz_sub [2, 1, 0] rfl ?_
      exact bb_83 σ r1 (gz_i σ 43 22)  hp
    · have hp := hp.2 h
      refine gz_iload_n K dX10_readsElement_77 1 rfl ?_
      refine gz_bipush K (v := (60 : Int32)) dX10_readsElement_78 (by decide) ?_
      refine gz_icmp_ne K 92 dX10_readsElement_80 (by decide) (fun h => ?_) (fun h => ?_)
      · have hp := hp.1 h
        refine gz_iconst K (v := (0 : Int32)) dX10_readsElement_92 (by decide) ?_
        exact gz_zret K hr (by decide) hp dX10_readsElement_93 (Nat.le_of_ble_eq_true rfl) (Nat.le_of_ble_eq_true rfl)
      · have hp := hp.2 h
        refine gz_sub [2, 1, 0] rfl ?_
        exact bb_83 σ r1 (gz_i σ 43 22)  hp
  · have hp := hp.2 h
    refine gz_aload_n K dX10_readsElement_21 2 rfl ?_
    refine gz_aload_n K dX10_readsElement_22 2 rfl ?_
    refine gz_get K (v := .int (gz_i σ 43 24)) (by decide) (ce_43 _ _ _ _ _ _) rfl inz_X10 24 (by decide) zq5_55 rfl dX10_readsElement_23 ?_
    refine gz_if_ne K 41 dX10_readsElement_26 (by decide) (fun h => ?_) (fun h => ?_)
    · have hp := hp.1 h
      refine gz_sub [2, 1] rfl ?_
      exact bb_41 σ r1  hp
    · have hp := hp.2 h
      refine gz_aload_n K dX10_readsElement_29 2 rfl ?_
      refine gz_get K (v := .ref (ad 45)) (by decide) (ce_43 _ _ _ _ _ _) rfl inz_X10 3 (by decide) zq5_34 rfl dX10_readsElement_30 ?_
      refine gz_iload_n K dX10_readsElement_33 1 rfl ?_
      refine gz_bipush K (v := (97 : Int32)) dX10_readsElement_34 (by decide) ?_
      refine gz_isub K dX10_readsElement_36 ?_
      obtain ⟨h, hp⟩ := hp
      refine gz_zald K (by decide) (ce_45 _ _ _ _ _ _) h dX10_readsElement_37 ?_
      refine gz_if_ne K 45 dX10_readsElement_38 (by decide) (fun h => ?_) (fun h => ?_)
      · have hp := hp.1 h
        refine gz_iconst K (v := (0 : Int32)) dX10_readsElement_45 (by decide) ?_
        refine gz_sub [2, 1] rfl ?_
        exact bb_46 σ r1 (0 : Int32)  hp
      · have hp := hp.2 h
        refine gz_sub [2, 1] rfl ?_
        exact bb_41 σ r1  hp
set_option maxRecDepth 100000 in
set_option maxHeartbeats 4000000 in
theorem c_X10_store {l : Launch} {D : va_G} {ad : Nat → Nat} {ty : Nat → ClassId} (hl : l.stackTraces = false) (hj : ∀ i j, i < 68 → j < 68 → ad i = ad j → i = j) {σ : Dz} {x1 : Int32} {post : Int32 → Dz → Prop} (hp : P_X10_store σ x1 post) : Mz l D ad ty yX10_store cX10_store 3 (some .int) r_X10_store nI0 σ [.ref (ad 43), .int x1] post (fun _ _ => False) := by
  refine mz_of (by decide) hl hj (Nat.le_of_ble_eq_true rfl) ?_
  intro p e s m args below meth c K hex hr
  unfold P_X10_store at hp
  have bb_45 : ∀ (σ : Dz) (y1 : Int32) (z0 : Int32) , B_X10_store_45 post  σ y1 z0 → Gz p l e r_X10_store s m args below meth c D ad ty 3 0 0 (Ez below D ad ty nI0 post (fun _ _ => False) args s 0 0) σ 45 [(0, .ref (ad 43)), (1, .int y1)] [.int z0] := by
    intro σ y1 z0 hp
    unfold B_X10_store_45 at hp
    refine gz_istore_n K [(2, .int z0), (0, .ref (ad 43)), (1, .int y1)] dX10_store_45 (by decide) rfl ?_
    refine gz_aload_n K dX10_store_46 1 rfl ?_
    refine gz_iconst K (v := (0 : Int32)) dX10_store_47 (by decide) ?_
    refine gz_put K (x := (0 : Int32)) (by decide) (ce_43 _ _ _ _ _ _) rfl inz_X10 tyX10 tyX10_ok nmX10 8 (by decide) zq5_39 rfl (tyX10_ok _ (by decide)) rfl rfl (Nat.le_of_ble_eq_true rfl) peX10_8 dX10_store_48 ?_
    refine gz_iload_n K dX10_store_51 0 rfl ?_
    refine gz_if_ne K 69 dX10_store_52 (by decide) (fun h => ?_) (fun h => ?_)
    · have hp := hp.1 h
      refine gz_aload_n K dX10_store_69 1 rfl ?_
      refine gz_get K (v := .int (gz_i (sz_i σ 43 8 (0 : Int32)) 43 24)) (by decide) (ce_43 _ _ _ _ _ _) rfl inz_X10 24 (by decide) zq5_55 rfl dX10_store_70 ?_
      refine gz_if_eq K 84 dX10_store_73 (by decide) (fun h => ?_) (fun h => ?_)
      · have hp := hp.1 h
        refine gz_aload_n K dX10_store_84 1 rfl ?_
        refine gz_get K (v := .int (gz_i (sz_i σ 43 8 (0 : Int32)) 43 23)) (by decide) (ce_43 _ _ _ _ _ _) rfl inz_X10 23 (by decide) zq5_54 rfl dX10_store_85 ?_
        refine gz_if_eq K 99 dX10_store_88 (by decide) (fun h => ?_) (fun h => ?_)
        · have hp := hp.1 h
          refine gz_aload_n K dX10_store_99 1 rfl ?_
          refine gz_iload_n K dX10_store_100 2 rfl ?_
          refine gz_callV K hex (c_X10_keeps K.2.2.2.2.2 K.2.2.1 hp) cf_X10_keeps zq5_218 (by decide) (ce_43 _ _ _ _ _ _) rfl dX10_store_101 rfl rfl (Nat.le_of_ble_eq_true rfl) ⟨Nat.le_of_ble_eq_true rfl, Nat.le_of_ble_eq_true rfl⟩ ⟨Nat.le_of_ble_eq_true rfl, Nat.le_of_ble_eq_true rfl⟩ (Nat.le_of_ble_eq_true rfl) (Nat.le_of_ble_eq_true rfl) (fun _ _ h => h.elim) (fun r101 τ101 hp => ?_)
          refine gz_norm (st' := [.int r101]) (cells' := 0) (slots' := 0) rfl rfl rfl ?_
          exact gz_iret K hr hp dX10_store_104 (Nat.le_of_ble_eq_true rfl) (Nat.le_of_ble_eq_true rfl)
        · have hp := hp.2 h
          refine gz_aload_n K dX10_store_91 1 rfl ?_
          refine gz_iconst K (v := (4 : Int32)) dX10_store_92 (by decide) ?_
          refine gz_callV K hex (c_X10_fails K.2.2.2.2.2 K.2.2.1 hp) cf_X10_fails zq5_149 (by decide) (ce_43 _ _ _ _ _ _) rfl dX10_store_93 rfl rfl (Nat.le_of_ble_eq_true rfl) ⟨Nat.le_of_ble_eq_true rfl, Nat.le_of_ble_eq_true rfl⟩ ⟨Nat.le_of_ble_eq_true rfl, Nat.le_of_ble_eq_true rfl⟩ (Nat.le_of_ble_eq_true rfl) (Nat.le_of_ble_eq_true rfl) (fun _ _ h => h.elim) (fun r93 τ93 hp => ?_)
          refine gz_norm (st' := [.int r93]) (cells' := 0) (slots' := 0) rfl rfl rfl ?_
          refine gz_goto K 104 dX10_store_96 (by decide) ?_
          exact gz_iret K hr hp dX10_store_104 (Nat.le_of_ble_eq_true rfl) (Nat.le_of_ble_eq_true rfl)
      · have hp := hp.2 h
        refine gz_aload_n K dX10_store_76 1 rfl ?_
        refine gz_iconst K (v := (3 : Int32)) dX10_store_77 (by decide) ?_
        refine gz_callV K hex (c_X10_fails K.2.2.2.2.2 K.2.2.1 hp) cf_X10_fails zq5_149 (by decide) (ce_43 _ _ _ _ _ _) rfl dX10_store_78 rfl rfl (Nat.le_of_ble_eq_true rfl) ⟨Nat.le_of_ble_eq_true rfl, Nat.le_of_ble_eq_true rfl⟩ ⟨Nat.le_of_ble_eq_true rfl, Nat.le_of_ble_eq_true rfl⟩ (Nat.le_of_ble_eq_true rfl) (Nat.le_of_ble_eq_true rfl) (fun _ _ h => h.elim) (fun r78 τ78 hp => ?_)
        refine gz_norm (st' := [.int r78]) (cells' := 0) (slots' := 0) rfl rfl rfl ?_
        refine gz_goto K 104 dX10_store_81 (by decide) ?_
        exact gz_iret K hr hp dX10_store_104 (Nat.le_of_ble_eq_true rfl) (Nat.le_of_ble_eq_true rfl)
    · have hp := hp.2 h
      refine gz_aload_n K dX10_store_55 1 rfl ?_
      refine gz_aload_n K dX10_store_56 1 rfl ?_
      refine gz_get K (v := .int (gz_i (sz_i σ 43 8 (0 : Int32)) 43 18)) (by decide) (ce_43 _ _ _ _ _ _) rfl inz_X10 18 (by decide) zq5_49 rfl dX10_store_57 ?_
      refine gz_put K (x := (gz_i (sz_i σ 43 8 (0 : Int32)) 43 18)) (by decide) (ce_43 _ _ _ _ _ _) rfl inz_X10 tyX10 tyX10_ok nmX10 9 (by decide) zq5_40 rfl (tyX10_ok _ (by decide)) rfl rfl (Nat.le_of_ble_eq_true rfl) peX10_9 dX10_store_60 ?_
      refine gz_aload_n K dX10_store_63 1 rfl ?_
      refine gz_iconst K (v := (2 : Int32)) dX10_store_64 (by decide) ?_
      refine gz_callV K hex (c_X10_fails K.2.2.2.2.2 K.2.2.1 hp) cf_X10_fails zq5_149 (by decide) (ce_43 _ _ _ _ _ _) rfl dX10_store_65 rfl rfl (Nat.le_of_ble_eq_true rfl) ⟨Nat.le_of_ble_eq_true rfl, Nat.le_of_ble_eq_true rfl⟩ ⟨Nat.le_of_ble_eq_true rfl, Nat.le_of_ble_eq_true rfl⟩ (Nat.le_of_ble_eq_true rfl) (Nat.le_of_ble_eq_true rfl) (fun _ _ h => h.elim) (fun r65 τ65 hp => ?_)
      refine gz_norm (st' := [.int r65]) (cells' := 0) (slots' := 0) rfl rfl rfl ?_
      exact gz_iret K hr hp dX10_store_68 (Nat.le_of_ble_eq_true rfl) (Nat.le_of_ble_eq_true rfl)
  have bb_44 : ∀ (σ : Dz) (y1 : Int32) , B_X10_store_44 post  σ y1 → Gz p l e r_X10_store s m args below meth c D ad ty 3 0 0 (Ez below D ad ty nI0 post (fun _ _ => False) args s 0 0) σ 44 [(0, .ref (ad 43)), (1, .int y1)] [] := by
    intro σ y1 hp
    unfold B_X10_store_44 at hp
    refine gz_iconst K (v := (0 : Int32)) dX10_store_44 (by decide) ?_
    exact bb_45 σ y1 (0 : Int32)  hp
  show Gz p l e r_X10_store s m args below meth c D ad ty 3 0 0 (Ez below D ad ty nI0 post (fun _ _ => False) args s 0 0) σ 0 [(0, .ref (ad 43)), (1, .int x1)] []
  refine gz_iload_n K dX10_store_0 1 rfl ?_
  refine gz_callS K hex (c_X10_isSlot K.2.2.2.2.2 K.2.2.1 hp) cf_X10_isSlot zq5_189 dX10_store_1 rfl rfl (Nat.le_of_ble_eq_true rfl) ⟨Nat.le_of_ble_eq_true rfl, Nat.le_of_ble_eq_true rfl⟩ ⟨Nat.le_of_ble_eq_true rfl, Nat.le_of_ble_eq_true rfl⟩ (Nat.le_of_ble_eq_true rfl) (Nat.le_of_ble_eq_true rfl) (fun _ _ h => h.elim) (fun r1 τ hp => ?_)
  obtain ⟨rfl, hp⟩ := hp
  refine gz_norm (st' := [.int r1]) (cells' := 0) (slots' := 0) rfl rfl rfl ?_
  refine gz_if_ne K 13 dX10_store_4 (by decide) (fun h => ?_) (fun h => ?_)
  · have hp := hp.1 h
    refine gz_aload_n K dX10_store_13 0 rfl ?_
    refine gz_callV K hex (c_X10_clears K.2.2.2.2.2 K.2.2.1 hp) cf_X10_clears zq5_192 (by decide) (ce_43 _ _ _ _ _ _) rfl dX10_store_14 rfl rfl (Nat.le_of_ble_eq_true rfl) ⟨Nat.le_of_ble_eq_true rfl, Nat.le_of_ble_eq_true rfl⟩ ⟨Nat.le_of_ble_eq_true rfl, Nat.le_of_ble_eq_true rfl⟩ (Nat.le_of_ble_eq_true rfl) (Nat.le_of_ble_eq_true rfl) (fun _ _ h => h.elim) (fun _ τ14 hp => ?_)
    refine gz_norm (st' := []) (cells' := 0) (slots' := 0) rfl rfl rfl ?_
    refine gz_aload_n K dX10_store_17 0 rfl ?_
    refine gz_iconst K (v := (0 : Int32)) dX10_store_18 (by decide) ?_
    refine gz_put K (x := (0 : Int32)) (by decide) (ce_43 _ _ _ _ _ _) rfl inz_X10 tyX10 tyX10_ok nmX10 18 (by decide) zq5_49 rfl (tyX10_ok _ (by decide)) rfl rfl (Nat.le_of_ble_eq_true rfl) peX10_18 dX10_store_19 ?_
    refine gz_aload_n K dX10_store_22 0 rfl ?_
    refine gz_callS K hex (c_X10_readsWord_7 K.2.2.2.2.2 K.2.2.1 hp) cf_X10_readsWord zq5_196 dX10_store_23 rfl rfl (Nat.le_of_ble_eq_true rfl) ⟨Nat.le_of_ble_eq_true rfl, Nat.le_of_ble_eq_true rfl⟩ ⟨Nat.le_of_ble_eq_true rfl, Nat.le_of_ble_eq_true rfl⟩ (Nat.le_of_ble_eq_true rfl) (Nat.le_of_ble_eq_true rfl) (fun _ _ h => h.elim) (fun r23 τ23 hp => ?_)
    refine gz_norm (st' := [.int r23]) (cells' := 0) (slots' := 0) rfl rfl rfl ?_
    refine gz_if_eq K 44 dX10_store_26 (by decide) (fun h => ?_) (fun h => ?_)
    · have hp := hp.1 h
      exact bb_44 τ23 x1  hp
    · have hp := hp.2 h
      refine gz_aload_n K dX10_store_29 0 rfl ?_
      refine gz_get K (v := .int (gz_i τ23 43 18)) (by decide) (ce_43 _ _ _ _ _ _) rfl inz_X10 18 (by decide) zq5_49 rfl dX10_store_30 ?_
      refine gz_aload_n K dX10_store_33 0 rfl ?_
      refine gz_get K (v := .int (gz_i τ23 43 8)) (by decide) (ce_43 _ _ _ _ _ _) rfl inz_X10 8 (by decide) zq5_39 rfl dX10_store_34 ?_
      refine gz_icmp_ne K 44 dX10_store_37 (by decide) (fun h => ?_) (fun h => ?_)
      · have hp := hp.1 h
        exact bb_44 τ23 x1  hp
      · have hp := hp.2 h
        refine gz_iconst K (v := (1 : Int32)) dX10_store_40 (by decide) ?_
        refine gz_goto K 45 dX10_store_41 (by decide) ?_
        exact bb_45 τ23 x1 (1 : Int32)  hp
  · have hp := hp.2 h
    refine gz_aload_n K dX10_store_7 0 rfl ?_
    refine gz_iconst K (v := (1 : Int32)) dX10_store_8 (by decide) ?_
    refine gz_callV K hex (c_X10_fails K.2.2.2.2.2 K.2.2.1 hp) cf_X10_fails zq5_149 (by decide) (ce_43 _ _ _ _ _ _) rfl dX10_store_9 rfl rfl (Nat.le_of_ble_eq_true rfl) ⟨Nat.le_of_ble_eq_true rfl, Nat.le_of_ble_eq_true rfl⟩ ⟨Nat.le_of_ble_eq_true rfl, Nat.le_of_ble_eq_true rfl⟩ (Nat.le_of_ble_eq_true rfl) (Nat.le_of_ble_eq_true rfl) (fun _ _ h => h.elim) (fun r9 τ9 hp => ?_)
    refine gz_norm (st' := [.int r9]) (cells' := 0) (slots' := 0) rfl rfl rfl ?_
    exact gz_iret K hr hp dX10_store_12 (Nat.le_of_ble_eq_true rfl) (Nat.le_of_ble_eq_true rfl)
