/-! walks. Written by wip/whole/genall.py -/
set_option maxRecDepth 100000 in
set_option maxHeartbeats 4000000 in
theorem c_X9_reset {l : Launch} {D : va_G} {ad : Nat → Nat} {ty : Nat → ClassId} (hl : l.stackTraces = false) (hj : ∀ i j, i < 68 → j < 68 → ad i = ad j → i = j) {σ : Dz} {x1 : Int32} {post : Int32 → Dz → Prop} {px : String → Dz → Prop} (hp : P_X9_reset σ x1 post px) : Mz l D ad ty yX9_reset cX9_reset 3 (some .int) r_X9_reset nI0 σ [.ref (ad 0), .int x1] post px := by
  refine mz_of (by decide) hl hj (Nat.le_of_ble_eq_true rfl) ?_
  intro p e s m args below meth c K hex hr
  unfold P_X9_reset at hp
  show Gz p l e r_X9_reset s m args below meth c D ad ty 3 0 0 (Ez below D ad ty nI0 post px args s 1 6) σ 0 [(0, .ref (ad 0)), (1, .int x1)] []
  refine gz_iload_n K dX9_reset_0 1 rfl ?_
  refine gz_iconst K (v := (2 : Int32)) dX9_reset_1 (by decide) ?_
  refine gz_icmp_lt K 11 dX9_reset_2 (by decide) (fun h => ?_) (fun h => ?_)
  · have hp := hp.1 h
    obtain ⟨sa, hsa⟩ := K.2.2.2.2.1.2.2.1 _ (List.mem_of_getElem? (l := zStr) (i := 0) rfl)
    exact gz_throw K hex false rfl xd_IllegalArgumentException_0 xd_IllegalArgumentException_1 xd_IllegalArgumentException_2 xd_IllegalArgumentException_5 (by decide) zq2_131 zq1_14 hsa xl_94 dX9_reset_11 dX9_reset_14 dX9_reset_15 dX9_reset_17 dX9_reset_20 (Nat.le_of_ble_eq_true rfl) (Nat.le_of_ble_eq_true rfl) (Nat.le_of_ble_eq_true rfl) (Nat.le_of_ble_eq_true rfl) hp (Nat.le_of_ble_eq_true rfl) (Nat.le_of_ble_eq_true rfl)
  · have hp := hp.2 h
    refine gz_iload_n K dX9_reset_5 1 rfl ?_
    refine gz_bipush K (v := (7 : Int32)) dX9_reset_6 (by decide) ?_
    refine gz_icmp_le K 21 dX9_reset_8 (by decide) (fun h => ?_) (fun h => ?_)
    · have hp := hp.1 h
      refine gz_aload_n K dX9_reset_21 0 rfl ?_
      refine gz_get K (v := .int (gz_i σ 0 11)) (by decide) (ce_0 _ _ _ _ _ _) rfl inz_X9 11 (by decide) zq1_213 rfl dX9_reset_22 ?_
      refine gz_istore_n K [(2, .int (gz_i σ 0 11)), (0, .ref (ad 0)), (1, .int x1)] dX9_reset_25 (by decide) rfl ?_
      refine gz_aload_n K dX9_reset_26 1 rfl ?_
      refine gz_iload_n K dX9_reset_27 2 rfl ?_
      refine gz_put K (x := x1) (by decide) (ce_0 _ _ _ _ _ _) rfl inz_X9 tyX9 tyX9_ok nmX9 11 (by decide) zq1_213 rfl (tyX9_ok _ (by decide)) rfl rfl (Nat.le_of_ble_eq_true rfl) peX9_11 dX9_reset_28 ?_
      refine gz_aload_n K dX9_reset_31 1 rfl ?_
      refine gz_get K (v := .ref (ad 17)) (by decide) (ce_0 _ _ _ _ _ _) rfl inz_X9 6 (by decide) zq1_208 rfl dX9_reset_32 ?_
      refine gz_callV K hex (c_X4_clear K.2.2.2.2.2 K.2.2.1 (by unfold isS; decide) hp) cf_X4_clear zq2_202 (by decide) (ce_17 _ _ _ _ _ _) rfl dX9_reset_35 rfl rfl (Nat.le_of_ble_eq_true rfl) ⟨Nat.le_of_ble_eq_true rfl, Nat.le_of_ble_eq_true rfl⟩ ⟨Nat.le_of_ble_eq_true rfl, Nat.le_of_ble_eq_true rfl⟩ (Nat.le_of_ble_eq_true rfl) (Nat.le_of_ble_eq_true rfl) (fun _ _ h => h.elim) (fun _ τ35 hp => ?_)
      refine gz_norm (st' := []) (cells' := 0) (slots' := 0) rfl rfl rfl ?_
      refine gz_aload_n K dX9_reset_38 1 rfl ?_
      refine gz_iconst K (v := (0 : Int32)) dX9_reset_39 (by decide) ?_
      refine gz_put K (x := (0 : Int32)) (by decide) (ce_0 _ _ _ _ _ _) rfl inz_X9 tyX9 tyX9_ok nmX9 13 (by decide) zq1_215 rfl (tyX9_ok _ (by decide)) rfl rfl (Nat.le_of_ble_eq_true rfl) peX9_13 dX9_reset_40 ?_
      refine gz_aload_n K dX9_reset_43 1 rfl ?_
      refine gz_iconst K (v := (0 : Int32)) dX9_reset_44 (by decide) ?_
      refine gz_put K (x := (0 : Int32)) (by decide) (ce_0 _ _ _ _ _ _) rfl inz_X9 tyX9 tyX9_ok nmX9 14 (by decide) zq1_216 rfl (tyX9_ok _ (by decide)) rfl rfl (Nat.le_of_ble_eq_true rfl) peX9_14 dX9_reset_45 ?_
      refine gz_iload_n K dX9_reset_48 0 rfl ?_
      exact gz_iret K hr hp dX9_reset_49 (Nat.le_of_ble_eq_true rfl) (Nat.le_of_ble_eq_true rfl)
    · have hp := hp.2 h
      obtain ⟨sa, hsa⟩ := K.2.2.2.2.1.2.2.1 _ (List.mem_of_getElem? (l := zStr) (i := 0) rfl)
      exact gz_throw K hex false rfl xd_IllegalArgumentException_0 xd_IllegalArgumentException_1 xd_IllegalArgumentException_2 xd_IllegalArgumentException_5 (by decide) zq2_131 zq1_14 hsa xl_94 dX9_reset_11 dX9_reset_14 dX9_reset_15 dX9_reset_17 dX9_reset_20 (Nat.le_of_ble_eq_true rfl) (Nat.le_of_ble_eq_true rfl) (Nat.le_of_ble_eq_true rfl) (Nat.le_of_ble_eq_true rfl) hp (Nat.le_of_ble_eq_true rfl) (Nat.le_of_ble_eq_true rfl)
set_option maxRecDepth 100000 in
set_option maxHeartbeats 4000000 in
theorem c_X9_positions {l : Launch} {D : va_G} {ad : Nat → Nat} {ty : Nat → ClassId} (hl : l.stackTraces = false) (hj : ∀ i j, i < 68 → j < 68 → ad i = ad j → i = j) {σ : Dz} {post : Int32 → Prop} (hp : P_X9_positions σ post) : Mz l D ad ty yX9_positions cX9_positions 1 (some .int) r_X9_positions nI0 σ [.ref (ad 0)] (fun r τ => σ = τ ∧ post r) (fun _ _ => False) := by
  refine mz_of (by decide) hl hj (Nat.le_of_ble_eq_true rfl) ?_
  intro p e s m args below meth c K hex hr
  unfold P_X9_positions at hp
  show Gz p l e r_X9_positions s m args below meth c D ad ty 1 0 0 (Ez below D ad ty nI0 (fun r τ => σ = τ ∧ post r) (fun _ _ => False) args s 0 0) σ 0 [(0, .ref (ad 0))] []
  refine gz_aload_n K dX9_positions_0 0 rfl ?_
  refine gz_get K (v := .int (gz_i σ 0 11)) (by decide) (ce_0 _ _ _ _ _ _) rfl inz_X9 11 (by decide) zq1_213 rfl dX9_positions_1 ?_
  exact gz_iret K hr ⟨rfl, hp⟩ dX9_positions_4 (Nat.le_of_ble_eq_true rfl) (Nat.le_of_ble_eq_true rfl)
set_option maxRecDepth 100000 in
set_option maxHeartbeats 4000000 in
theorem c_X9_append {l : Launch} {D : va_G} {ad : Nat → Nat} {ty : Nat → ClassId} (hl : l.stackTraces = false) (hj : ∀ i j, i < 68 → j < 68 → ad i = ad j → i = j) {σ : Dz} {x1 : Int32} {post : Int32 → Dz → Prop} {px : String → Dz → Prop} (hp : P_X9_append σ x1 post px) : Mz l D ad ty yX9_append cX9_append 2 (some .int) r_X9_append nI0 σ [.ref (ad 0), .int x1] post px := by
  refine mz_of (by decide) hl hj (Nat.le_of_ble_eq_true rfl) ?_
  intro p e s m args below meth c K hex hr
  unfold P_X9_append at hp
  show Gz p l e r_X9_append s m args below meth c D ad ty 2 0 0 (Ez below D ad ty nI0 post px args s 1 6) σ 0 [(0, .ref (ad 0)), (1, .int x1)] []
  refine gz_iload_n K dX9_append_0 1 rfl ?_
  refine gz_bipush K (v := (32 : Int32)) dX9_append_1 (by decide) ?_
  refine gz_icmp_lt K 12 dX9_append_3 (by decide) (fun h => ?_) (fun h => ?_)
  · have hp := hp.1 h
    obtain ⟨sa, hsa⟩ := K.2.2.2.2.1.2.2.1 _ (List.mem_of_getElem? (l := zStr) (i := 1) rfl)
    exact gz_throw K hex false rfl xd_IllegalArgumentException_0 xd_IllegalArgumentException_1 xd_IllegalArgumentException_2 xd_IllegalArgumentException_5 (by decide) zq2_131 zq1_14 hsa xl_94 dX9_append_12 dX9_append_15 dX9_append_16 dX9_append_18 dX9_append_21 (Nat.le_of_ble_eq_true rfl) (Nat.le_of_ble_eq_true rfl) (Nat.le_of_ble_eq_true rfl) (Nat.le_of_ble_eq_true rfl) hp (Nat.le_of_ble_eq_true rfl) (Nat.le_of_ble_eq_true rfl)
  · have hp := hp.2 h
    refine gz_iload_n K dX9_append_6 1 rfl ?_
    refine gz_bipush K (v := (126 : Int32)) dX9_append_7 (by decide) ?_
    refine gz_icmp_le K 22 dX9_append_9 (by decide) (fun h => ?_) (fun h => ?_)
    · have hp := hp.1 h
      refine gz_aload_n K dX9_append_22 0 rfl ?_
      refine gz_get K (v := .ref (ad 1)) (by decide) (ce_0 _ _ _ _ _ _) rfl inz_X9 0 (by decide) zq1_202 rfl dX9_append_23 ?_
      refine gz_iload_n K dX9_append_26 1 rfl ?_
      refine gz_callV K hex (c_X5_add K.2.2.2.2.2 K.2.2.1 hp) cf_X5_add zq2_212 (by decide) (ce_1 _ _ _ _ _ _) rfl dX9_append_27 rfl rfl (Nat.le_of_ble_eq_true rfl) ⟨Nat.le_of_ble_eq_true rfl, Nat.le_of_ble_eq_true rfl⟩ ⟨Nat.le_of_ble_eq_true rfl, Nat.le_of_ble_eq_true rfl⟩ (Nat.le_of_ble_eq_true rfl) (Nat.le_of_ble_eq_true rfl) (fun _ _ h => h.elim) (fun r27 τ27 hp => ?_)
      refine gz_norm (st' := [.int r27]) (cells' := 0) (slots' := 0) rfl rfl rfl ?_
      refine gz_if_ne K 43 dX9_append_30 (by decide) (fun h => ?_) (fun h => ?_)
      · have hp := hp.1 h
        refine gz_aload_n K dX9_append_43 0 rfl ?_
        refine gz_get K (v := .ref (ad 1)) (by decide) (ce_0 _ _ _ _ _ _) rfl inz_X9 0 (by decide) zq1_202 rfl dX9_append_44 ?_
        refine gz_callV K hex (c_X5_length K.2.2.2.2.2 K.2.2.1 hp) cf_X5_length zq2_232 (by decide) (ce_1 _ _ _ _ _ _) rfl dX9_append_47 rfl rfl (Nat.le_of_ble_eq_true rfl) ⟨Nat.le_of_ble_eq_true rfl, Nat.le_of_ble_eq_true rfl⟩ ⟨Nat.le_of_ble_eq_true rfl, Nat.le_of_ble_eq_true rfl⟩ (Nat.le_of_ble_eq_true rfl) (Nat.le_of_ble_eq_true rfl) (fun _ _ h => h.elim) (fun r47 τ hp => ?_)
        obtain ⟨rfl, hp⟩ := hp
        refine gz_norm (st' := [.int r47]) (cells' := 0) (slots' := 0) rfl rfl rfl ?_
        exact gz_iret K hr hp dX9_append_50 (Nat.le_of_ble_eq_true rfl) (Nat.le_of_ble_eq_true rfl)
      · have hp := hp.2 h
        obtain ⟨sa, hsa⟩ := K.2.2.2.2.1.2.2.1 _ (List.mem_of_getElem? (l := zStr) (i := 2) rfl)
        exact gz_throw K hex false rfl xd_IllegalStateException_0 xd_IllegalStateException_1 xd_IllegalStateException_2 xd_IllegalStateException_5 (by decide) zq2_216 zq1_15 hsa xl_110 dX9_append_33 dX9_append_36 dX9_append_37 dX9_append_39 dX9_append_42 (Nat.le_of_ble_eq_true rfl) (Nat.le_of_ble_eq_true rfl) (Nat.le_of_ble_eq_true rfl) (Nat.le_of_ble_eq_true rfl) hp (Nat.le_of_ble_eq_true rfl) (Nat.le_of_ble_eq_true rfl)
    · have hp := hp.2 h
      obtain ⟨sa, hsa⟩ := K.2.2.2.2.1.2.2.1 _ (List.mem_of_getElem? (l := zStr) (i := 1) rfl)
      exact gz_throw K hex false rfl xd_IllegalArgumentException_0 xd_IllegalArgumentException_1 xd_IllegalArgumentException_2 xd_IllegalArgumentException_5 (by decide) zq2_131 zq1_14 hsa xl_94 dX9_append_12 dX9_append_15 dX9_append_16 dX9_append_18 dX9_append_21 (Nat.le_of_ble_eq_true rfl) (Nat.le_of_ble_eq_true rfl) (Nat.le_of_ble_eq_true rfl) (Nat.le_of_ble_eq_true rfl) hp (Nat.le_of_ble_eq_true rfl) (Nat.le_of_ble_eq_true rfl)
set_option maxRecDepth 100000 in
set_option maxHeartbeats 4000000 in
theorem c_X9_checkMove {l : Launch} {D : va_G} {ad : Nat → Nat} {ty : Nat → ClassId} (hl : l.stackTraces = false) (hj : ∀ i j, i < 68 → j < 68 → ad i = ad j → i = j) {σ : Dz} {x0 : Int32} {post : Prop} {px : String → Prop} (hp : P_X9_checkMove x0 post px) : Mz l D ad ty yX9_checkMove cX9_checkMove 1 none r_X9_checkMove nV0 σ [.int x0] (fun _ τ => σ = τ ∧ post) (fun E τ => σ = τ ∧ px E) := by
  refine mz_of (by decide) hl hj (Nat.le_of_ble_eq_true rfl) ?_
  intro p e s m args below meth c K hex hr
  unfold P_X9_checkMove at hp
  show Gz p l e r_X9_checkMove s m args below meth c D ad ty 1 0 0 (Ez below D ad ty nV0 (fun _ τ => σ = τ ∧ post) (fun E τ => σ = τ ∧ px E) args s 1 6) σ 0 [(0, .int x0)] []
  refine gz_iload_n K dX9_checkMove_0 0 rfl ?_
  refine gz_if_lt K 9 dX9_checkMove_1 (by decide) (fun h => ?_) (fun h => ?_)
  · have hp := hp.1 h
    obtain ⟨sa, hsa⟩ := K.2.2.2.2.1.2.2.1 _ (List.mem_of_getElem? (l := zStr) (i := 3) rfl)
    exact gz_throw K hex true rfl xd_IndexOutOfBoundsException_0 xd_IndexOutOfBoundsException_1 xd_IndexOutOfBoundsException_2 xd_IndexOutOfBoundsException_5 (by decide) zq3_30 zq1_16 hsa xl_196 dX9_checkMove_9 dX9_checkMove_12 dX9_checkMove_13 dX9_checkMove_16 dX9_checkMove_19 (Nat.le_of_ble_eq_true rfl) (Nat.le_of_ble_eq_true rfl) (Nat.le_of_ble_eq_true rfl) (Nat.le_of_ble_eq_true rfl) ⟨rfl, hp⟩ (Nat.le_of_ble_eq_true rfl) (Nat.le_of_ble_eq_true rfl)
  · have hp := hp.2 h
    refine gz_iload_n K dX9_checkMove_4 0 rfl ?_
    refine gz_iconst K (v := (5 : Int32)) dX9_checkMove_5 (by decide) ?_
    refine gz_icmp_lt K 20 dX9_checkMove_6 (by decide) (fun h => ?_) (fun h => ?_)
    · have hp := hp.1 h
      exact gz_vret K hr ⟨rfl, hp⟩ dX9_checkMove_20 (Nat.le_of_ble_eq_true rfl) (Nat.le_of_ble_eq_true rfl)
    · have hp := hp.2 h
      obtain ⟨sa, hsa⟩ := K.2.2.2.2.1.2.2.1 _ (List.mem_of_getElem? (l := zStr) (i := 3) rfl)
      exact gz_throw K hex true rfl xd_IndexOutOfBoundsException_0 xd_IndexOutOfBoundsException_1 xd_IndexOutOfBoundsException_2 xd_IndexOutOfBoundsException_5 (by decide) zq3_30 zq1_16 hsa xl_196 dX9_checkMove_9 dX9_checkMove_12 dX9_checkMove_13 dX9_checkMove_16 dX9_checkMove_19 (Nat.le_of_ble_eq_true rfl) (Nat.le_of_ble_eq_true rfl) (Nat.le_of_ble_eq_true rfl) (Nat.le_of_ble_eq_true rfl) ⟨rfl, hp⟩ (Nat.le_of_ble_eq_true rfl) (Nat.le_of_ble_eq_true rfl)
set_option maxRecDepth 100000 in
set_option maxHeartbeats 4000000 in
theorem c_X9_define {l : Launch} {D : va_G} {ad : Nat → Nat} {ty : Nat → ClassId} (hl : l.stackTraces = false) (hj : ∀ i j, i < 68 → j < 68 → ad i = ad j → i = j) {σ : Dz} {x1 : Int32} {post : Int32 → Dz → Prop} {px : String → Dz → Prop} (hp : P_X9_define σ x1 post px) : Mz l D ad ty yX9_define cX9_define 4 (some .int) r_X9_define nI0 σ [.ref (ad 0), .int x1] post px := by
  refine mz_of (by decide) hl hj (Nat.le_of_ble_eq_true rfl) ?_
  intro p e s m args below meth c K hex hr
  unfold P_X9_define at hp
  show Gz p l e r_X9_define s m args below meth c D ad ty 4 0 0 (Ez below D ad ty nI0 post px args s 2 12) σ 0 [(0, .ref (ad 0)), (1, .int x1)] []
  refine gz_iload_n K dX9_define_0 1 rfl ?_
  refine gz_callS K hex (c_X9_checkMove K.2.2.2.2.2 K.2.2.1 hp) cf_X9_checkMove zq3_27 dX9_define_1 rfl rfl (Nat.le_of_ble_eq_true rfl) ⟨Nat.le_of_ble_eq_true rfl, Nat.le_of_ble_eq_true rfl⟩ ⟨Nat.le_of_ble_eq_true rfl, Nat.le_of_ble_eq_true rfl⟩ (Nat.le_of_ble_eq_true rfl) (Nat.le_of_ble_eq_true rfl) (fun _ _ h => h.1 ▸ h.2) (fun _ τ hp => ?_)
  obtain ⟨rfl, hp⟩ := hp
  refine gz_norm (st' := []) (cells' := 1) (slots' := 6) rfl rfl rfl ?_
  refine gz_aload_n K dX9_define_4 0 rfl ?_
  refine gz_get K (v := .ref (ad 3)) (by decide) (ce_0 _ _ _ _ _ _) rfl inz_X9 1 (by decide) zq1_203 rfl dX9_define_5 ?_
  refine gz_aload_n K dX9_define_8 0 rfl ?_
  refine gz_get K (v := .ref (ad 1)) (by decide) (ce_0 _ _ _ _ _ _) rfl inz_X9 0 (by decide) zq1_202 rfl dX9_define_9 ?_
  refine gz_aload_n K dX9_define_12 0 rfl ?_
  refine gz_get K (v := .int (gz_i σ 0 11)) (by decide) (ce_0 _ _ _ _ _ _) rfl inz_X9 11 (by decide) zq1_213 rfl dX9_define_13 ?_
  refine gz_callV K hex (c_X1_errorIn K.2.2.2.2.2 K.2.2.1 hp) cf_X1_errorIn zq3_43 (by decide) (ce_3 _ _ _ _ _ _) rfl dX9_define_16 rfl rfl (Nat.le_of_ble_eq_true rfl) ⟨Nat.le_of_ble_eq_true rfl, Nat.le_of_ble_eq_true rfl⟩ ⟨Nat.le_of_ble_eq_true rfl, Nat.le_of_ble_eq_true rfl⟩ (Nat.le_of_ble_eq_true rfl) (Nat.le_of_ble_eq_true rfl) (fun _ _ h => h.elim) (fun r16 τ16 hp => ?_)
  refine gz_norm (st' := [.int r16]) (cells' := 1) (slots' := 6) rfl rfl rfl ?_
  refine gz_istore_n K [(2, .int r16), (0, .ref (ad 0)), (1, .int x1)] dX9_define_19 (by decide) rfl ?_
  refine gz_aload_n K dX9_define_20 1 rfl ?_
  refine gz_get K (v := .ref (ad 1)) (by decide) (ce_0 _ _ _ _ _ _) rfl inz_X9 0 (by decide) zq1_202 rfl dX9_define_21 ?_
  refine gz_callV K hex (c_X5_clear K.2.2.2.2.2 K.2.2.1 hp) cf_X5_clear zq3_63 (by decide) (ce_1 _ _ _ _ _ _) rfl dX9_define_24 rfl rfl (Nat.le_of_ble_eq_true rfl) ⟨Nat.le_of_ble_eq_true rfl, Nat.le_of_ble_eq_true rfl⟩ ⟨Nat.le_of_ble_eq_true rfl, Nat.le_of_ble_eq_true rfl⟩ (Nat.le_of_ble_eq_true rfl) (Nat.le_of_ble_eq_true rfl) (fun _ _ h => h.elim) (fun _ τ24 hp => ?_)
  refine gz_norm (st' := []) (cells' := 1) (slots' := 6) rfl rfl rfl ?_
  refine gz_iload_n K dX9_define_27 0 rfl ?_
  refine gz_iconst K (v := (-1 : Int32)) dX9_define_28 (by decide) ?_
  refine gz_icmp_eq K 47 dX9_define_29 (by decide) (fun h => ?_) (fun h => ?_)
  · have hp := hp.1 h
    refine gz_aload_n K dX9_define_47 1 rfl ?_
    refine gz_get K (v := .ref (ad 3)) (by decide) (ce_0 _ _ _ _ _ _) rfl inz_X9 1 (by decide) zq1_203 rfl dX9_define_48 ?_
    refine gz_callV K hex (c_X1_effect K.2.2.2.2.2 K.2.2.1 hp) cf_X1_effect zq3_68 (by decide) (ce_3 _ _ _ _ _ _) rfl dX9_define_51 rfl rfl (Nat.le_of_ble_eq_true rfl) ⟨Nat.le_of_ble_eq_true rfl, Nat.le_of_ble_eq_true rfl⟩ ⟨Nat.le_of_ble_eq_true rfl, Nat.le_of_ble_eq_true rfl⟩ (Nat.le_of_ble_eq_true rfl) (Nat.le_of_ble_eq_true rfl) (fun _ _ h => h.elim) (fun r51 τ hp => ?_)
    obtain ⟨rfl, hp⟩ := hp
    refine gz_norm (st' := [.int r51]) (cells' := 1) (slots' := 6) rfl rfl rfl ?_
    refine gz_istore_n K [(3, .int r51), (2, .int r16), (0, .ref (ad 0)), (1, .int x1)] dX9_define_54 (by decide) rfl ?_
    refine gz_aload_n K dX9_define_55 2 rfl ?_
    refine gz_get K (v := .ref (ad 17)) (by decide) (ce_0 _ _ _ _ _ _) rfl inz_X9 6 (by decide) zq1_208 rfl dX9_define_56 ?_
    refine gz_iload_n K dX9_define_59 3 rfl ?_
    refine gz_iload_n K dX9_define_60 0 rfl ?_
    refine gz_callV K hex (c_X4_defineMove K.2.2.2.2.2 K.2.2.1 (by unfold isS; decide) hp) cf_X4_defineMove zq3_72 (by decide) (ce_17 _ _ _ _ _ _) rfl dX9_define_61 rfl rfl (Nat.le_of_ble_eq_true rfl) ⟨Nat.le_of_ble_eq_true rfl, Nat.le_of_ble_eq_true rfl⟩ ⟨Nat.le_of_ble_eq_true rfl, Nat.le_of_ble_eq_true rfl⟩ (Nat.le_of_ble_eq_true rfl) (Nat.le_of_ble_eq_true rfl) (fun _ _ h => h.elim) (fun _ τ61 hp => ?_)
    refine gz_norm (st' := []) (cells' := 1) (slots' := 6) rfl rfl rfl ?_
    refine gz_aload_n K dX9_define_64 2 rfl ?_
    refine gz_iconst K (v := (0 : Int32)) dX9_define_65 (by decide) ?_
    refine gz_put K (x := (0 : Int32)) (by decide) (ce_0 _ _ _ _ _ _) rfl inz_X9 tyX9 tyX9_ok nmX9 14 (by decide) zq1_216 rfl (tyX9_ok _ (by decide)) rfl rfl (Nat.le_of_ble_eq_true rfl) peX9_14 dX9_define_66 ?_
    refine gz_iload_n K dX9_define_69 0 rfl ?_
    refine gz_ldc K zq3_79 dX9_define_70 ?_
    refine gz_callS K hex (c_X3_differences K.2.2.2.2.2 K.2.2.1 hp) cf_X3_differences zq3_80 dX9_define_72 rfl rfl (Nat.le_of_ble_eq_true rfl) ⟨Nat.le_of_ble_eq_true rfl, Nat.le_of_ble_eq_true rfl⟩ ⟨Nat.le_of_ble_eq_true rfl, Nat.le_of_ble_eq_true rfl⟩ (Nat.le_of_ble_eq_true rfl) (Nat.le_of_ble_eq_true rfl) (fun _ _ h => h.elim) (fun r72 τ hp => ?_)
    obtain ⟨rfl, hp⟩ := hp
    refine gz_norm (st' := [.int r72]) (cells' := 1) (slots' := 6) rfl rfl rfl ?_
    exact gz_iret K hr hp dX9_define_75 (Nat.le_of_ble_eq_true rfl) (Nat.le_of_ble_eq_true rfl)
  · have hp := hp.2 h
    refine gz_aload_n K dX9_define_32 1 rfl ?_
    refine gz_iload_n K dX9_define_33 0 rfl ?_
    refine gz_put K (x := r16) (by decide) (ce_0 _ _ _ _ _ _) rfl inz_X9 tyX9 tyX9_ok nmX9 12 (by decide) zq1_214 rfl (tyX9_ok _ (by decide)) rfl rfl (Nat.le_of_ble_eq_true rfl) peX9_12 dX9_define_34 ?_
    obtain ⟨sa, hsa⟩ := K.2.2.2.2.1.2.2.1 _ (List.mem_of_getElem? (l := zStr) (i := 4) rfl)
    exact gz_throw K hex false rfl xd_IllegalArgumentException_0 xd_IllegalArgumentException_1 xd_IllegalArgumentException_2 xd_IllegalArgumentException_5 (by decide) zq2_131 zq1_14 hsa xl_94 dX9_define_37 dX9_define_40 dX9_define_41 dX9_define_43 dX9_define_46 (Nat.le_of_ble_eq_true rfl) (Nat.le_of_ble_eq_true rfl) (Nat.le_of_ble_eq_true rfl) (Nat.le_of_ble_eq_true rfl) hp (Nat.le_of_ble_eq_true rfl) (Nat.le_of_ble_eq_true rfl)
set_option maxRecDepth 100000 in
set_option maxHeartbeats 4000000 in
theorem c_X9_checkSlot {l : Launch} {D : va_G} {ad : Nat → Nat} {ty : Nat → ClassId} (hl : l.stackTraces = false) (hj : ∀ i j, i < 68 → j < 68 → ad i = ad j → i = j) {σ : Dz} {x0 : Int32} {post : Prop} {px : String → Prop} (hp : P_X9_checkSlot x0 post px) : Mz l D ad ty yX9_checkSlot cX9_checkSlot 1 none r_X9_checkSlot nV0 σ [.int x0] (fun _ τ => σ = τ ∧ post) (fun E τ => σ = τ ∧ px E) := by
  refine mz_of (by decide) hl hj (Nat.le_of_ble_eq_true rfl) ?_
  intro p e s m args below meth c K hex hr
  unfold P_X9_checkSlot at hp
  show Gz p l e r_X9_checkSlot s m args below meth c D ad ty 1 0 0 (Ez below D ad ty nV0 (fun _ τ => σ = τ ∧ post) (fun E τ => σ = τ ∧ px E) args s 1 6) σ 0 [(0, .int x0)] []
  refine gz_iload_n K dX9_checkSlot_0 0 rfl ?_
  refine gz_if_lt K 9 dX9_checkSlot_1 (by decide) (fun h => ?_) (fun h => ?_)
  · have hp := hp.1 h
    obtain ⟨sa, hsa⟩ := K.2.2.2.2.1.2.2.1 _ (List.mem_of_getElem? (l := zStr) (i := 5) rfl)
    exact gz_throw K hex true rfl xd_IndexOutOfBoundsException_0 xd_IndexOutOfBoundsException_1 xd_IndexOutOfBoundsException_2 xd_IndexOutOfBoundsException_5 (by decide) zq3_30 zq1_16 hsa xl_196 dX9_checkSlot_9 dX9_checkSlot_12 dX9_checkSlot_13 dX9_checkSlot_16 dX9_checkSlot_19 (Nat.le_of_ble_eq_true rfl) (Nat.le_of_ble_eq_true rfl) (Nat.le_of_ble_eq_true rfl) (Nat.le_of_ble_eq_true rfl) ⟨rfl, hp⟩ (Nat.le_of_ble_eq_true rfl) (Nat.le_of_ble_eq_true rfl)
  · have hp := hp.2 h
    refine gz_iload_n K dX9_checkSlot_4 0 rfl ?_
    refine gz_iconst K (v := (4 : Int32)) dX9_checkSlot_5 (by decide) ?_
    refine gz_icmp_lt K 20 dX9_checkSlot_6 (by decide) (fun h => ?_) (fun h => ?_)
    · have hp := hp.1 h
      exact gz_vret K hr ⟨rfl, hp⟩ dX9_checkSlot_20 (Nat.le_of_ble_eq_true rfl) (Nat.le_of_ble_eq_true rfl)
    · have hp := hp.2 h
      obtain ⟨sa, hsa⟩ := K.2.2.2.2.1.2.2.1 _ (List.mem_of_getElem? (l := zStr) (i := 5) rfl)
      exact gz_throw K hex true rfl xd_IndexOutOfBoundsException_0 xd_IndexOutOfBoundsException_1 xd_IndexOutOfBoundsException_2 xd_IndexOutOfBoundsException_5 (by decide) zq3_30 zq1_16 hsa xl_196 dX9_checkSlot_9 dX9_checkSlot_12 dX9_checkSlot_13 dX9_checkSlot_16 dX9_checkSlot_19 (Nat.le_of_ble_eq_true rfl) (Nat.le_of_ble_eq_true rfl) (Nat.le_of_ble_eq_true rfl) (Nat.le_of_ble_eq_true rfl) ⟨rfl, hp⟩ (Nat.le_of_ble_eq_true rfl) (Nat.le_of_ble_eq_true rfl)
set_option maxRecDepth 100000 in
set_option maxHeartbeats 4000000 in
theorem c_X9_keepDraft {l : Launch} {D : va_G} {ad : Nat → Nat} {ty : Nat → ClassId} (hl : l.stackTraces = false) (hj : ∀ i j, i < 68 → j < 68 → ad i = ad j → i = j) {σ : Dz} {x1 : Int32} {post : Int32 → Dz → Prop} (hp : P_X9_keepDraft σ x1 post) : Mz l D ad ty yX9_keepDraft cX9_keepDraft 2 (some .int) r_X9_keepDraft nI0 σ [.ref (ad 0), .int x1] post (fun _ _ => False) := by
  refine mz_of (by decide) hl hj (Nat.le_of_ble_eq_true rfl) ?_
  intro p e s m args below meth c K hex hr
  unfold P_X9_keepDraft at hp
  show Gz p l e r_X9_keepDraft s m args below meth c D ad ty 2 0 0 (Ez below D ad ty nI0 post (fun _ _ => False) args s 0 0) σ 0 [(0, .ref (ad 0)), (1, .int x1)] []
  refine gz_aload_n K dX9_keepDraft_0 0 rfl ?_
  refine gz_get K (v := .ref (ad 17)) (by decide) (ce_0 _ _ _ _ _ _) rfl inz_X9 6 (by decide) zq1_208 rfl dX9_keepDraft_1 ?_
  refine gz_iload_n K dX9_keepDraft_4 1 rfl ?_
  refine gz_callV K hex (c_X4_word K.2.2.2.2.2 K.2.2.1 (by unfold isS; decide) hp) cf_X4_word zq3_191 (by decide) (ce_17 _ _ _ _ _ _) rfl dX9_keepDraft_5 rfl rfl (Nat.le_of_ble_eq_true rfl) ⟨Nat.le_of_ble_eq_true rfl, Nat.le_of_ble_eq_true rfl⟩ ⟨Nat.le_of_ble_eq_true rfl, Nat.le_of_ble_eq_true rfl⟩ (Nat.le_of_ble_eq_true rfl) (Nat.le_of_ble_eq_true rfl) (fun _ _ h => h.elim) (fun r5 τ hp => ?_)
  obtain ⟨rfl, hp⟩ := hp
  obtain ⟨u5, hp⟩ := hp
  refine gz_norm (st' := [.ref (ad r5)]) (cells' := 0) (slots' := 0) rfl rfl rfl ?_
  refine gz_aload_n K dX9_keepDraft_8 0 rfl ?_
  refine gz_get K (v := .ref (ad 39)) (by decide) (ce_0 _ _ _ _ _ _) rfl inz_X9 8 (by decide) zq1_210 rfl dX9_keepDraft_9 ?_
  refine gz_callV K hex (c_X6_copyFrom K.2.2.2.2.2 K.2.2.1 u5 (by unfold isW; decide) hp) cf_X6_copyFrom zq3_195 (ceW u5).1 ((ceW u5).2 _ _ _ _ _ _) rfl dX9_keepDraft_12 rfl rfl (Nat.le_of_ble_eq_true rfl) ⟨Nat.le_of_ble_eq_true rfl, Nat.le_of_ble_eq_true rfl⟩ ⟨Nat.le_of_ble_eq_true rfl, Nat.le_of_ble_eq_true rfl⟩ (Nat.le_of_ble_eq_true rfl) (Nat.le_of_ble_eq_true rfl) (fun _ _ h => h.elim) (fun _ τ12 hp => ?_)
  refine gz_norm (st' := []) (cells' := 0) (slots' := 0) rfl rfl rfl ?_
  refine gz_aload_n K dX9_keepDraft_15 0 rfl ?_
  refine gz_get K (v := .ref (ad 39)) (by decide) (ce_0 _ _ _ _ _ _) rfl inz_X9 8 (by decide) zq1_210 rfl dX9_keepDraft_16 ?_
  refine gz_callV K hex (c_X6_length K.2.2.2.2.2 K.2.2.1 (by unfold isW; decide) hp) cf_X6_length zq3_196 (by decide) (ce_39 _ _ _ _ _ _) rfl dX9_keepDraft_19 rfl rfl (Nat.le_of_ble_eq_true rfl) ⟨Nat.le_of_ble_eq_true rfl, Nat.le_of_ble_eq_true rfl⟩ ⟨Nat.le_of_ble_eq_true rfl, Nat.le_of_ble_eq_true rfl⟩ (Nat.le_of_ble_eq_true rfl) (Nat.le_of_ble_eq_true rfl) (fun _ _ h => h.elim) (fun r19 τ hp => ?_)
  obtain ⟨rfl, hp⟩ := hp
  refine gz_norm (st' := [.int r19]) (cells' := 0) (slots' := 0) rfl rfl rfl ?_
  exact gz_iret K hr hp dX9_keepDraft_22 (Nat.le_of_ble_eq_true rfl) (Nat.le_of_ble_eq_true rfl)
set_option maxRecDepth 100000 in
set_option maxHeartbeats 4000000 in
theorem c_X9_store {l : Launch} {D : va_G} {ad : Nat → Nat} {ty : Nat → ClassId} (hl : l.stackTraces = false) (hj : ∀ i j, i < 68 → j < 68 → ad i = ad j → i = j) {σ : Dz} {x1 : Int32} {post : Int32 → Dz → Prop} {px : String → Dz → Prop} (hp : P_X9_store σ x1 post px) : Mz l D ad ty yX9_store cX9_store 5 (some .int) r_X9_store nI0 σ [.ref (ad 0), .int x1] post px := by
  refine mz_of (by decide) hl hj (Nat.le_of_ble_eq_true rfl) ?_
  intro p e s m args below meth c K hex hr
  unfold P_X9_store at hp
  have bb_68 : ∀ (σ : Dz) (y1 : Int32) (y2 : Int32) (y3 : Int32) (z0 : Int32) , B_X9_store_68 post px  σ y1 y2 y3 z0 → Gz p l e r_X9_store s m args below meth c D ad ty 5 1 6 (Ez below D ad ty nI0 post px args s 2 12) σ 68 [(0, .ref (ad 0)), (1, .int y1), (2, .int y2), (3, .int y3)] [.int z0] := by
    intro σ y1 y2 y3 z0 hp
    unfold B_X9_store_68 at hp
    refine gz_istore K [(4, .int z0), (0, .ref (ad 0)), (1, .int y1), (2, .int y2), (3, .int y3)] dX9_store_68 (by decide) rfl ?_
    refine gz_aload_n K dX9_store_70 1 rfl ?_
    refine gz_get K (v := .ref (ad 1)) (by decide) (ce_0 _ _ _ _ _ _) rfl inz_X9 0 (by decide) zq1_202 rfl dX9_store_71 ?_
    refine gz_callV K hex (c_X5_clear K.2.2.2.2.2 K.2.2.1 hp) cf_X5_clear zq3_63 (by decide) (ce_1 _ _ _ _ _ _) rfl dX9_store_74 rfl rfl (Nat.le_of_ble_eq_true rfl) ⟨Nat.le_of_ble_eq_true rfl, Nat.le_of_ble_eq_true rfl⟩ ⟨Nat.le_of_ble_eq_true rfl, Nat.le_of_ble_eq_true rfl⟩ (Nat.le_of_ble_eq_true rfl) (Nat.le_of_ble_eq_true rfl) (fun _ _ h => h.elim) (fun _ τ74 hp => ?_)
    refine gz_norm (st' := []) (cells' := 1) (slots' := 6) rfl rfl rfl ?_
    refine gz_iload_n K dX9_store_77 3 rfl ?_
    refine gz_iconst K (v := (-1 : Int32)) dX9_store_78 (by decide) ?_
    refine gz_icmp_eq K 97 dX9_store_79 (by decide) (fun h => ?_) (fun h => ?_)
    · have hp := hp.1 h
      refine gz_iload_n K dX9_store_97 4 rfl ?_
      refine gz_if_ne K 111 dX9_store_98 (by decide) (fun h => ?_) (fun h => ?_)
      · have hp := hp.1 h
        refine gz_iload K dX9_store_111 0 rfl ?_
        refine gz_if_ne K 126 dX9_store_113 (by decide) (fun h => ?_) (fun h => ?_)
        · have hp := hp.1 h
          refine gz_aload_n K dX9_store_126 1 rfl ?_
          refine gz_iload_n K dX9_store_127 2 rfl ?_
          refine gz_callV K hex (c_X9_keepDraft K.2.2.2.2.2 K.2.2.1 hp) cf_X9_keepDraft zq3_187 (by decide) (ce_0 _ _ _ _ _ _) rfl dX9_store_128 rfl rfl (Nat.le_of_ble_eq_true rfl) ⟨Nat.le_of_ble_eq_true rfl, Nat.le_of_ble_eq_true rfl⟩ ⟨Nat.le_of_ble_eq_true rfl, Nat.le_of_ble_eq_true rfl⟩ (Nat.le_of_ble_eq_true rfl) (Nat.le_of_ble_eq_true rfl) (fun _ _ h => h.elim) (fun r128 τ128 hp => ?_)
          refine gz_norm (st' := [.int r128]) (cells' := 1) (slots' := 6) rfl rfl rfl ?_
          exact gz_iret K hr hp dX9_store_131 (Nat.le_of_ble_eq_true rfl) (Nat.le_of_ble_eq_true rfl)
        · have hp := hp.2 h
          obtain ⟨sa, hsa⟩ := K.2.2.2.2.1.2.2.1 _ (List.mem_of_getElem? (l := zStr) (i := 8) rfl)
          exact gz_throw K hex false rfl xd_ArithmeticException_0 xd_ArithmeticException_1 xd_ArithmeticException_2 xd_ArithmeticException_5 (by decide) zq3_184 zq1_20 hsa xl_162 dX9_store_116 dX9_store_119 dX9_store_120 dX9_store_122 dX9_store_125 (Nat.le_of_ble_eq_true rfl) (Nat.le_of_ble_eq_true rfl) (Nat.le_of_ble_eq_true rfl) (Nat.le_of_ble_eq_true rfl) hp (Nat.le_of_ble_eq_true rfl) (Nat.le_of_ble_eq_true rfl)
      · have hp := hp.2 h
        obtain ⟨sa, hsa⟩ := K.2.2.2.2.1.2.2.1 _ (List.mem_of_getElem? (l := zStr) (i := 7) rfl)
        exact gz_throw K hex false rfl xd_IllegalStateException_0 xd_IllegalStateException_1 xd_IllegalStateException_2 xd_IllegalStateException_5 (by decide) zq2_216 zq1_15 hsa xl_110 dX9_store_101 dX9_store_104 dX9_store_105 dX9_store_107 dX9_store_110 (Nat.le_of_ble_eq_true rfl) (Nat.le_of_ble_eq_true rfl) (Nat.le_of_ble_eq_true rfl) (Nat.le_of_ble_eq_true rfl) hp (Nat.le_of_ble_eq_true rfl) (Nat.le_of_ble_eq_true rfl)
    · have hp := hp.2 h
      refine gz_aload_n K dX9_store_82 1 rfl ?_
      refine gz_iload_n K dX9_store_83 3 rfl ?_
      refine gz_put K (x := y2) (by decide) (ce_0 _ _ _ _ _ _) rfl inz_X9 tyX9 tyX9_ok nmX9 12 (by decide) zq1_214 rfl (tyX9_ok _ (by decide)) rfl rfl (Nat.le_of_ble_eq_true rfl) peX9_12 dX9_store_84 ?_
      obtain ⟨sa, hsa⟩ := K.2.2.2.2.1.2.2.1 _ (List.mem_of_getElem? (l := zStr) (i := 6) rfl)
      exact gz_throw K hex false rfl xd_IllegalArgumentException_0 xd_IllegalArgumentException_1 xd_IllegalArgumentException_2 xd_IllegalArgumentException_5 (by decide) zq2_131 zq1_14 hsa xl_94 dX9_store_87 dX9_store_90 dX9_store_91 dX9_store_93 dX9_store_96 (Nat.le_of_ble_eq_true rfl) (Nat.le_of_ble_eq_true rfl) (Nat.le_of_ble_eq_true rfl) (Nat.le_of_ble_eq_true rfl) hp (Nat.le_of_ble_eq_true rfl) (Nat.le_of_ble_eq_true rfl)
  have bb_67 : ∀ (σ : Dz) (y1 : Int32) (y2 : Int32) (y3 : Int32) , B_X9_store_67 post px  σ y1 y2 y3 → Gz p l e r_X9_store s m args below meth c D ad ty 5 1 6 (Ez below D ad ty nI0 post px args s 2 12) σ 67 [(0, .ref (ad 0)), (1, .int y1), (2, .int y2), (3, .int y3)] [] := by
    intro σ y1 y2 y3 hp
    unfold B_X9_store_67 at hp
    refine gz_iconst K (v := (0 : Int32)) dX9_store_67 (by decide) ?_
    exact bb_68 σ y1 y2 y3 (0 : Int32)  hp
  have bb_40 : ∀ (σ : Dz) (y1 : Int32) (y2 : Int32) (z0 : Int32) , B_X9_store_40 post px  σ y1 y2 z0 → Gz p l e r_X9_store s m args below meth c D ad ty 5 1 6 (Ez below D ad ty nI0 post px args s 2 12) σ 40 [(0, .ref (ad 0)), (1, .int y1), (2, .int y2)] [.int z0] := by
    intro σ y1 y2 z0 hp
    unfold B_X9_store_40 at hp
    refine gz_istore_n K [(3, .int z0), (0, .ref (ad 0)), (1, .int y1), (2, .int y2)] dX9_store_40 (by decide) rfl ?_
    refine gz_iload_n K dX9_store_41 0 rfl ?_
    refine gz_if_eq K 67 dX9_store_42 (by decide) (fun h => ?_) (fun h => ?_)
    · have hp := hp.1 h
      refine gz_sub [1, 2, 3, 0] rfl ?_
      exact bb_67 σ y1 y2 z0  hp
    · have hp := hp.2 h
      refine gz_aload_n K dX9_store_45 1 rfl ?_
      refine gz_get K (v := .ref (ad 6)) (by decide) (ce_0 _ _ _ _ _ _) rfl inz_X9 3 (by decide) zq1_205 rfl dX9_store_46 ?_
      refine gz_aload_n K dX9_store_49 1 rfl ?_
      refine gz_get K (v := .ref (ad 1)) (by decide) (ce_0 _ _ _ _ _ _) rfl inz_X9 0 (by decide) zq1_202 rfl dX9_store_50 ?_
      refine gz_aload_n K dX9_store_53 1 rfl ?_
      refine gz_get K (v := .ref (ad 39)) (by decide) (ce_0 _ _ _ _ _ _) rfl inz_X9 8 (by decide) zq1_210 rfl dX9_store_54 ?_
      refine gz_callV K hex (c_X8_write K.2.2.2.2.2 K.2.2.1 (by unfold isW; decide) hp) cf_X8_write zq3_140 (by decide) (ce_6 _ _ _ _ _ _) rfl dX9_store_57 rfl rfl (Nat.le_of_ble_eq_true rfl) ⟨Nat.le_of_ble_eq_true rfl, Nat.le_of_ble_eq_true rfl⟩ ⟨Nat.le_of_ble_eq_true rfl, Nat.le_of_ble_eq_true rfl⟩ (Nat.le_of_ble_eq_true rfl) (Nat.le_of_ble_eq_true rfl) (fun _ _ h => h.elim) (fun r57 τ57 hp => ?_)
      refine gz_norm (st' := [.int r57]) (cells' := 1) (slots' := 6) rfl rfl rfl ?_
      refine gz_if_eq K 67 dX9_store_60 (by decide) (fun h => ?_) (fun h => ?_)
      · have hp := hp.1 h
        refine gz_sub [1, 2, 3, 0] rfl ?_
        exact bb_67 τ57 y1 y2 z0  hp
      · have hp := hp.2 h
        refine gz_iconst K (v := (1 : Int32)) dX9_store_63 (by decide) ?_
        refine gz_goto K 68 dX9_store_64 (by decide) ?_
        refine gz_sub [1, 2, 3, 0] rfl ?_
        exact bb_68 τ57 y1 y2 z0 (1 : Int32)  hp
  have bb_39 : ∀ (σ : Dz) (y1 : Int32) (y2 : Int32) , B_X9_store_39 post px  σ y1 y2 → Gz p l e r_X9_store s m args below meth c D ad ty 5 1 6 (Ez below D ad ty nI0 post px args s 2 12) σ 39 [(0, .ref (ad 0)), (1, .int y1), (2, .int y2)] [] := by
    intro σ y1 y2 hp
    unfold B_X9_store_39 at hp
    refine gz_iconst K (v := (0 : Int32)) dX9_store_39 (by decide) ?_
    exact bb_40 σ y1 y2 (0 : Int32)  hp
  show Gz p l e r_X9_store s m args below meth c D ad ty 5 0 0 (Ez below D ad ty nI0 post px args s 2 12) σ 0 [(0, .ref (ad 0)), (1, .int x1)] []
  refine gz_iload_n K dX9_store_0 1 rfl ?_
  refine gz_callS K hex (c_X9_checkSlot K.2.2.2.2.2 K.2.2.1 hp) cf_X9_checkSlot zq3_104 dX9_store_1 rfl rfl (Nat.le_of_ble_eq_true rfl) ⟨Nat.le_of_ble_eq_true rfl, Nat.le_of_ble_eq_true rfl⟩ ⟨Nat.le_of_ble_eq_true rfl, Nat.le_of_ble_eq_true rfl⟩ (Nat.le_of_ble_eq_true rfl) (Nat.le_of_ble_eq_true rfl) (fun _ _ h => h.1 ▸ h.2) (fun _ τ hp => ?_)
  obtain ⟨rfl, hp⟩ := hp
  refine gz_norm (st' := []) (cells' := 1) (slots' := 6) rfl rfl rfl ?_
  refine gz_aload_n K dX9_store_4 0 rfl ?_
  refine gz_get K (v := .ref (ad 4)) (by decide) (ce_0 _ _ _ _ _ _) rfl inz_X9 2 (by decide) zq1_204 rfl dX9_store_5 ?_
  refine gz_aload_n K dX9_store_8 0 rfl ?_
  refine gz_get K (v := .ref (ad 1)) (by decide) (ce_0 _ _ _ _ _ _) rfl inz_X9 0 (by decide) zq1_202 rfl dX9_store_9 ?_
  refine gz_callV K hex (c_X7_errorIn K.2.2.2.2.2 K.2.2.1 hp) cf_X7_errorIn zq3_108 (by decide) (ce_4 _ _ _ _ _ _) rfl dX9_store_12 rfl rfl (Nat.le_of_ble_eq_true rfl) ⟨Nat.le_of_ble_eq_true rfl, Nat.le_of_ble_eq_true rfl⟩ ⟨Nat.le_of_ble_eq_true rfl, Nat.le_of_ble_eq_true rfl⟩ (Nat.le_of_ble_eq_true rfl) (Nat.le_of_ble_eq_true rfl) (fun _ _ h => h.elim) (fun r12 τ12 hp => ?_)
  refine gz_norm (st' := [.int r12]) (cells' := 1) (slots' := 6) rfl rfl rfl ?_
  refine gz_istore_n K [(2, .int r12), (0, .ref (ad 0)), (1, .int x1)] dX9_store_15 (by decide) rfl ?_
  refine gz_iload_n K dX9_store_16 0 rfl ?_
  refine gz_iconst K (v := (-1 : Int32)) dX9_store_17 (by decide) ?_
  refine gz_icmp_ne K 39 dX9_store_18 (by decide) (fun h => ?_) (fun h => ?_)
  · have hp := hp.1 h
    refine gz_sub [1, 2, 0] rfl ?_
    exact bb_39 τ12 x1 r12  hp
  · have hp := hp.2 h
    refine gz_aload_n K dX9_store_21 1 rfl ?_
    refine gz_get K (v := .ref (ad 17)) (by decide) (ce_0 _ _ _ _ _ _) rfl inz_X9 6 (by decide) zq1_208 rfl dX9_store_22 ?_
    refine gz_aload_n K dX9_store_25 1 rfl ?_
    refine gz_get K (v := .ref (ad 1)) (by decide) (ce_0 _ _ _ _ _ _) rfl inz_X9 0 (by decide) zq1_202 rfl dX9_store_26 ?_
    refine gz_callV K hex (c_X4_definesNamesIn K.2.2.2.2.2 K.2.2.1 (by unfold isS; decide) hp) cf_X4_definesNamesIn zq3_129 (by decide) (ce_17 _ _ _ _ _ _) rfl dX9_store_29 rfl rfl (Nat.le_of_ble_eq_true rfl) ⟨Nat.le_of_ble_eq_true rfl, Nat.le_of_ble_eq_true rfl⟩ ⟨Nat.le_of_ble_eq_true rfl, Nat.le_of_ble_eq_true rfl⟩ (Nat.le_of_ble_eq_true rfl) (Nat.le_of_ble_eq_true rfl) (fun _ _ h => h.elim) (fun r29 τ hp => ?_)
    obtain ⟨rfl, hp⟩ := hp
    refine gz_norm (st' := [.int r29]) (cells' := 1) (slots' := 6) rfl rfl rfl ?_
    refine gz_if_eq K 39 dX9_store_32 (by decide) (fun h => ?_) (fun h => ?_)
    · have hp := hp.1 h
      refine gz_sub [1, 2, 0] rfl ?_
      exact bb_39 τ12 x1 r12  hp
    · have hp := hp.2 h
      refine gz_iconst K (v := (1 : Int32)) dX9_store_35 (by decide) ?_
      refine gz_goto K 40 dX9_store_36 (by decide) ?_
      refine gz_sub [1, 2, 0] rfl ?_
      exact bb_40 τ12 x1 r12 (1 : Int32)  hp
set_option maxRecDepth 100000 in
set_option maxHeartbeats 4000000 in
theorem c_X9_errorPosition {l : Launch} {D : va_G} {ad : Nat → Nat} {ty : Nat → ClassId} (hl : l.stackTraces = false) (hj : ∀ i j, i < 68 → j < 68 → ad i = ad j → i = j) {σ : Dz} {post : Int32 → Prop} {px : String → Prop} (hp : P_X9_errorPosition σ post px) : Mz l D ad ty yX9_errorPosition cX9_errorPosition 1 (some .int) r_X9_errorPosition nI0 σ [.ref (ad 0)] (fun r τ => σ = τ ∧ post r) (fun E τ => σ = τ ∧ px E) := by
  refine mz_of (by decide) hl hj (Nat.le_of_ble_eq_true rfl) ?_
  intro p e s m args below meth c K hex hr
  unfold P_X9_errorPosition at hp
  show Gz p l e r_X9_errorPosition s m args below meth c D ad ty 1 0 0 (Ez below D ad ty nI0 (fun r τ => σ = τ ∧ post r) (fun E τ => σ = τ ∧ px E) args s 1 6) σ 0 [(0, .ref (ad 0))] []
  refine gz_aload_n K dX9_errorPosition_0 0 rfl ?_
  refine gz_get K (v := .int (gz_i σ 0 12)) (by decide) (ce_0 _ _ _ _ _ _) rfl inz_X9 12 (by decide) zq1_214 rfl dX9_errorPosition_1 ?_
  refine gz_iconst K (v := (-1 : Int32)) dX9_errorPosition_4 (by decide) ?_
  refine gz_icmp_ne K 18 dX9_errorPosition_5 (by decide) (fun h => ?_) (fun h => ?_)
  · have hp := hp.1 h
    refine gz_aload_n K dX9_errorPosition_18 0 rfl ?_
    refine gz_get K (v := .int (gz_i σ 0 12)) (by decide) (ce_0 _ _ _ _ _ _) rfl inz_X9 12 (by decide) zq1_214 rfl dX9_errorPosition_19 ?_
    exact gz_iret K hr ⟨rfl, hp⟩ dX9_errorPosition_22 (Nat.le_of_ble_eq_true rfl) (Nat.le_of_ble_eq_true rfl)
  · have hp := hp.2 h
    obtain ⟨sa, hsa⟩ := K.2.2.2.2.1.2.2.1 _ (List.mem_of_getElem? (l := zStr) (i := 9) rfl)
    exact gz_throw K hex false rfl xd_NoSuchElementException_0 xd_NoSuchElementException_1 xd_NoSuchElementException_2 xd_NoSuchElementException_5 (by decide) zq3_205 zq1_21 hsa xl_171 dX9_errorPosition_8 dX9_errorPosition_11 dX9_errorPosition_12 dX9_errorPosition_14 dX9_errorPosition_17 (Nat.le_of_ble_eq_true rfl) (Nat.le_of_ble_eq_true rfl) (Nat.le_of_ble_eq_true rfl) (Nat.le_of_ble_eq_true rfl) ⟨rfl, hp⟩ (Nat.le_of_ble_eq_true rfl) (Nat.le_of_ble_eq_true rfl)
set_option maxRecDepth 100000 in
set_option maxHeartbeats 4000000 in
theorem c_X9_checkPosition {l : Launch} {D : va_G} {ad : Nat → Nat} {ty : Nat → ClassId} (hl : l.stackTraces = false) (hj : ∀ i j, i < 68 → j < 68 → ad i = ad j → i = j) {σ : Dz} {x1 : Int32} {post : Prop} {px : String → Prop} (hp : P_X9_checkPosition σ x1 post px) : Mz l D ad ty yX9_checkPosition cX9_checkPosition 2 none r_X9_checkPosition nV0 σ [.ref (ad 0), .int x1] (fun _ τ => σ = τ ∧ post) (fun E τ => σ = τ ∧ px E) := by
  refine mz_of (by decide) hl hj (Nat.le_of_ble_eq_true rfl) ?_
  intro p e s m args below meth c K hex hr
  unfold P_X9_checkPosition at hp
  show Gz p l e r_X9_checkPosition s m args below meth c D ad ty 2 0 0 (Ez below D ad ty nV0 (fun _ τ => σ = τ ∧ post) (fun E τ => σ = τ ∧ px E) args s 1 6) σ 0 [(0, .ref (ad 0)), (1, .int x1)] []
  refine gz_iload_n K dX9_checkPosition_0 1 rfl ?_
  refine gz_iconst K (v := (1 : Int32)) dX9_checkPosition_1 (by decide) ?_
  refine gz_icmp_lt K 13 dX9_checkPosition_2 (by decide) (fun h => ?_) (fun h => ?_)
  · have hp := hp.1 h
    obtain ⟨sa, hsa⟩ := K.2.2.2.2.1.2.2.1 _ (List.mem_of_getElem? (l := zStr) (i := 10) rfl)
    exact gz_throw K hex true rfl xd_IndexOutOfBoundsException_0 xd_IndexOutOfBoundsException_1 xd_IndexOutOfBoundsException_2 xd_IndexOutOfBoundsException_5 (by decide) zq3_30 zq1_16 hsa xl_196 dX9_checkPosition_13 dX9_checkPosition_16 dX9_checkPosition_17 dX9_checkPosition_20 dX9_checkPosition_23 (Nat.le_of_ble_eq_true rfl) (Nat.le_of_ble_eq_true rfl) (Nat.le_of_ble_eq_true rfl) (Nat.le_of_ble_eq_true rfl) ⟨rfl, hp⟩ (Nat.le_of_ble_eq_true rfl) (Nat.le_of_ble_eq_true rfl)
  · have hp := hp.2 h
    refine gz_iload_n K dX9_checkPosition_5 1 rfl ?_
    refine gz_aload_n K dX9_checkPosition_6 0 rfl ?_
    refine gz_get K (v := .int (gz_i σ 0 11)) (by decide) (ce_0 _ _ _ _ _ _) rfl inz_X9 11 (by decide) zq1_213 rfl dX9_checkPosition_7 ?_
    refine gz_icmp_le K 24 dX9_checkPosition_10 (by decide) (fun h => ?_) (fun h => ?_)
    · have hp := hp.1 h
      exact gz_vret K hr ⟨rfl, hp⟩ dX9_checkPosition_24 (Nat.le_of_ble_eq_true rfl) (Nat.le_of_ble_eq_true rfl)
    · have hp := hp.2 h
      obtain ⟨sa, hsa⟩ := K.2.2.2.2.1.2.2.1 _ (List.mem_of_getElem? (l := zStr) (i := 10) rfl)
      exact gz_throw K hex true rfl xd_IndexOutOfBoundsException_0 xd_IndexOutOfBoundsException_1 xd_IndexOutOfBoundsException_2 xd_IndexOutOfBoundsException_5 (by decide) zq3_30 zq1_16 hsa xl_196 dX9_checkPosition_13 dX9_checkPosition_16 dX9_checkPosition_17 dX9_checkPosition_20 dX9_checkPosition_23 (Nat.le_of_ble_eq_true rfl) (Nat.le_of_ble_eq_true rfl) (Nat.le_of_ble_eq_true rfl) (Nat.le_of_ble_eq_true rfl) ⟨rfl, hp⟩ (Nat.le_of_ble_eq_true rfl) (Nat.le_of_ble_eq_true rfl)
set_option maxRecDepth 100000 in
set_option maxHeartbeats 4000000 in
theorem c_X9_target {l : Launch} {D : va_G} {ad : Nat → Nat} {ty : Nat → ClassId} (hl : l.stackTraces = false) (hj : ∀ i j, i < 68 → j < 68 → ad i = ad j → i = j) {σ : Dz} {x1 : Int32} {x2 : Int32} {post : Int32 → Prop} {px : String → Prop} (hp : P_X9_target σ x1 x2 post px) : Mz l D ad ty yX9_target cX9_target 3 (some .int) r_X9_target nI0 σ [.ref (ad 0), .int x1, .int x2] (fun r τ => σ = τ ∧ post r) (fun E τ => σ = τ ∧ px E) := by
  refine mz_of (by decide) hl hj (Nat.le_of_ble_eq_true rfl) ?_
  intro p e s m args below meth c K hex hr
  unfold P_X9_target at hp
  show Gz p l e r_X9_target s m args below meth c D ad ty 3 0 0 (Ez below D ad ty nI0 (fun r τ => σ = τ ∧ post r) (fun E τ => σ = τ ∧ px E) args s 3 18) σ 0 [(0, .ref (ad 0)), (1, .int x1), (2, .int x2)] []
  refine gz_iload_n K dX9_target_0 1 rfl ?_
  refine gz_callS K hex (c_X9_checkMove K.2.2.2.2.2 K.2.2.1 hp) cf_X9_checkMove zq3_27 dX9_target_1 rfl rfl (Nat.le_of_ble_eq_true rfl) ⟨Nat.le_of_ble_eq_true rfl, Nat.le_of_ble_eq_true rfl⟩ ⟨Nat.le_of_ble_eq_true rfl, Nat.le_of_ble_eq_true rfl⟩ (Nat.le_of_ble_eq_true rfl) (Nat.le_of_ble_eq_true rfl) (fun _ _ h => ⟨h.1, h.2⟩) (fun _ τ hp => ?_)
  obtain ⟨rfl, hp⟩ := hp
  refine gz_norm (st' := []) (cells' := 1) (slots' := 6) rfl rfl rfl ?_
  refine gz_aload_n K dX9_target_4 0 rfl ?_
  refine gz_iload_n K dX9_target_5 2 rfl ?_
  refine gz_callV K hex (c_X9_checkPosition K.2.2.2.2.2 K.2.2.1 hp) cf_X9_checkPosition zq3_228 (by decide) (ce_0 _ _ _ _ _ _) rfl dX9_target_6 rfl rfl (Nat.le_of_ble_eq_true rfl) ⟨Nat.le_of_ble_eq_true rfl, Nat.le_of_ble_eq_true rfl⟩ ⟨Nat.le_of_ble_eq_true rfl, Nat.le_of_ble_eq_true rfl⟩ (Nat.le_of_ble_eq_true rfl) (Nat.le_of_ble_eq_true rfl) (fun _ _ h => ⟨h.1, h.2⟩) (fun _ τ hp => ?_)
  obtain ⟨rfl, hp⟩ := hp
  refine gz_norm (st' := []) (cells' := 2) (slots' := 12) rfl rfl rfl ?_
  refine gz_aload_n K dX9_target_9 0 rfl ?_
  refine gz_get K (v := .ref (ad 17)) (by decide) (ce_0 _ _ _ _ _ _) rfl inz_X9 6 (by decide) zq1_208 rfl dX9_target_10 ?_
  refine gz_iload_n K dX9_target_13 1 rfl ?_
  refine gz_callV K hex (c_X4_isDefined K.2.2.2.2.2 K.2.2.1 (by unfold isS; decide) hp) cf_X4_isDefined zq3_233 (by decide) (ce_17 _ _ _ _ _ _) rfl dX9_target_14 rfl rfl (Nat.le_of_ble_eq_true rfl) ⟨Nat.le_of_ble_eq_true rfl, Nat.le_of_ble_eq_true rfl⟩ ⟨Nat.le_of_ble_eq_true rfl, Nat.le_of_ble_eq_true rfl⟩ (Nat.le_of_ble_eq_true rfl) (Nat.le_of_ble_eq_true rfl) (fun _ _ h => h.elim) (fun r14 τ hp => ?_)
  obtain ⟨rfl, hp⟩ := hp
  refine gz_norm (st' := [.int r14]) (cells' := 2) (slots' := 12) rfl rfl rfl ?_
  refine gz_if_ne K 30 dX9_target_17 (by decide) (fun h => ?_) (fun h => ?_)
  · have hp := hp.1 h
    refine gz_aload_n K dX9_target_30 0 rfl ?_
    refine gz_get K (v := .ref (ad 17)) (by decide) (ce_0 _ _ _ _ _ _) rfl inz_X9 6 (by decide) zq1_208 rfl dX9_target_31 ?_
    refine gz_iconst K (v := (2 : Int32)) dX9_target_34 (by decide) ?_
    refine gz_iload_n K dX9_target_35 1 rfl ?_
    refine gz_imul K dX9_target_36 ?_
    refine gz_callV K hex (c_X4_effectOfLetter K.2.2.2.2.2 K.2.2.1 (by unfold isS; decide) hp) cf_X4_effectOfLetter zq3_235 (by decide) (ce_17 _ _ _ _ _ _) rfl dX9_target_37 rfl rfl (Nat.le_of_ble_eq_true rfl) ⟨Nat.le_of_ble_eq_true rfl, Nat.le_of_ble_eq_true rfl⟩ ⟨Nat.le_of_ble_eq_true rfl, Nat.le_of_ble_eq_true rfl⟩ (Nat.le_of_ble_eq_true rfl) (Nat.le_of_ble_eq_true rfl) (fun _ _ h => h.elim) (fun r37 τ hp => ?_)
    obtain ⟨rfl, hp⟩ := hp
    refine gz_norm (st' := [.int r37]) (cells' := 2) (slots' := 12) rfl rfl rfl ?_
    refine gz_iload_n K dX9_target_40 2 rfl ?_
    refine gz_iconst K (v := (1 : Int32)) dX9_target_41 (by decide) ?_
    refine gz_isub K dX9_target_42 ?_
    refine gz_callS K hex (c_X3_imageOf K.2.2.2.2.2 K.2.2.1 hp) cf_X3_imageOf zq3_236 dX9_target_43 rfl rfl (Nat.le_of_ble_eq_true rfl) ⟨Nat.le_of_ble_eq_true rfl, Nat.le_of_ble_eq_true rfl⟩ ⟨Nat.le_of_ble_eq_true rfl, Nat.le_of_ble_eq_true rfl⟩ (Nat.le_of_ble_eq_true rfl) (Nat.le_of_ble_eq_true rfl) (fun _ _ h => h.elim) (fun r43 τ hp => ?_)
    obtain ⟨rfl, hp⟩ := hp
    refine gz_norm (st' := [.int r43]) (cells' := 2) (slots' := 12) rfl rfl rfl ?_
    refine gz_iconst K (v := (1 : Int32)) dX9_target_46 (by decide) ?_
    refine gz_iadd K dX9_target_47 ?_
    exact gz_iret K hr ⟨rfl, hp⟩ dX9_target_48 (Nat.le_of_ble_eq_true rfl) (Nat.le_of_ble_eq_true rfl)
  · have hp := hp.2 h
    obtain ⟨sa, hsa⟩ := K.2.2.2.2.1.2.2.1 _ (List.mem_of_getElem? (l := zStr) (i := 11) rfl)
    exact gz_throw K hex false rfl xd_NoSuchElementException_0 xd_NoSuchElementException_1 xd_NoSuchElementException_2 xd_NoSuchElementException_5 (by decide) zq3_205 zq1_21 hsa xl_171 dX9_target_20 dX9_target_23 dX9_target_24 dX9_target_26 dX9_target_29 (Nat.le_of_ble_eq_true rfl) (Nat.le_of_ble_eq_true rfl) (Nat.le_of_ble_eq_true rfl) (Nat.le_of_ble_eq_true rfl) ⟨rfl, hp⟩ (Nat.le_of_ble_eq_true rfl) (Nat.le_of_ble_eq_true rfl)
set_option maxRecDepth 100000 in
set_option maxHeartbeats 4000000 in
theorem c_X9_wordLength {l : Launch} {D : va_G} {ad : Nat → Nat} {ty : Nat → ClassId} (hl : l.stackTraces = false) (hj : ∀ i j, i < 68 → j < 68 → ad i = ad j → i = j) {σ : Dz} {x1 : Int32} {post : Int32 → Prop} {px : String → Prop} (hp : P_X9_wordLength σ x1 post px) : Mz l D ad ty yX9_wordLength cX9_wordLength 2 (some .int) r_X9_wordLength nI0 σ [.ref (ad 0), .int x1] (fun r τ => σ = τ ∧ post r) (fun E τ => σ = τ ∧ px E) := by
  refine mz_of (by decide) hl hj (Nat.le_of_ble_eq_true rfl) ?_
  intro p e s m args below meth c K hex hr
  unfold P_X9_wordLength at hp
  show Gz p l e r_X9_wordLength s m args below meth c D ad ty 2 0 0 (Ez below D ad ty nI0 (fun r τ => σ = τ ∧ post r) (fun E τ => σ = τ ∧ px E) args s 1 6) σ 0 [(0, .ref (ad 0)), (1, .int x1)] []
  refine gz_iload_n K dX9_wordLength_0 1 rfl ?_
  refine gz_callS K hex (c_X9_checkSlot K.2.2.2.2.2 K.2.2.1 hp) cf_X9_checkSlot zq3_104 dX9_wordLength_1 rfl rfl (Nat.le_of_ble_eq_true rfl) ⟨Nat.le_of_ble_eq_true rfl, Nat.le_of_ble_eq_true rfl⟩ ⟨Nat.le_of_ble_eq_true rfl, Nat.le_of_ble_eq_true rfl⟩ (Nat.le_of_ble_eq_true rfl) (Nat.le_of_ble_eq_true rfl) (fun _ _ h => ⟨h.1, h.2⟩) (fun _ τ hp => ?_)
  obtain ⟨rfl, hp⟩ := hp
  refine gz_norm (st' := []) (cells' := 1) (slots' := 6) rfl rfl rfl ?_
  refine gz_aload_n K dX9_wordLength_4 0 rfl ?_
  refine gz_get K (v := .ref (ad 17)) (by decide) (ce_0 _ _ _ _ _ _) rfl inz_X9 6 (by decide) zq1_208 rfl dX9_wordLength_5 ?_
  refine gz_iload_n K dX9_wordLength_8 1 rfl ?_
  refine gz_callV K hex (c_X4_word K.2.2.2.2.2 K.2.2.1 (by unfold isS; decide) hp) cf_X4_word zq3_191 (by decide) (ce_17 _ _ _ _ _ _) rfl dX9_wordLength_9 rfl rfl (Nat.le_of_ble_eq_true rfl) ⟨Nat.le_of_ble_eq_true rfl, Nat.le_of_ble_eq_true rfl⟩ ⟨Nat.le_of_ble_eq_true rfl, Nat.le_of_ble_eq_true rfl⟩ (Nat.le_of_ble_eq_true rfl) (Nat.le_of_ble_eq_true rfl) (fun _ _ h => h.elim) (fun r9 τ hp => ?_)
  obtain ⟨rfl, hp⟩ := hp
  obtain ⟨u9, hp⟩ := hp
  refine gz_norm (st' := [.ref (ad r9)]) (cells' := 1) (slots' := 6) rfl rfl rfl ?_
  refine gz_callV K hex (c_X6_length K.2.2.2.2.2 K.2.2.1 u9 hp) cf_X6_length zq3_196 (ceW u9).1 ((ceW u9).2 _ _ _ _ _ _) rfl dX9_wordLength_12 rfl rfl (Nat.le_of_ble_eq_true rfl) ⟨Nat.le_of_ble_eq_true rfl, Nat.le_of_ble_eq_true rfl⟩ ⟨Nat.le_of_ble_eq_true rfl, Nat.le_of_ble_eq_true rfl⟩ (Nat.le_of_ble_eq_true rfl) (Nat.le_of_ble_eq_true rfl) (fun _ _ h => h.elim) (fun r12 τ hp => ?_)
  obtain ⟨rfl, hp⟩ := hp
  refine gz_norm (st' := [.int r12]) (cells' := 1) (slots' := 6) rfl rfl rfl ?_
  exact gz_iret K hr ⟨rfl, hp⟩ dX9_wordLength_15 (Nat.le_of_ble_eq_true rfl) (Nat.le_of_ble_eq_true rfl)
set_option maxRecDepth 100000 in
set_option maxHeartbeats 4000000 in
theorem c_X9_letter {l : Launch} {D : va_G} {ad : Nat → Nat} {ty : Nat → ClassId} (hl : l.stackTraces = false) (hj : ∀ i j, i < 68 → j < 68 → ad i = ad j → i = j) {σ : Dz} {x1 : Int32} {x2 : Int32} {post : Int32 → Prop} {px : String → Prop} (hp : P_X9_letter σ x1 x2 post px) : Mz l D ad ty yX9_letter cX9_letter 4 (some .int) r_X9_letter nI0 σ [.ref (ad 0), .int x1, .int x2] (fun r τ => σ = τ ∧ post r) (fun E τ => σ = τ ∧ px E) := by
  refine mz_of (by decide) hl hj (Nat.le_of_ble_eq_true rfl) ?_
  intro p e s m args below meth c K hex hr
  unfold P_X9_letter at hp
  show Gz p l e r_X9_letter s m args below meth c D ad ty 4 0 0 (Ez below D ad ty nI0 (fun r τ => σ = τ ∧ post r) (fun E τ => σ = τ ∧ px E) args s 2 12) σ 0 [(0, .ref (ad 0)), (1, .int x1), (2, .int x2)] []
  refine gz_iload_n K dX9_letter_0 1 rfl ?_
  refine gz_callS K hex (c_X9_checkSlot K.2.2.2.2.2 K.2.2.1 hp) cf_X9_checkSlot zq3_104 dX9_letter_1 rfl rfl (Nat.le_of_ble_eq_true rfl) ⟨Nat.le_of_ble_eq_true rfl, Nat.le_of_ble_eq_true rfl⟩ ⟨Nat.le_of_ble_eq_true rfl, Nat.le_of_ble_eq_true rfl⟩ (Nat.le_of_ble_eq_true rfl) (Nat.le_of_ble_eq_true rfl) (fun _ _ h => ⟨h.1, h.2⟩) (fun _ τ hp => ?_)
  obtain ⟨rfl, hp⟩ := hp
  refine gz_norm (st' := []) (cells' := 1) (slots' := 6) rfl rfl rfl ?_
  refine gz_aload_n K dX9_letter_4 0 rfl ?_
  refine gz_get K (v := .ref (ad 17)) (by decide) (ce_0 _ _ _ _ _ _) rfl inz_X9 6 (by decide) zq1_208 rfl dX9_letter_5 ?_
  refine gz_iload_n K dX9_letter_8 1 rfl ?_
  refine gz_callV K hex (c_X4_word K.2.2.2.2.2 K.2.2.1 (by unfold isS; decide) hp) cf_X4_word zq3_191 (by decide) (ce_17 _ _ _ _ _ _) rfl dX9_letter_9 rfl rfl (Nat.le_of_ble_eq_true rfl) ⟨Nat.le_of_ble_eq_true rfl, Nat.le_of_ble_eq_true rfl⟩ ⟨Nat.le_of_ble_eq_true rfl, Nat.le_of_ble_eq_true rfl⟩ (Nat.le_of_ble_eq_true rfl) (Nat.le_of_ble_eq_true rfl) (fun _ _ h => h.elim) (fun r9 τ hp => ?_)
  obtain ⟨rfl, hp⟩ := hp
  obtain ⟨u9, hp⟩ := hp
  refine gz_norm (st' := [.ref (ad r9)]) (cells' := 1) (slots' := 6) rfl rfl rfl ?_
  refine gz_astore_n K [(3, .ref (ad r9)), (0, .ref (ad 0)), (1, .int x1), (2, .int x2)] dX9_letter_12 (by decide) rfl ?_
  refine gz_iload_n K dX9_letter_13 3 rfl ?_
  refine gz_if_lt K 25 dX9_letter_14 (by decide) (fun h => ?_) (fun h => ?_)
  · have hp := hp.1 h
    obtain ⟨sa, hsa⟩ := K.2.2.2.2.1.2.2.1 _ (List.mem_of_getElem? (l := zStr) (i := 12) rfl)
    exact gz_throw K hex false rfl xd_IndexOutOfBoundsException_0 xd_IndexOutOfBoundsException_1 xd_IndexOutOfBoundsException_2 xd_IndexOutOfBoundsException_5 (by decide) zq3_30 zq1_16 hsa xl_196 dX9_letter_25 dX9_letter_28 dX9_letter_29 dX9_letter_31 dX9_letter_34 (Nat.le_of_ble_eq_true rfl) (Nat.le_of_ble_eq_true rfl) (Nat.le_of_ble_eq_true rfl) (Nat.le_of_ble_eq_true rfl) ⟨rfl, hp⟩ (Nat.le_of_ble_eq_true rfl) (Nat.le_of_ble_eq_true rfl)
  · have hp := hp.2 h
    refine gz_iload_n K dX9_letter_17 3 rfl ?_
    refine gz_aload_n K dX9_letter_18 0 rfl ?_
    refine gz_callV K hex (c_X6_length K.2.2.2.2.2 K.2.2.1 u9 hp) cf_X6_length zq3_196 (ceW u9).1 ((ceW u9).2 _ _ _ _ _ _) rfl dX9_letter_19 rfl rfl (Nat.le_of_ble_eq_true rfl) ⟨Nat.le_of_ble_eq_true rfl, Nat.le_of_ble_eq_true rfl⟩ ⟨Nat.le_of_ble_eq_true rfl, Nat.le_of_ble_eq_true rfl⟩ (Nat.le_of_ble_eq_true rfl) (Nat.le_of_ble_eq_true rfl) (fun _ _ h => h.elim) (fun r19 τ hp => ?_)
    obtain ⟨rfl, hp⟩ := hp
    refine gz_norm (st' := [.int r19, .int x2]) (cells' := 1) (slots' := 6) rfl rfl rfl ?_
    refine gz_icmp_lt K 35 dX9_letter_22 (by decide) (fun h => ?_) (fun h => ?_)
    · have hp := hp.1 h
      refine gz_aload_n K dX9_letter_35 0 rfl ?_
      refine gz_iload_n K dX9_letter_36 3 rfl ?_
      refine gz_callV K hex (c_X6_at K.2.2.2.2.2 K.2.2.1 u9 hp) cf_X6_at zq4_12 (ceW u9).1 ((ceW u9).2 _ _ _ _ _ _) rfl dX9_letter_37 rfl rfl (Nat.le_of_ble_eq_true rfl) ⟨Nat.le_of_ble_eq_true rfl, Nat.le_of_ble_eq_true rfl⟩ ⟨Nat.le_of_ble_eq_true rfl, Nat.le_of_ble_eq_true rfl⟩ (Nat.le_of_ble_eq_true rfl) (Nat.le_of_ble_eq_true rfl) (fun _ _ h => h.elim) (fun r37 τ hp => ?_)
      obtain ⟨rfl, hp⟩ := hp
      refine gz_norm (st' := [.int r37]) (cells' := 1) (slots' := 6) rfl rfl rfl ?_
      exact gz_iret K hr ⟨rfl, hp⟩ dX9_letter_40 (Nat.le_of_ble_eq_true rfl) (Nat.le_of_ble_eq_true rfl)
    · have hp := hp.2 h
      obtain ⟨sa, hsa⟩ := K.2.2.2.2.1.2.2.1 _ (List.mem_of_getElem? (l := zStr) (i := 12) rfl)
      exact gz_throw K hex false rfl xd_IndexOutOfBoundsException_0 xd_IndexOutOfBoundsException_1 xd_IndexOutOfBoundsException_2 xd_IndexOutOfBoundsException_5 (by decide) zq3_30 zq1_16 hsa xl_196 dX9_letter_25 dX9_letter_28 dX9_letter_29 dX9_letter_31 dX9_letter_34 (Nat.le_of_ble_eq_true rfl) (Nat.le_of_ble_eq_true rfl) (Nat.le_of_ble_eq_true rfl) (Nat.le_of_ble_eq_true rfl) ⟨rfl, hp⟩ (Nat.le_of_ble_eq_true rfl) (Nat.le_of_ble_eq_true rfl)
set_option maxRecDepth 100000 in
set_option maxHeartbeats 4000000 in
theorem c_X9_invert {l : Launch} {D : va_G} {ad : Nat → Nat} {ty : Nat → ClassId} (hl : l.stackTraces = false) (hj : ∀ i j, i < 68 → j < 68 → ad i = ad j → i = j) {σ : Dz} {x1 : Int32} {x2 : Int32} {post : Int32 → Dz → Prop} {px : String → Dz → Prop} (hp : P_X9_invert σ x1 x2 post px) : Mz l D ad ty yX9_invert cX9_invert 3 (some .int) r_X9_invert nI0 σ [.ref (ad 0), .int x1, .int x2] post px := by
  refine mz_of (by decide) hl hj (Nat.le_of_ble_eq_true rfl) ?_
  intro p e s m args below meth c K hex hr
  unfold P_X9_invert at hp
  show Gz p l e r_X9_invert s m args below meth c D ad ty 3 0 0 (Ez below D ad ty nI0 post px args s 2 12) σ 0 [(0, .ref (ad 0)), (1, .int x1), (2, .int x2)] []
  refine gz_iload_n K dX9_invert_0 1 rfl ?_
  refine gz_callS K hex (c_X9_checkSlot K.2.2.2.2.2 K.2.2.1 hp) cf_X9_checkSlot zq3_104 dX9_invert_1 rfl rfl (Nat.le_of_ble_eq_true rfl) ⟨Nat.le_of_ble_eq_true rfl, Nat.le_of_ble_eq_true rfl⟩ ⟨Nat.le_of_ble_eq_true rfl, Nat.le_of_ble_eq_true rfl⟩ (Nat.le_of_ble_eq_true rfl) (Nat.le_of_ble_eq_true rfl) (fun _ _ h => h.1 ▸ h.2) (fun _ τ hp => ?_)
  obtain ⟨rfl, hp⟩ := hp
  refine gz_norm (st' := []) (cells' := 1) (slots' := 6) rfl rfl rfl ?_
  refine gz_iload_n K dX9_invert_4 2 rfl ?_
  refine gz_callS K hex (c_X9_checkSlot K.2.2.2.2.2 K.2.2.1 hp) cf_X9_checkSlot zq3_104 dX9_invert_5 rfl rfl (Nat.le_of_ble_eq_true rfl) ⟨Nat.le_of_ble_eq_true rfl, Nat.le_of_ble_eq_true rfl⟩ ⟨Nat.le_of_ble_eq_true rfl, Nat.le_of_ble_eq_true rfl⟩ (Nat.le_of_ble_eq_true rfl) (Nat.le_of_ble_eq_true rfl) (fun _ _ h => h.1 ▸ h.2) (fun _ τ hp => ?_)
  obtain ⟨rfl, hp⟩ := hp
  refine gz_norm (st' := []) (cells' := 2) (slots' := 12) rfl rfl rfl ?_
  refine gz_aload_n K dX9_invert_8 0 rfl ?_
  refine gz_get K (v := .ref (ad 39)) (by decide) (ce_0 _ _ _ _ _ _) rfl inz_X9 8 (by decide) zq1_210 rfl dX9_invert_9 ?_
  refine gz_callV K hex (c_X6_clear K.2.2.2.2.2 K.2.2.1 (by unfold isW; decide) hp) cf_X6_clear zq4_20 (by decide) (ce_39 _ _ _ _ _ _) rfl dX9_invert_12 rfl rfl (Nat.le_of_ble_eq_true rfl) ⟨Nat.le_of_ble_eq_true rfl, Nat.le_of_ble_eq_true rfl⟩ ⟨Nat.le_of_ble_eq_true rfl, Nat.le_of_ble_eq_true rfl⟩ (Nat.le_of_ble_eq_true rfl) (Nat.le_of_ble_eq_true rfl) (fun _ _ h => h.elim) (fun _ τ12 hp => ?_)
  refine gz_norm (st' := []) (cells' := 2) (slots' := 12) rfl rfl rfl ?_
  refine gz_aload_n K dX9_invert_15 0 rfl ?_
  refine gz_get K (v := .ref (ad 39)) (by decide) (ce_0 _ _ _ _ _ _) rfl inz_X9 8 (by decide) zq1_210 rfl dX9_invert_16 ?_
  refine gz_aload_n K dX9_invert_19 0 rfl ?_
  refine gz_get K (v := .ref (ad 17)) (by decide) (ce_0 _ _ _ _ _ _) rfl inz_X9 6 (by decide) zq1_208 rfl dX9_invert_20 ?_
  refine gz_iload_n K dX9_invert_23 2 rfl ?_
  refine gz_callV K hex (c_X4_word K.2.2.2.2.2 K.2.2.1 (by unfold isS; decide) hp) cf_X4_word zq3_191 (by decide) (ce_17 _ _ _ _ _ _) rfl dX9_invert_24 rfl rfl (Nat.le_of_ble_eq_true rfl) ⟨Nat.le_of_ble_eq_true rfl, Nat.le_of_ble_eq_true rfl⟩ ⟨Nat.le_of_ble_eq_true rfl, Nat.le_of_ble_eq_true rfl⟩ (Nat.le_of_ble_eq_true rfl) (Nat.le_of_ble_eq_true rfl) (fun _ _ h => h.elim) (fun r24 τ hp => ?_)
  obtain ⟨rfl, hp⟩ := hp
  obtain ⟨u24, hp⟩ := hp
  refine gz_norm (st' := [.ref (ad r24), .ref (ad 39)]) (cells' := 2) (slots' := 12) rfl rfl rfl ?_
  refine gz_callV K hex (c_X6_addInverseOf K.2.2.2.2.2 K.2.2.1 (by unfold isW; decide) u24 hp) cf_X6_addInverseOf zq4_21 (by decide) (ce_39 _ _ _ _ _ _) rfl dX9_invert_27 rfl rfl (Nat.le_of_ble_eq_true rfl) ⟨Nat.le_of_ble_eq_true rfl, Nat.le_of_ble_eq_true rfl⟩ ⟨Nat.le_of_ble_eq_true rfl, Nat.le_of_ble_eq_true rfl⟩ (Nat.le_of_ble_eq_true rfl) (Nat.le_of_ble_eq_true rfl) (fun _ _ h => h.elim) (fun r27 τ27 hp => ?_)
  refine gz_norm (st' := [.int r27]) (cells' := 2) (slots' := 12) rfl rfl rfl ?_
  refine gz_pop K dX9_invert_30 rfl ?_
  refine gz_aload_n K dX9_invert_31 0 rfl ?_
  refine gz_iload_n K dX9_invert_32 1 rfl ?_
  refine gz_callV K hex (c_X9_keepDraft K.2.2.2.2.2 K.2.2.1 hp) cf_X9_keepDraft zq3_187 (by decide) (ce_0 _ _ _ _ _ _) rfl dX9_invert_33 rfl rfl (Nat.le_of_ble_eq_true rfl) ⟨Nat.le_of_ble_eq_true rfl, Nat.le_of_ble_eq_true rfl⟩ ⟨Nat.le_of_ble_eq_true rfl, Nat.le_of_ble_eq_true rfl⟩ (Nat.le_of_ble_eq_true rfl) (Nat.le_of_ble_eq_true rfl) (fun _ _ h => h.elim) (fun r33 τ33 hp => ?_)
  refine gz_norm (st' := [.int r33]) (cells' := 2) (slots' := 12) rfl rfl rfl ?_
  exact gz_iret K hr hp dX9_invert_36 (Nat.le_of_ble_eq_true rfl) (Nat.le_of_ble_eq_true rfl)
set_option maxRecDepth 100000 in
set_option maxHeartbeats 4000000 in
theorem c_X9_conjugate {l : Launch} {D : va_G} {ad : Nat → Nat} {ty : Nat → ClassId} (hl : l.stackTraces = false) (hj : ∀ i j, i < 68 → j < 68 → ad i = ad j → i = j) {σ : Dz} {x1 : Int32} {x2 : Int32} {x3 : Int32} {post : Int32 → Dz → Prop} {px : String → Dz → Prop} (hp : P_X9_conjugate σ x1 x2 x3 post px) : Mz l D ad ty yX9_conjugate cX9_conjugate 5 (some .int) r_X9_conjugate nI0 σ [.ref (ad 0), .int x1, .int x2, .int x3] post px := by
  refine mz_of (by decide) hl hj (Nat.le_of_ble_eq_true rfl) ?_
  intro p e s m args below meth c K hex hr
  unfold P_X9_conjugate at hp
  have bb_78 : ∀ (σ : Dz) (y1 : Int32) (z0 : Int32) , B_X9_conjugate_78 post px  σ y1 z0 → Gz p l e r_X9_conjugate s m args below meth c D ad ty 5 3 18 (Ez below D ad ty nI0 post px args s 4 24) σ 78 [(0, .ref (ad 0)), (1, .int y1)] [.int z0] := by
    intro σ y1 z0 hp
    unfold B_X9_conjugate_78 at hp
    refine gz_istore K [(4, .int z0), (0, .ref (ad 0)), (1, .int y1)] dX9_conjugate_78 (by decide) rfl ?_
    refine gz_iload K dX9_conjugate_80 0 rfl ?_
    refine gz_if_ne K 95 dX9_conjugate_82 (by decide) (fun h => ?_) (fun h => ?_)
    · have hp := hp.1 h
      refine gz_aload_n K dX9_conjugate_95 1 rfl ?_
      refine gz_iload_n K dX9_conjugate_96 2 rfl ?_
      refine gz_callV K hex (c_X9_keepDraft K.2.2.2.2.2 K.2.2.1 hp) cf_X9_keepDraft zq3_187 (by decide) (ce_0 _ _ _ _ _ _) rfl dX9_conjugate_97 rfl rfl (Nat.le_of_ble_eq_true rfl) ⟨Nat.le_of_ble_eq_true rfl, Nat.le_of_ble_eq_true rfl⟩ ⟨Nat.le_of_ble_eq_true rfl, Nat.le_of_ble_eq_true rfl⟩ (Nat.le_of_ble_eq_true rfl) (Nat.le_of_ble_eq_true rfl) (fun _ _ h => h.elim) (fun r97 τ97 hp => ?_)
      refine gz_norm (st' := [.int r97]) (cells' := 3) (slots' := 18) rfl rfl rfl ?_
      exact gz_iret K hr hp dX9_conjugate_100 (Nat.le_of_ble_eq_true rfl) (Nat.le_of_ble_eq_true rfl)
    · have hp := hp.2 h
      obtain ⟨sa, hsa⟩ := K.2.2.2.2.1.2.2.1 _ (List.mem_of_getElem? (l := zStr) (i := 13) rfl)
      exact gz_throw K hex false rfl xd_ArithmeticException_0 xd_ArithmeticException_1 xd_ArithmeticException_2 xd_ArithmeticException_5 (by decide) zq3_184 zq1_20 hsa xl_162 dX9_conjugate_85 dX9_conjugate_88 dX9_conjugate_89 dX9_conjugate_91 dX9_conjugate_94 (Nat.le_of_ble_eq_true rfl) (Nat.le_of_ble_eq_true rfl) (Nat.le_of_ble_eq_true rfl) (Nat.le_of_ble_eq_true rfl) hp (Nat.le_of_ble_eq_true rfl) (Nat.le_of_ble_eq_true rfl)
  have bb_77 : ∀ (σ : Dz) (y1 : Int32) , B_X9_conjugate_77 post px  σ y1 → Gz p l e r_X9_conjugate s m args below meth c D ad ty 5 3 18 (Ez below D ad ty nI0 post px args s 4 24) σ 77 [(0, .ref (ad 0)), (1, .int y1)] [] := by
    intro σ y1 hp
    unfold B_X9_conjugate_77 at hp
    refine gz_iconst K (v := (0 : Int32)) dX9_conjugate_77 (by decide) ?_
    exact bb_78 σ y1 (0 : Int32)  hp
  show Gz p l e r_X9_conjugate s m args below meth c D ad ty 5 0 0 (Ez below D ad ty nI0 post px args s 4 24) σ 0 [(0, .ref (ad 0)), (1, .int x1), (2, .int x2), (3, .int x3)] []
  refine gz_iload_n K dX9_conjugate_0 1 rfl ?_
  refine gz_callS K hex (c_X9_checkSlot K.2.2.2.2.2 K.2.2.1 hp) cf_X9_checkSlot zq3_104 dX9_conjugate_1 rfl rfl (Nat.le_of_ble_eq_true rfl) ⟨Nat.le_of_ble_eq_true rfl, Nat.le_of_ble_eq_true rfl⟩ ⟨Nat.le_of_ble_eq_true rfl, Nat.le_of_ble_eq_true rfl⟩ (Nat.le_of_ble_eq_true rfl) (Nat.le_of_ble_eq_true rfl) (fun _ _ h => h.1 ▸ h.2) (fun _ τ hp => ?_)
  obtain ⟨rfl, hp⟩ := hp
  refine gz_norm (st' := []) (cells' := 1) (slots' := 6) rfl rfl rfl ?_
  refine gz_iload_n K dX9_conjugate_4 2 rfl ?_
  refine gz_callS K hex (c_X9_checkSlot K.2.2.2.2.2 K.2.2.1 hp) cf_X9_checkSlot zq3_104 dX9_conjugate_5 rfl rfl (Nat.le_of_ble_eq_true rfl) ⟨Nat.le_of_ble_eq_true rfl, Nat.le_of_ble_eq_true rfl⟩ ⟨Nat.le_of_ble_eq_true rfl, Nat.le_of_ble_eq_true rfl⟩ (Nat.le_of_ble_eq_true rfl) (Nat.le_of_ble_eq_true rfl) (fun _ _ h => h.1 ▸ h.2) (fun _ τ hp => ?_)
  obtain ⟨rfl, hp⟩ := hp
  refine gz_norm (st' := []) (cells' := 2) (slots' := 12) rfl rfl rfl ?_
  refine gz_iload_n K dX9_conjugate_8 3 rfl ?_
  refine gz_callS K hex (c_X9_checkSlot K.2.2.2.2.2 K.2.2.1 hp) cf_X9_checkSlot zq3_104 dX9_conjugate_9 rfl rfl (Nat.le_of_ble_eq_true rfl) ⟨Nat.le_of_ble_eq_true rfl, Nat.le_of_ble_eq_true rfl⟩ ⟨Nat.le_of_ble_eq_true rfl, Nat.le_of_ble_eq_true rfl⟩ (Nat.le_of_ble_eq_true rfl) (Nat.le_of_ble_eq_true rfl) (fun _ _ h => h.1 ▸ h.2) (fun _ τ hp => ?_)
  obtain ⟨rfl, hp⟩ := hp
  refine gz_norm (st' := []) (cells' := 3) (slots' := 18) rfl rfl rfl ?_
  refine gz_aload_n K dX9_conjugate_12 0 rfl ?_
  refine gz_get K (v := .ref (ad 39)) (by decide) (ce_0 _ _ _ _ _ _) rfl inz_X9 8 (by decide) zq1_210 rfl dX9_conjugate_13 ?_
  refine gz_callV K hex (c_X6_clear K.2.2.2.2.2 K.2.2.1 (by unfold isW; decide) hp) cf_X6_clear zq4_20 (by decide) (ce_39 _ _ _ _ _ _) rfl dX9_conjugate_16 rfl rfl (Nat.le_of_ble_eq_true rfl) ⟨Nat.le_of_ble_eq_true rfl, Nat.le_of_ble_eq_true rfl⟩ ⟨Nat.le_of_ble_eq_true rfl, Nat.le_of_ble_eq_true rfl⟩ (Nat.le_of_ble_eq_true rfl) (Nat.le_of_ble_eq_true rfl) (fun _ _ h => h.elim) (fun _ τ16 hp => ?_)
  refine gz_norm (st' := []) (cells' := 3) (slots' := 18) rfl rfl rfl ?_
  refine gz_aload_n K dX9_conjugate_19 0 rfl ?_
  refine gz_get K (v := .ref (ad 39)) (by decide) (ce_0 _ _ _ _ _ _) rfl inz_X9 8 (by decide) zq1_210 rfl dX9_conjugate_20 ?_
  refine gz_aload_n K dX9_conjugate_23 0 rfl ?_
  refine gz_get K (v := .ref (ad 17)) (by decide) (ce_0 _ _ _ _ _ _) rfl inz_X9 6 (by decide) zq1_208 rfl dX9_conjugate_24 ?_
  refine gz_iload_n K dX9_conjugate_27 3 rfl ?_
  refine gz_callV K hex (c_X4_word K.2.2.2.2.2 K.2.2.1 (by unfold isS; decide) hp) cf_X4_word zq3_191 (by decide) (ce_17 _ _ _ _ _ _) rfl dX9_conjugate_28 rfl rfl (Nat.le_of_ble_eq_true rfl) ⟨Nat.le_of_ble_eq_true rfl, Nat.le_of_ble_eq_true rfl⟩ ⟨Nat.le_of_ble_eq_true rfl, Nat.le_of_ble_eq_true rfl⟩ (Nat.le_of_ble_eq_true rfl) (Nat.le_of_ble_eq_true rfl) (fun _ _ h => h.elim) (fun r28 τ hp => ?_)
  obtain ⟨rfl, hp⟩ := hp
  obtain ⟨u28, hp⟩ := hp
  refine gz_norm (st' := [.ref (ad r28), .ref (ad 39)]) (cells' := 3) (slots' := 18) rfl rfl rfl ?_
  refine gz_callV K hex (c_X6_addInverseOf K.2.2.2.2.2 K.2.2.1 (by unfold isW; decide) u28 hp) cf_X6_addInverseOf zq4_21 (by decide) (ce_39 _ _ _ _ _ _) rfl dX9_conjugate_31 rfl rfl (Nat.le_of_ble_eq_true rfl) ⟨Nat.le_of_ble_eq_true rfl, Nat.le_of_ble_eq_true rfl⟩ ⟨Nat.le_of_ble_eq_true rfl, Nat.le_of_ble_eq_true rfl⟩ (Nat.le_of_ble_eq_true rfl) (Nat.le_of_ble_eq_true rfl) (fun _ _ h => h.elim) (fun r31 τ31 hp => ?_)
  refine gz_norm (st' := [.int r31]) (cells' := 3) (slots' := 18) rfl rfl rfl ?_
  refine gz_if_eq K 77 dX9_conjugate_34 (by decide) (fun h => ?_) (fun h => ?_)
  · have hp := hp.1 h
    refine gz_sub [0, 1] rfl ?_
    exact bb_77 τ31 x1  hp
  · have hp := hp.2 h
    refine gz_aload_n K dX9_conjugate_37 0 rfl ?_
    refine gz_get K (v := .ref (ad 39)) (by decide) (ce_0 _ _ _ _ _ _) rfl inz_X9 8 (by decide) zq1_210 rfl dX9_conjugate_38 ?_
    refine gz_aload_n K dX9_conjugate_41 0 rfl ?_
    refine gz_get K (v := .ref (ad 17)) (by decide) (ce_0 _ _ _ _ _ _) rfl inz_X9 6 (by decide) zq1_208 rfl dX9_conjugate_42 ?_
    refine gz_iload_n K dX9_conjugate_45 2 rfl ?_
    refine gz_callV K hex (c_X4_word K.2.2.2.2.2 K.2.2.1 (by unfold isS; decide) hp) cf_X4_word zq3_191 (by decide) (ce_17 _ _ _ _ _ _) rfl dX9_conjugate_46 rfl rfl (Nat.le_of_ble_eq_true rfl) ⟨Nat.le_of_ble_eq_true rfl, Nat.le_of_ble_eq_true rfl⟩ ⟨Nat.le_of_ble_eq_true rfl, Nat.le_of_ble_eq_true rfl⟩ (Nat.le_of_ble_eq_true rfl) (Nat.le_of_ble_eq_true rfl) (fun _ _ h => h.elim) (fun r46 τ hp => ?_)
    obtain ⟨rfl, hp⟩ := hp
    obtain ⟨u46, hp⟩ := hp
    refine gz_norm (st' := [.ref (ad r46), .ref (ad 39)]) (cells' := 3) (slots' := 18) rfl rfl rfl ?_
    refine gz_callV K hex (c_X6_addAll K.2.2.2.2.2 K.2.2.1 (by unfold isW; decide) u46 hp) cf_X6_addAll zq4_32 (by decide) (ce_39 _ _ _ _ _ _) rfl dX9_conjugate_49 rfl rfl (Nat.le_of_ble_eq_true rfl) ⟨Nat.le_of_ble_eq_true rfl, Nat.le_of_ble_eq_true rfl⟩ ⟨Nat.le_of_ble_eq_true rfl, Nat.le_of_ble_eq_true rfl⟩ (Nat.le_of_ble_eq_true rfl) (Nat.le_of_ble_eq_true rfl) (fun _ _ h => h.elim) (fun r49 τ49 hp => ?_)
    refine gz_norm (st' := [.int r49]) (cells' := 3) (slots' := 18) rfl rfl rfl ?_
    refine gz_if_eq K 77 dX9_conjugate_52 (by decide) (fun h => ?_) (fun h => ?_)
    · have hp := hp.1 h
      refine gz_sub [0, 1] rfl ?_
      exact bb_77 τ49 x1  hp
    · have hp := hp.2 h
      refine gz_aload_n K dX9_conjugate_55 0 rfl ?_
      refine gz_get K (v := .ref (ad 39)) (by decide) (ce_0 _ _ _ _ _ _) rfl inz_X9 8 (by decide) zq1_210 rfl dX9_conjugate_56 ?_
      refine gz_aload_n K dX9_conjugate_59 0 rfl ?_
      refine gz_get K (v := .ref (ad 17)) (by decide) (ce_0 _ _ _ _ _ _) rfl inz_X9 6 (by decide) zq1_208 rfl dX9_conjugate_60 ?_
      refine gz_iload_n K dX9_conjugate_63 3 rfl ?_
      refine gz_callV K hex (c_X4_word K.2.2.2.2.2 K.2.2.1 (by unfold isS; decide) hp) cf_X4_word zq3_191 (by decide) (ce_17 _ _ _ _ _ _) rfl dX9_conjugate_64 rfl rfl (Nat.le_of_ble_eq_true rfl) ⟨Nat.le_of_ble_eq_true rfl, Nat.le_of_ble_eq_true rfl⟩ ⟨Nat.le_of_ble_eq_true rfl, Nat.le_of_ble_eq_true rfl⟩ (Nat.le_of_ble_eq_true rfl) (Nat.le_of_ble_eq_true rfl) (fun _ _ h => h.elim) (fun r64 τ hp => ?_)
      obtain ⟨rfl, hp⟩ := hp
      obtain ⟨u64, hp⟩ := hp
      refine gz_norm (st' := [.ref (ad r64), .ref (ad 39)]) (cells' := 3) (slots' := 18) rfl rfl rfl ?_
      refine gz_callV K hex (c_X6_addAll K.2.2.2.2.2 K.2.2.1 (by unfold isW; decide) u64 hp) cf_X6_addAll zq4_32 (by decide) (ce_39 _ _ _ _ _ _) rfl dX9_conjugate_67 rfl rfl (Nat.le_of_ble_eq_true rfl) ⟨Nat.le_of_ble_eq_true rfl, Nat.le_of_ble_eq_true rfl⟩ ⟨Nat.le_of_ble_eq_true rfl, Nat.le_of_ble_eq_true rfl⟩ (Nat.le_of_ble_eq_true rfl) (Nat.le_of_ble_eq_true rfl) (fun _ _ h => h.elim) (fun r67 τ67 hp => ?_)
      refine gz_norm (st' := [.int r67]) (cells' := 3) (slots' := 18) rfl rfl rfl ?_
      refine gz_if_eq K 77 dX9_conjugate_70 (by decide) (fun h => ?_) (fun h => ?_)
      · have hp := hp.1 h
        refine gz_sub [0, 1] rfl ?_
        exact bb_77 τ67 x1  hp
      · have hp := hp.2 h
        refine gz_iconst K (v := (1 : Int32)) dX9_conjugate_73 (by decide) ?_
        refine gz_goto K 78 dX9_conjugate_74 (by decide) ?_
        refine gz_sub [0, 1] rfl ?_
        exact bb_78 τ67 x1 (1 : Int32)  hp
set_option maxRecDepth 100000 in
set_option maxHeartbeats 4000000 in
theorem c_X9_commutator {l : Launch} {D : va_G} {ad : Nat → Nat} {ty : Nat → ClassId} (hl : l.stackTraces = false) (hj : ∀ i j, i < 68 → j < 68 → ad i = ad j → i = j) {σ : Dz} {x1 : Int32} {x2 : Int32} {x3 : Int32} {post : Int32 → Dz → Prop} {px : String → Dz → Prop} (hp : P_X9_commutator σ x1 x2 x3 post px) : Mz l D ad ty yX9_commutator cX9_commutator 5 (some .int) r_X9_commutator nI0 σ [.ref (ad 0), .int x1, .int x2, .int x3] post px := by
  refine mz_of (by decide) hl hj (Nat.le_of_ble_eq_true rfl) ?_
  intro p e s m args below meth c K hex hr
  unfold P_X9_commutator at hp
  have bb_96 : ∀ (σ : Dz) (y1 : Int32) (z0 : Int32) , B_X9_commutator_96 post px  σ y1 z0 → Gz p l e r_X9_commutator s m args below meth c D ad ty 5 3 18 (Ez below D ad ty nI0 post px args s 4 24) σ 96 [(0, .ref (ad 0)), (1, .int y1)] [.int z0] := by
    intro σ y1 z0 hp
    unfold B_X9_commutator_96 at hp
    refine gz_istore K [(4, .int z0), (0, .ref (ad 0)), (1, .int y1)] dX9_commutator_96 (by decide) rfl ?_
    refine gz_iload K dX9_commutator_98 0 rfl ?_
    refine gz_if_ne K 113 dX9_commutator_100 (by decide) (fun h => ?_) (fun h => ?_)
    · have hp := hp.1 h
      refine gz_aload_n K dX9_commutator_113 1 rfl ?_
      refine gz_iload_n K dX9_commutator_114 2 rfl ?_
      refine gz_callV K hex (c_X9_keepDraft K.2.2.2.2.2 K.2.2.1 hp) cf_X9_keepDraft zq3_187 (by decide) (ce_0 _ _ _ _ _ _) rfl dX9_commutator_115 rfl rfl (Nat.le_of_ble_eq_true rfl) ⟨Nat.le_of_ble_eq_true rfl, Nat.le_of_ble_eq_true rfl⟩ ⟨Nat.le_of_ble_eq_true rfl, Nat.le_of_ble_eq_true rfl⟩ (Nat.le_of_ble_eq_true rfl) (Nat.le_of_ble_eq_true rfl) (fun _ _ h => h.elim) (fun r115 τ115 hp => ?_)
      refine gz_norm (st' := [.int r115]) (cells' := 3) (slots' := 18) rfl rfl rfl ?_
      exact gz_iret K hr hp dX9_commutator_118 (Nat.le_of_ble_eq_true rfl) (Nat.le_of_ble_eq_true rfl)
    · have hp := hp.2 h
      obtain ⟨sa, hsa⟩ := K.2.2.2.2.1.2.2.1 _ (List.mem_of_getElem? (l := zStr) (i := 14) rfl)
      exact gz_throw K hex false rfl xd_ArithmeticException_0 xd_ArithmeticException_1 xd_ArithmeticException_2 xd_ArithmeticException_5 (by decide) zq3_184 zq1_20 hsa xl_162 dX9_commutator_103 dX9_commutator_106 dX9_commutator_107 dX9_commutator_109 dX9_commutator_112 (Nat.le_of_ble_eq_true rfl) (Nat.le_of_ble_eq_true rfl) (Nat.le_of_ble_eq_true rfl) (Nat.le_of_ble_eq_true rfl) hp (Nat.le_of_ble_eq_true rfl) (Nat.le_of_ble_eq_true rfl)
  have bb_95 : ∀ (σ : Dz) (y1 : Int32) , B_X9_commutator_95 post px  σ y1 → Gz p l e r_X9_commutator s m args below meth c D ad ty 5 3 18 (Ez below D ad ty nI0 post px args s 4 24) σ 95 [(0, .ref (ad 0)), (1, .int y1)] [] := by
    intro σ y1 hp
    unfold B_X9_commutator_95 at hp
    refine gz_iconst K (v := (0 : Int32)) dX9_commutator_95 (by decide) ?_
    exact bb_96 σ y1 (0 : Int32)  hp
  show Gz p l e r_X9_commutator s m args below meth c D ad ty 5 0 0 (Ez below D ad ty nI0 post px args s 4 24) σ 0 [(0, .ref (ad 0)), (1, .int x1), (2, .int x2), (3, .int x3)] []
  refine gz_iload_n K dX9_commutator_0 1 rfl ?_
  refine gz_callS K hex (c_X9_checkSlot K.2.2.2.2.2 K.2.2.1 hp) cf_X9_checkSlot zq3_104 dX9_commutator_1 rfl rfl (Nat.le_of_ble_eq_true rfl) ⟨Nat.le_of_ble_eq_true rfl, Nat.le_of_ble_eq_true rfl⟩ ⟨Nat.le_of_ble_eq_true rfl, Nat.le_of_ble_eq_true rfl⟩ (Nat.le_of_ble_eq_true rfl) (Nat.le_of_ble_eq_true rfl) (fun _ _ h => h.1 ▸ h.2) (fun _ τ hp => ?_)
  obtain ⟨rfl, hp⟩ := hp
  refine gz_norm (st' := []) (cells' := 1) (slots' := 6) rfl rfl rfl ?_
  refine gz_iload_n K dX9_commutator_4 2 rfl ?_
  refine gz_callS K hex (c_X9_checkSlot K.2.2.2.2.2 K.2.2.1 hp) cf_X9_checkSlot zq3_104 dX9_commutator_5 rfl rfl (Nat.le_of_ble_eq_true rfl) ⟨Nat.le_of_ble_eq_true rfl, Nat.le_of_ble_eq_true rfl⟩ ⟨Nat.le_of_ble_eq_true rfl, Nat.le_of_ble_eq_true rfl⟩ (Nat.le_of_ble_eq_true rfl) (Nat.le_of_ble_eq_true rfl) (fun _ _ h => h.1 ▸ h.2) (fun _ τ hp => ?_)
  obtain ⟨rfl, hp⟩ := hp
  refine gz_norm (st' := []) (cells' := 2) (slots' := 12) rfl rfl rfl ?_
  refine gz_iload_n K dX9_commutator_8 3 rfl ?_
  refine gz_callS K hex (c_X9_checkSlot K.2.2.2.2.2 K.2.2.1 hp) cf_X9_checkSlot zq3_104 dX9_commutator_9 rfl rfl (Nat.le_of_ble_eq_true rfl) ⟨Nat.le_of_ble_eq_true rfl, Nat.le_of_ble_eq_true rfl⟩ ⟨Nat.le_of_ble_eq_true rfl, Nat.le_of_ble_eq_true rfl⟩ (Nat.le_of_ble_eq_true rfl) (Nat.le_of_ble_eq_true rfl) (fun _ _ h => h.1 ▸ h.2) (fun _ τ hp => ?_)
  obtain ⟨rfl, hp⟩ := hp
  refine gz_norm (st' := []) (cells' := 3) (slots' := 18) rfl rfl rfl ?_
  refine gz_aload_n K dX9_commutator_12 0 rfl ?_
  refine gz_get K (v := .ref (ad 39)) (by decide) (ce_0 _ _ _ _ _ _) rfl inz_X9 8 (by decide) zq1_210 rfl dX9_commutator_13 ?_
  refine gz_callV K hex (c_X6_clear K.2.2.2.2.2 K.2.2.1 (by unfold isW; decide) hp) cf_X6_clear zq4_20 (by decide) (ce_39 _ _ _ _ _ _) rfl dX9_commutator_16 rfl rfl (Nat.le_of_ble_eq_true rfl) ⟨Nat.le_of_ble_eq_true rfl, Nat.le_of_ble_eq_true rfl⟩ ⟨Nat.le_of_ble_eq_true rfl, Nat.le_of_ble_eq_true rfl⟩ (Nat.le_of_ble_eq_true rfl) (Nat.le_of_ble_eq_true rfl) (fun _ _ h => h.elim) (fun _ τ16 hp => ?_)
  refine gz_norm (st' := []) (cells' := 3) (slots' := 18) rfl rfl rfl ?_
  refine gz_aload_n K dX9_commutator_19 0 rfl ?_
  refine gz_get K (v := .ref (ad 39)) (by decide) (ce_0 _ _ _ _ _ _) rfl inz_X9 8 (by decide) zq1_210 rfl dX9_commutator_20 ?_
  refine gz_aload_n K dX9_commutator_23 0 rfl ?_
  refine gz_get K (v := .ref (ad 17)) (by decide) (ce_0 _ _ _ _ _ _) rfl inz_X9 6 (by decide) zq1_208 rfl dX9_commutator_24 ?_
  refine gz_iload_n K dX9_commutator_27 2 rfl ?_
  refine gz_callV K hex (c_X4_word K.2.2.2.2.2 K.2.2.1 (by unfold isS; decide) hp) cf_X4_word zq3_191 (by decide) (ce_17 _ _ _ _ _ _) rfl dX9_commutator_28 rfl rfl (Nat.le_of_ble_eq_true rfl) ⟨Nat.le_of_ble_eq_true rfl, Nat.le_of_ble_eq_true rfl⟩ ⟨Nat.le_of_ble_eq_true rfl, Nat.le_of_ble_eq_true rfl⟩ (Nat.le_of_ble_eq_true rfl) (Nat.le_of_ble_eq_true rfl) (fun _ _ h => h.elim) (fun r28 τ hp => ?_)
  obtain ⟨rfl, hp⟩ := hp
  obtain ⟨u28, hp⟩ := hp
  refine gz_norm (st' := [.ref (ad r28), .ref (ad 39)]) (cells' := 3) (slots' := 18) rfl rfl rfl ?_
  refine gz_callV K hex (c_X6_addAll K.2.2.2.2.2 K.2.2.1 (by unfold isW; decide) u28 hp) cf_X6_addAll zq4_32 (by decide) (ce_39 _ _ _ _ _ _) rfl dX9_commutator_31 rfl rfl (Nat.le_of_ble_eq_true rfl) ⟨Nat.le_of_ble_eq_true rfl, Nat.le_of_ble_eq_true rfl⟩ ⟨Nat.le_of_ble_eq_true rfl, Nat.le_of_ble_eq_true rfl⟩ (Nat.le_of_ble_eq_true rfl) (Nat.le_of_ble_eq_true rfl) (fun _ _ h => h.elim) (fun r31 τ31 hp => ?_)
  refine gz_norm (st' := [.int r31]) (cells' := 3) (slots' := 18) rfl rfl rfl ?_
  refine gz_if_eq K 95 dX9_commutator_34 (by decide) (fun h => ?_) (fun h => ?_)
  · have hp := hp.1 h
    refine gz_sub [0, 1] rfl ?_
    exact bb_95 τ31 x1  hp
  · have hp := hp.2 h
    refine gz_aload_n K dX9_commutator_37 0 rfl ?_
    refine gz_get K (v := .ref (ad 39)) (by decide) (ce_0 _ _ _ _ _ _) rfl inz_X9 8 (by decide) zq1_210 rfl dX9_commutator_38 ?_
    refine gz_aload_n K dX9_commutator_41 0 rfl ?_
    refine gz_get K (v := .ref (ad 17)) (by decide) (ce_0 _ _ _ _ _ _) rfl inz_X9 6 (by decide) zq1_208 rfl dX9_commutator_42 ?_
    refine gz_iload_n K dX9_commutator_45 3 rfl ?_
    refine gz_callV K hex (c_X4_word K.2.2.2.2.2 K.2.2.1 (by unfold isS; decide) hp) cf_X4_word zq3_191 (by decide) (ce_17 _ _ _ _ _ _) rfl dX9_commutator_46 rfl rfl (Nat.le_of_ble_eq_true rfl) ⟨Nat.le_of_ble_eq_true rfl, Nat.le_of_ble_eq_true rfl⟩ ⟨Nat.le_of_ble_eq_true rfl, Nat.le_of_ble_eq_true rfl⟩ (Nat.le_of_ble_eq_true rfl) (Nat.le_of_ble_eq_true rfl) (fun _ _ h => h.elim) (fun r46 τ hp => ?_)
    obtain ⟨rfl, hp⟩ := hp
    obtain ⟨u46, hp⟩ := hp
    refine gz_norm (st' := [.ref (ad r46), .ref (ad 39)]) (cells' := 3) (slots' := 18) rfl rfl rfl ?_
    refine gz_callV K hex (c_X6_addAll K.2.2.2.2.2 K.2.2.1 (by unfold isW; decide) u46 hp) cf_X6_addAll zq4_32 (by decide) (ce_39 _ _ _ _ _ _) rfl dX9_commutator_49 rfl rfl (Nat.le_of_ble_eq_true rfl) ⟨Nat.le_of_ble_eq_true rfl, Nat.le_of_ble_eq_true rfl⟩ ⟨Nat.le_of_ble_eq_true rfl, Nat.le_of_ble_eq_true rfl⟩ (Nat.le_of_ble_eq_true rfl) (Nat.le_of_ble_eq_true rfl) (fun _ _ h => h.elim) (fun r49 τ49 hp => ?_)
    refine gz_norm (st' := [.int r49]) (cells' := 3) (slots' := 18) rfl rfl rfl ?_
    refine gz_if_eq K 95 dX9_commutator_52 (by decide) (fun h => ?_) (fun h => ?_)
    · have hp := hp.1 h
      refine gz_sub [0, 1] rfl ?_
      exact bb_95 τ49 x1  hp
    · have hp := hp.2 h
      refine gz_aload_n K dX9_commutator_55 0 rfl ?_
      refine gz_get K (v := .ref (ad 39)) (by decide) (ce_0 _ _ _ _ _ _) rfl inz_X9 8 (by decide) zq1_210 rfl dX9_commutator_56 ?_
      refine gz_aload_n K dX9_commutator_59 0 rfl ?_
      refine gz_get K (v := .ref (ad 17)) (by decide) (ce_0 _ _ _ _ _ _) rfl inz_X9 6 (by decide) zq1_208 rfl dX9_commutator_60 ?_
      refine gz_iload_n K dX9_commutator_63 2 rfl ?_
      refine gz_callV K hex (c_X4_word K.2.2.2.2.2 K.2.2.1 (by unfold isS; decide) hp) cf_X4_word zq3_191 (by decide) (ce_17 _ _ _ _ _ _) rfl dX9_commutator_64 rfl rfl (Nat.le_of_ble_eq_true rfl) ⟨Nat.le_of_ble_eq_true rfl, Nat.le_of_ble_eq_true rfl⟩ ⟨Nat.le_of_ble_eq_true rfl, Nat.le_of_ble_eq_true rfl⟩ (Nat.le_of_ble_eq_true rfl) (Nat.le_of_ble_eq_true rfl) (fun _ _ h => h.elim) (fun r64 τ hp => ?_)
      obtain ⟨rfl, hp⟩ := hp
      obtain ⟨u64, hp⟩ := hp
      refine gz_norm (st' := [.ref (ad r64), .ref (ad 39)]) (cells' := 3) (slots' := 18) rfl rfl rfl ?_
      refine gz_callV K hex (c_X6_addInverseOf K.2.2.2.2.2 K.2.2.1 (by unfold isW; decide) u64 hp) cf_X6_addInverseOf zq4_21 (by decide) (ce_39 _ _ _ _ _ _) rfl dX9_commutator_67 rfl rfl (Nat.le_of_ble_eq_true rfl) ⟨Nat.le_of_ble_eq_true rfl, Nat.le_of_ble_eq_true rfl⟩ ⟨Nat.le_of_ble_eq_true rfl, Nat.le_of_ble_eq_true rfl⟩ (Nat.le_of_ble_eq_true rfl) (Nat.le_of_ble_eq_true rfl) (fun _ _ h => h.elim) (fun r67 τ67 hp => ?_)
      refine gz_norm (st' := [.int r67]) (cells' := 3) (slots' := 18) rfl rfl rfl ?_
      refine gz_if_eq K 95 dX9_commutator_70 (by decide) (fun h => ?_) (fun h => ?_)
      · have hp := hp.1 h
        refine gz_sub [0, 1] rfl ?_
        exact bb_95 τ67 x1  hp
      · have hp := hp.2 h
        refine gz_aload_n K dX9_commutator_73 0 rfl ?_
        refine gz_get K (v := .ref (ad 39)) (by decide) (ce_0 _ _ _ _ _ _) rfl inz_X9 8 (by decide) zq1_210 rfl dX9_commutator_74 ?_
        refine gz_aload_n K dX9_commutator_77 0 rfl ?_
        refine gz_get K (v := .ref (ad 17)) (by decide) (ce_0 _ _ _ _ _ _) rfl inz_X9 6 (by decide) zq1_208 rfl dX9_commutator_78 ?_
        refine gz_iload_n K dX9_commutator_81 3 rfl ?_
        refine gz_callV K hex (c_X4_word K.2.2.2.2.2 K.2.2.1 (by unfold isS; decide) hp) cf_X4_word zq3_191 (by decide) (ce_17 _ _ _ _ _ _) rfl dX9_commutator_82 rfl rfl (Nat.le_of_ble_eq_true rfl) ⟨Nat.le_of_ble_eq_true rfl, Nat.le_of_ble_eq_true rfl⟩ ⟨Nat.le_of_ble_eq_true rfl, Nat.le_of_ble_eq_true rfl⟩ (Nat.le_of_ble_eq_true rfl) (Nat.le_of_ble_eq_true rfl) (fun _ _ h => h.elim) (fun r82 τ hp => ?_)
        obtain ⟨rfl, hp⟩ := hp
        obtain ⟨u82, hp⟩ := hp
        refine gz_norm (st' := [.ref (ad r82), .ref (ad 39)]) (cells' := 3) (slots' := 18) rfl rfl rfl ?_
        refine gz_callV K hex (c_X6_addInverseOf K.2.2.2.2.2 K.2.2.1 (by unfold isW; decide) u82 hp) cf_X6_addInverseOf zq4_21 (by decide) (ce_39 _ _ _ _ _ _) rfl dX9_commutator_85 rfl rfl (Nat.le_of_ble_eq_true rfl) ⟨Nat.le_of_ble_eq_true rfl, Nat.le_of_ble_eq_true rfl⟩ ⟨Nat.le_of_ble_eq_true rfl, Nat.le_of_ble_eq_true rfl⟩ (Nat.le_of_ble_eq_true rfl) (Nat.le_of_ble_eq_true rfl) (fun _ _ h => h.elim) (fun r85 τ85 hp => ?_)
        refine gz_norm (st' := [.int r85]) (cells' := 3) (slots' := 18) rfl rfl rfl ?_
        refine gz_if_eq K 95 dX9_commutator_88 (by decide) (fun h => ?_) (fun h => ?_)
        · have hp := hp.1 h
          refine gz_sub [0, 1] rfl ?_
          exact bb_95 τ85 x1  hp
        · have hp := hp.2 h
          refine gz_iconst K (v := (1 : Int32)) dX9_commutator_91 (by decide) ?_
          refine gz_goto K 96 dX9_commutator_92 (by decide) ?_
          refine gz_sub [0, 1] rfl ?_
          exact bb_96 τ85 x1 (1 : Int32)  hp
set_option maxRecDepth 100000 in
set_option maxHeartbeats 4000000 in
theorem c_X9_order {l : Launch} {D : va_G} {ad : Nat → Nat} {ty : Nat → ClassId} (hl : l.stackTraces = false) (hj : ∀ i j, i < 68 → j < 68 → ad i = ad j → i = j) {σ : Dz} {x1 : Int32} {post : Int32 → Prop} {px : String → Prop} (hp : P_X9_order σ x1 post px) : Mz l D ad ty yX9_order cX9_order 2 (some .int) r_X9_order nI0 σ [.ref (ad 0), .int x1] (fun r τ => σ = τ ∧ post r) (fun E τ => σ = τ ∧ px E) := by
  refine mz_of (by decide) hl hj (Nat.le_of_ble_eq_true rfl) ?_
  intro p e s m args below meth c K hex hr
  unfold P_X9_order at hp
  show Gz p l e r_X9_order s m args below meth c D ad ty 2 0 0 (Ez below D ad ty nI0 (fun r τ => σ = τ ∧ post r) (fun E τ => σ = τ ∧ px E) args s 1 6) σ 0 [(0, .ref (ad 0)), (1, .int x1)] []
  refine gz_iload_n K dX9_order_0 1 rfl ?_
  refine gz_callS K hex (c_X9_checkSlot K.2.2.2.2.2 K.2.2.1 hp) cf_X9_checkSlot zq3_104 dX9_order_1 rfl rfl (Nat.le_of_ble_eq_true rfl) ⟨Nat.le_of_ble_eq_true rfl, Nat.le_of_ble_eq_true rfl⟩ ⟨Nat.le_of_ble_eq_true rfl, Nat.le_of_ble_eq_true rfl⟩ (Nat.le_of_ble_eq_true rfl) (Nat.le_of_ble_eq_true rfl) (fun _ _ h => ⟨h.1, h.2⟩) (fun _ τ hp => ?_)
  obtain ⟨rfl, hp⟩ := hp
  refine gz_norm (st' := []) (cells' := 1) (slots' := 6) rfl rfl rfl ?_
  refine gz_aload_n K dX9_order_4 0 rfl ?_
  refine gz_get K (v := .ref (ad 17)) (by decide) (ce_0 _ _ _ _ _ _) rfl inz_X9 6 (by decide) zq1_208 rfl dX9_order_5 ?_
  refine gz_iload_n K dX9_order_8 1 rfl ?_
  refine gz_callV K hex (c_X4_effectOfWord K.2.2.2.2.2 K.2.2.1 (by unfold isS; decide) hp) cf_X4_effectOfWord zq4_49 (by decide) (ce_17 _ _ _ _ _ _) rfl dX9_order_9 rfl rfl (Nat.le_of_ble_eq_true rfl) ⟨Nat.le_of_ble_eq_true rfl, Nat.le_of_ble_eq_true rfl⟩ ⟨Nat.le_of_ble_eq_true rfl, Nat.le_of_ble_eq_true rfl⟩ (Nat.le_of_ble_eq_true rfl) (Nat.le_of_ble_eq_true rfl) (fun _ _ h => h.elim) (fun r9 τ hp => ?_)
  obtain ⟨rfl, hp⟩ := hp
  refine gz_norm (st' := [.int r9]) (cells' := 1) (slots' := 6) rfl rfl rfl ?_
  refine gz_callS K hex (c_X3_orderOf K.2.2.2.2.2 K.2.2.1 hp) cf_X3_orderOf zq4_58 dX9_order_12 rfl rfl (Nat.le_of_ble_eq_true rfl) ⟨Nat.le_of_ble_eq_true rfl, Nat.le_of_ble_eq_true rfl⟩ ⟨Nat.le_of_ble_eq_true rfl, Nat.le_of_ble_eq_true rfl⟩ (Nat.le_of_ble_eq_true rfl) (Nat.le_of_ble_eq_true rfl) (fun _ _ h => h.elim) (fun r12 τ hp => ?_)
  obtain ⟨rfl, hp⟩ := hp
  refine gz_norm (st' := [.int r12]) (cells' := 1) (slots' := 6) rfl rfl rfl ?_
  exact gz_iret K hr ⟨rfl, hp⟩ dX9_order_15 (Nat.le_of_ble_eq_true rfl) (Nat.le_of_ble_eq_true rfl)
set_option maxRecDepth 100000 in
set_option maxHeartbeats 4000000 in
theorem c_X9_isOdd {l : Launch} {D : va_G} {ad : Nat → Nat} {ty : Nat → ClassId} (hl : l.stackTraces = false) (hj : ∀ i j, i < 68 → j < 68 → ad i = ad j → i = j) {σ : Dz} {x1 : Int32} {post : Int32 → Prop} {px : String → Prop} (hp : P_X9_isOdd σ x1 post px) : Mz l D ad ty yX9_isOdd cX9_isOdd 2 (some .boolean) r_X9_isOdd nI0 σ [.ref (ad 0), .int x1] (fun r τ => σ = τ ∧ post r) (fun E τ => σ = τ ∧ px E) := by
  refine mz_of (by decide) hl hj (Nat.le_of_ble_eq_true rfl) ?_
  intro p e s m args below meth c K hex hr
  unfold P_X9_isOdd at hp
  show Gz p l e r_X9_isOdd s m args below meth c D ad ty 2 0 0 (Ez below D ad ty nI0 (fun r τ => σ = τ ∧ post r) (fun E τ => σ = τ ∧ px E) args s 1 6) σ 0 [(0, .ref (ad 0)), (1, .int x1)] []
  refine gz_iload_n K dX9_isOdd_0 1 rfl ?_
  refine gz_callS K hex (c_X9_checkSlot K.2.2.2.2.2 K.2.2.1 hp) cf_X9_checkSlot zq3_104 dX9_isOdd_1 rfl rfl (Nat.le_of_ble_eq_true rfl) ⟨Nat.le_of_ble_eq_true rfl, Nat.le_of_ble_eq_true rfl⟩ ⟨Nat.le_of_ble_eq_true rfl, Nat.le_of_ble_eq_true rfl⟩ (Nat.le_of_ble_eq_true rfl) (Nat.le_of_ble_eq_true rfl) (fun _ _ h => ⟨h.1, h.2⟩) (fun _ τ hp => ?_)
  obtain ⟨rfl, hp⟩ := hp
  refine gz_norm (st' := []) (cells' := 1) (slots' := 6) rfl rfl rfl ?_
  refine gz_aload_n K dX9_isOdd_4 0 rfl ?_
  refine gz_get K (v := .ref (ad 17)) (by decide) (ce_0 _ _ _ _ _ _) rfl inz_X9 6 (by decide) zq1_208 rfl dX9_isOdd_5 ?_
  refine gz_iload_n K dX9_isOdd_8 1 rfl ?_
  refine gz_callV K hex (c_X4_effectOfWord K.2.2.2.2.2 K.2.2.1 (by unfold isS; decide) hp) cf_X4_effectOfWord zq4_49 (by decide) (ce_17 _ _ _ _ _ _) rfl dX9_isOdd_9 rfl rfl (Nat.le_of_ble_eq_true rfl) ⟨Nat.le_of_ble_eq_true rfl, Nat.le_of_ble_eq_true rfl⟩ ⟨Nat.le_of_ble_eq_true rfl, Nat.le_of_ble_eq_true rfl⟩ (Nat.le_of_ble_eq_true rfl) (Nat.le_of_ble_eq_true rfl) (fun _ _ h => h.elim) (fun r9 τ hp => ?_)
  obtain ⟨rfl, hp⟩ := hp
  refine gz_norm (st' := [.int r9]) (cells' := 1) (slots' := 6) rfl rfl rfl ?_
  refine gz_callS K hex (c_X3_hasOddParity K.2.2.2.2.2 K.2.2.1 hp) cf_X3_hasOddParity zq4_70 dX9_isOdd_12 rfl rfl (Nat.le_of_ble_eq_true rfl) ⟨Nat.le_of_ble_eq_true rfl, Nat.le_of_ble_eq_true rfl⟩ ⟨Nat.le_of_ble_eq_true rfl, Nat.le_of_ble_eq_true rfl⟩ (Nat.le_of_ble_eq_true rfl) (Nat.le_of_ble_eq_true rfl) (fun _ _ h => h.elim) (fun r12 τ hp => ?_)
  obtain ⟨rfl, hp⟩ := hp
  refine gz_norm (st' := [.int r12]) (cells' := 1) (slots' := 6) rfl rfl rfl ?_
  exact gz_zret K hr (nB hp.1) ⟨rfl, hp.2⟩ dX9_isOdd_15 (Nat.le_of_ble_eq_true rfl) (Nat.le_of_ble_eq_true rfl)
set_option maxRecDepth 100000 in
set_option maxHeartbeats 4000000 in
theorem c_X9_cycleLength {l : Launch} {D : va_G} {ad : Nat → Nat} {ty : Nat → ClassId} (hl : l.stackTraces = false) (hj : ∀ i j, i < 68 → j < 68 → ad i = ad j → i = j) {σ : Dz} {x1 : Int32} {x2 : Int32} {post : Int32 → Prop} {px : String → Prop} (hp : P_X9_cycleLength σ x1 x2 post px) : Mz l D ad ty yX9_cycleLength cX9_cycleLength 3 (some .int) r_X9_cycleLength nI0 σ [.ref (ad 0), .int x1, .int x2] (fun r τ => σ = τ ∧ post r) (fun E τ => σ = τ ∧ px E) := by
  refine mz_of (by decide) hl hj (Nat.le_of_ble_eq_true rfl) ?_
  intro p e s m args below meth c K hex hr
  unfold P_X9_cycleLength at hp
  show Gz p l e r_X9_cycleLength s m args below meth c D ad ty 3 0 0 (Ez below D ad ty nI0 (fun r τ => σ = τ ∧ post r) (fun E τ => σ = τ ∧ px E) args s 2 12) σ 0 [(0, .ref (ad 0)), (1, .int x1), (2, .int x2)] []
  refine gz_iload_n K dX9_cycleLength_0 1 rfl ?_
  refine gz_callS K hex (c_X9_checkSlot K.2.2.2.2.2 K.2.2.1 hp) cf_X9_checkSlot zq3_104 dX9_cycleLength_1 rfl rfl (Nat.le_of_ble_eq_true rfl) ⟨Nat.le_of_ble_eq_true rfl, Nat.le_of_ble_eq_true rfl⟩ ⟨Nat.le_of_ble_eq_true rfl, Nat.le_of_ble_eq_true rfl⟩ (Nat.le_of_ble_eq_true rfl) (Nat.le_of_ble_eq_true rfl) (fun _ _ h => ⟨h.1, h.2⟩) (fun _ τ hp => ?_)
  obtain ⟨rfl, hp⟩ := hp
  refine gz_norm (st' := []) (cells' := 1) (slots' := 6) rfl rfl rfl ?_
  refine gz_aload_n K dX9_cycleLength_4 0 rfl ?_
  refine gz_iload_n K dX9_cycleLength_5 2 rfl ?_
  refine gz_callV K hex (c_X9_checkPosition K.2.2.2.2.2 K.2.2.1 hp) cf_X9_checkPosition zq3_228 (by decide) (ce_0 _ _ _ _ _ _) rfl dX9_cycleLength_6 rfl rfl (Nat.le_of_ble_eq_true rfl) ⟨Nat.le_of_ble_eq_true rfl, Nat.le_of_ble_eq_true rfl⟩ ⟨Nat.le_of_ble_eq_true rfl, Nat.le_of_ble_eq_true rfl⟩ (Nat.le_of_ble_eq_true rfl) (Nat.le_of_ble_eq_true rfl) (fun _ _ h => ⟨h.1, h.2⟩) (fun _ τ hp => ?_)
  obtain ⟨rfl, hp⟩ := hp
  refine gz_norm (st' := []) (cells' := 2) (slots' := 12) rfl rfl rfl ?_
  refine gz_aload_n K dX9_cycleLength_9 0 rfl ?_
  refine gz_get K (v := .ref (ad 17)) (by decide) (ce_0 _ _ _ _ _ _) rfl inz_X9 6 (by decide) zq1_208 rfl dX9_cycleLength_10 ?_
  refine gz_iload_n K dX9_cycleLength_13 1 rfl ?_
  refine gz_callV K hex (c_X4_effectOfWord K.2.2.2.2.2 K.2.2.1 (by unfold isS; decide) hp) cf_X4_effectOfWord zq4_49 (by decide) (ce_17 _ _ _ _ _ _) rfl dX9_cycleLength_14 rfl rfl (Nat.le_of_ble_eq_true rfl) ⟨Nat.le_of_ble_eq_true rfl, Nat.le_of_ble_eq_true rfl⟩ ⟨Nat.le_of_ble_eq_true rfl, Nat.le_of_ble_eq_true rfl⟩ (Nat.le_of_ble_eq_true rfl) (Nat.le_of_ble_eq_true rfl) (fun _ _ h => h.elim) (fun r14 τ hp => ?_)
  obtain ⟨rfl, hp⟩ := hp
  refine gz_norm (st' := [.int r14]) (cells' := 2) (slots' := 12) rfl rfl rfl ?_
  refine gz_iload_n K dX9_cycleLength_17 2 rfl ?_
  refine gz_iconst K (v := (1 : Int32)) dX9_cycleLength_18 (by decide) ?_
  refine gz_isub K dX9_cycleLength_19 ?_
  refine gz_callS K hex (c_X3_cycleOf K.2.2.2.2.2 K.2.2.1 hp) cf_X3_cycleOf zq4_80 dX9_cycleLength_20 rfl rfl (Nat.le_of_ble_eq_true rfl) ⟨Nat.le_of_ble_eq_true rfl, Nat.le_of_ble_eq_true rfl⟩ ⟨Nat.le_of_ble_eq_true rfl, Nat.le_of_ble_eq_true rfl⟩ (Nat.le_of_ble_eq_true rfl) (Nat.le_of_ble_eq_true rfl) (fun _ _ h => h.elim) (fun r20 τ hp => ?_)
  obtain ⟨rfl, hp⟩ := hp
  refine gz_norm (st' := [.int r20]) (cells' := 2) (slots' := 12) rfl rfl rfl ?_
  exact gz_iret K hr ⟨rfl, hp⟩ dX9_cycleLength_23 (Nat.le_of_ble_eq_true rfl) (Nat.le_of_ble_eq_true rfl)
set_option maxRecDepth 100000 in
set_option maxHeartbeats 4000000 in
theorem c_X9_isSame {l : Launch} {D : va_G} {ad : Nat → Nat} {ty : Nat → ClassId} (hl : l.stackTraces = false) (hj : ∀ i j, i < 68 → j < 68 → ad i = ad j → i = j) {σ : Dz} {x1 : Int32} {x2 : Int32} {post : Int32 → Prop} {px : String → Prop} (hp : P_X9_isSame σ x1 x2 post px) : Mz l D ad ty yX9_isSame cX9_isSame 3 (some .boolean) r_X9_isSame nI0 σ [.ref (ad 0), .int x1, .int x2] (fun r τ => σ = τ ∧ post r) (fun E τ => σ = τ ∧ px E) := by
  refine mz_of (by decide) hl hj (Nat.le_of_ble_eq_true rfl) ?_
  intro p e s m args below meth c K hex hr
  unfold P_X9_isSame at hp
  show Gz p l e r_X9_isSame s m args below meth c D ad ty 3 0 0 (Ez below D ad ty nI0 (fun r τ => σ = τ ∧ post r) (fun E τ => σ = τ ∧ px E) args s 2 12) σ 0 [(0, .ref (ad 0)), (1, .int x1), (2, .int x2)] []
  refine gz_iload_n K dX9_isSame_0 1 rfl ?_
  refine gz_callS K hex (c_X9_checkSlot K.2.2.2.2.2 K.2.2.1 hp) cf_X9_checkSlot zq3_104 dX9_isSame_1 rfl rfl (Nat.le_of_ble_eq_true rfl) ⟨Nat.le_of_ble_eq_true rfl, Nat.le_of_ble_eq_true rfl⟩ ⟨Nat.le_of_ble_eq_true rfl, Nat.le_of_ble_eq_true rfl⟩ (Nat.le_of_ble_eq_true rfl) (Nat.le_of_ble_eq_true rfl) (fun _ _ h => ⟨h.1, h.2⟩) (fun _ τ hp => ?_)
  obtain ⟨rfl, hp⟩ := hp
  refine gz_norm (st' := []) (cells' := 1) (slots' := 6) rfl rfl rfl ?_
  refine gz_iload_n K dX9_isSame_4 2 rfl ?_
  refine gz_callS K hex (c_X9_checkSlot K.2.2.2.2.2 K.2.2.1 hp) cf_X9_checkSlot zq3_104 dX9_isSame_5 rfl rfl (Nat.le_of_ble_eq_true rfl) ⟨Nat.le_of_ble_eq_true rfl, Nat.le_of_ble_eq_true rfl⟩ ⟨Nat.le_of_ble_eq_true rfl, Nat.le_of_ble_eq_true rfl⟩ (Nat.le_of_ble_eq_true rfl) (Nat.le_of_ble_eq_true rfl) (fun _ _ h => ⟨h.1, h.2⟩) (fun _ τ hp => ?_)
  obtain ⟨rfl, hp⟩ := hp
  refine gz_norm (st' := []) (cells' := 2) (slots' := 12) rfl rfl rfl ?_
  refine gz_aload_n K dX9_isSame_8 0 rfl ?_
  refine gz_get K (v := .ref (ad 17)) (by decide) (ce_0 _ _ _ _ _ _) rfl inz_X9 6 (by decide) zq1_208 rfl dX9_isSame_9 ?_
  refine gz_iload_n K dX9_isSame_12 1 rfl ?_
  refine gz_callV K hex (c_X4_effectOfWord K.2.2.2.2.2 K.2.2.1 (by unfold isS; decide) hp) cf_X4_effectOfWord zq4_49 (by decide) (ce_17 _ _ _ _ _ _) rfl dX9_isSame_13 rfl rfl (Nat.le_of_ble_eq_true rfl) ⟨Nat.le_of_ble_eq_true rfl, Nat.le_of_ble_eq_true rfl⟩ ⟨Nat.le_of_ble_eq_true rfl, Nat.le_of_ble_eq_true rfl⟩ (Nat.le_of_ble_eq_true rfl) (Nat.le_of_ble_eq_true rfl) (fun _ _ h => h.elim) (fun r13 τ hp => ?_)
  obtain ⟨rfl, hp⟩ := hp
  refine gz_norm (st' := [.int r13]) (cells' := 2) (slots' := 12) rfl rfl rfl ?_
  refine gz_aload_n K dX9_isSame_16 0 rfl ?_
  refine gz_get K (v := .ref (ad 17)) (by decide) (ce_0 _ _ _ _ _ _) rfl inz_X9 6 (by decide) zq1_208 rfl dX9_isSame_17 ?_
  refine gz_iload_n K dX9_isSame_20 2 rfl ?_
  refine gz_callV K hex (c_X4_effectOfWord K.2.2.2.2.2 K.2.2.1 (by unfold isS; decide) hp) cf_X4_effectOfWord zq4_49 (by decide) (ce_17 _ _ _ _ _ _) rfl dX9_isSame_21 rfl rfl (Nat.le_of_ble_eq_true rfl) ⟨Nat.le_of_ble_eq_true rfl, Nat.le_of_ble_eq_true rfl⟩ ⟨Nat.le_of_ble_eq_true rfl, Nat.le_of_ble_eq_true rfl⟩ (Nat.le_of_ble_eq_true rfl) (Nat.le_of_ble_eq_true rfl) (fun _ _ h => h.elim) (fun r21 τ hp => ?_)
  obtain ⟨rfl, hp⟩ := hp
  refine gz_norm (st' := [.int r21, .int r13]) (cells' := 2) (slots' := 12) rfl rfl rfl ?_
  refine gz_icmp_ne K 31 dX9_isSame_24 (by decide) (fun h => ?_) (fun h => ?_)
  · have hp := hp.1 h
    refine gz_iconst K (v := (0 : Int32)) dX9_isSame_31 (by decide) ?_
    exact gz_zret K hr (by decide) ⟨rfl, hp⟩ dX9_isSame_32 (Nat.le_of_ble_eq_true rfl) (Nat.le_of_ble_eq_true rfl)
  · have hp := hp.2 h
    refine gz_iconst K (v := (1 : Int32)) dX9_isSame_27 (by decide) ?_
    refine gz_goto K 32 dX9_isSame_28 (by decide) ?_
    exact gz_zret K hr (by decide) ⟨rfl, hp⟩ dX9_isSame_32 (Nat.le_of_ble_eq_true rfl) (Nat.le_of_ble_eq_true rfl)
set_option maxRecDepth 100000 in
set_option maxHeartbeats 4000000 in
theorem c_X9_perform {l : Launch} {D : va_G} {ad : Nat → Nat} {ty : Nat → ClassId} (hl : l.stackTraces = false) (hj : ∀ i j, i < 68 → j < 68 → ad i = ad j → i = j) {σ : Dz} {x1 : Int32} {x2 : Int32} {post : Int32 → Dz → Prop} {px : String → Dz → Prop} (hp : P_X9_perform σ x1 x2 post px) : Mz l D ad ty yX9_perform cX9_perform 8 (some .int) r_X9_perform nI0 σ [.ref (ad 0), .int x1, .int x2] post px := by
  refine mz_of (by decide) hl hj (Nat.le_of_ble_eq_true rfl) ?_
  intro p e s m args below meth c K hex hr
  unfold P_X9_perform at hp
  have bb_47 : ∀ (σ : Dz) (y2 : Int32) (z0 : Int32) , B_X9_perform_47 post px  σ y2 z0 → Gz p l e r_X9_perform s m args below meth c D ad ty 8 1 6 (Ez below D ad ty nI0 post px args s 2 12) σ 47 [(0, .ref (ad 0)), (2, .int y2)] [.int z0] := by
    intro σ y2 z0 hp
    unfold B_X9_perform_47 at hp
    refine gz_istore K [(4, .int z0), (0, .ref (ad 0)), (2, .int y2)] dX9_perform_47 (by decide) rfl ?_
    refine gz_aload_n K dX9_perform_49 1 rfl ?_
    refine gz_get K (v := .ref (ad 17)) (by decide) (ce_0 _ _ _ _ _ _) rfl inz_X9 6 (by decide) zq1_208 rfl dX9_perform_50 ?_
    refine gz_callV K hex (c_X4_places K.2.2.2.2.2 K.2.2.1 (by unfold isS; decide) hp) cf_X4_places zq4_99 (by decide) (ce_17 _ _ _ _ _ _) rfl dX9_perform_53 rfl rfl (Nat.le_of_ble_eq_true rfl) ⟨Nat.le_of_ble_eq_true rfl, Nat.le_of_ble_eq_true rfl⟩ ⟨Nat.le_of_ble_eq_true rfl, Nat.le_of_ble_eq_true rfl⟩ (Nat.le_of_ble_eq_true rfl) (Nat.le_of_ble_eq_true rfl) (fun _ _ h => h.elim) (fun r53 τ hp => ?_)
    obtain ⟨rfl, hp⟩ := hp
    refine gz_norm (st' := [.int r53]) (cells' := 1) (slots' := 6) rfl rfl rfl ?_
    refine gz_istore K [(5, .int r53), (4, .int z0), (0, .ref (ad 0)), (2, .int y2)] dX9_perform_56 (by decide) rfl ?_
    refine gz_iload K dX9_perform_58 0 rfl ?_
    refine gz_istore K [(6, .int r53), (5, .int r53), (4, .int z0), (0, .ref (ad 0)), (2, .int y2)] dX9_perform_60 (by decide) rfl ?_
    refine gz_iload_n K dX9_perform_62 4 rfl ?_
    refine gz_mabs K zq4_103 zq4_104 zq1_23 zq4_105 dX9_perform_63 (Nat.le_of_ble_eq_true rfl) (Nat.le_of_ble_eq_true rfl) (Nat.le_of_ble_eq_true rfl) (Nat.le_of_ble_eq_true rfl) ?_
    refine gz_istore K [(7, .int (if 0 ≤ y2 then y2 else 0 - y2)), (6, .int r53), (5, .int r53), (4, .int z0), (0, .ref (ad 0)), (2, .int y2)] dX9_perform_66 (by decide) rfl ?_
    refine gz_sub [4, 3, 2, 1, 0] rfl ?_
    have ll_68 : ∀ (n_68 : Nat) (σ : Dz) (y4 : Int32) (y5 : Int32) (y6 : Int32) (y7 : Int32) , L_X9_perform_68 post px  n_68 σ y4 y5 y6 y7 → Gz p l e r_X9_perform s m args below meth c D ad ty 8 1 6 (Ez below D ad ty nI0 post px args s 2 12) σ 68 [(0, .ref (ad 0)), (4, .int y4), (5, .int y5), (6, .int y6), (7, .int y7)] [] := by
      intro n_68; induction n_68 with
      | zero => intro σ y4 y5 y6 y7 hp; exact False.elim hp
      | succ n_68 ih_68 =>
        intro σ y4 y5 y6 y7 hp
        have hp : B_X9_perform_68 post px  (L_X9_perform_68 post px  n_68) σ y4 y5 y6 y7 := hp
        unfold B_X9_perform_68 at hp
        refine gz_iload K dX9_perform_68 4 rfl ?_
        refine gz_if_le K 88 dX9_perform_70 (by decide) (fun h => ?_) (fun h => ?_)
        · have hp := hp.1 h
          refine gz_aload_n K dX9_perform_88 0 rfl ?_
          refine gz_get K (v := .ref (ad 17)) (by decide) (ce_0 _ _ _ _ _ _) rfl inz_X9 6 (by decide) zq1_208 rfl dX9_perform_89 ?_
          refine gz_iload K dX9_perform_92 3 rfl ?_
          refine gz_callV K hex (c_X4_arrange K.2.2.2.2.2 K.2.2.1 (by unfold isS; decide) hp) cf_X4_arrange zq4_107 (by decide) (ce_17 _ _ _ _ _ _) rfl dX9_perform_94 rfl rfl (Nat.le_of_ble_eq_true rfl) ⟨Nat.le_of_ble_eq_true rfl, Nat.le_of_ble_eq_true rfl⟩ ⟨Nat.le_of_ble_eq_true rfl, Nat.le_of_ble_eq_true rfl⟩ (Nat.le_of_ble_eq_true rfl) (Nat.le_of_ble_eq_true rfl) (fun _ _ h => h.elim) (fun _ τ94 hp => ?_)
          refine gz_norm (st' := []) (cells' := 1) (slots' := 6) rfl rfl rfl ?_
          refine gz_iload K dX9_perform_97 2 rfl ?_
          refine gz_iload K dX9_perform_99 3 rfl ?_
          refine gz_callS K hex (c_X3_differences K.2.2.2.2.2 K.2.2.1 hp) cf_X3_differences zq3_80 dX9_perform_101 rfl rfl (Nat.le_of_ble_eq_true rfl) ⟨Nat.le_of_ble_eq_true rfl, Nat.le_of_ble_eq_true rfl⟩ ⟨Nat.le_of_ble_eq_true rfl, Nat.le_of_ble_eq_true rfl⟩ (Nat.le_of_ble_eq_true rfl) (Nat.le_of_ble_eq_true rfl) (fun _ _ h => h.elim) (fun r101 τ hp => ?_)
          obtain ⟨rfl, hp⟩ := hp
          refine gz_norm (st' := [.int r101]) (cells' := 1) (slots' := 6) rfl rfl rfl ?_
          exact gz_iret K hr hp dX9_perform_104 (Nat.le_of_ble_eq_true rfl) (Nat.le_of_ble_eq_true rfl)
        · have hp := hp.2 h
          refine gz_iload K dX9_perform_73 3 rfl ?_
          refine gz_iload K dX9_perform_75 1 rfl ?_
          refine gz_callS K hex (c_X3_then K.2.2.2.2.2 K.2.2.1 hp) cf_X3_then zq4_106 dX9_perform_77 rfl rfl (Nat.le_of_ble_eq_true rfl) ⟨Nat.le_of_ble_eq_true rfl, Nat.le_of_ble_eq_true rfl⟩ ⟨Nat.le_of_ble_eq_true rfl, Nat.le_of_ble_eq_true rfl⟩ (Nat.le_of_ble_eq_true rfl) (Nat.le_of_ble_eq_true rfl) (fun _ _ h => h.elim) (fun r77 τ hp => ?_)
          obtain ⟨rfl, hp⟩ := hp
          refine gz_norm (st' := [.int r77]) (cells' := 1) (slots' := 6) rfl rfl rfl ?_
          refine gz_istore K [(6, .int r77), (0, .ref (ad 0)), (4, .int y4), (5, .int y5), (7, .int y7)] dX9_perform_80 (by decide) rfl ?_
          refine gz_iinc K (v := (y7 + (-1))) [(7, .int (y7 + (-1))), (6, .int r77), (0, .ref (ad 0)), (4, .int y4), (5, .int y5)] dX9_perform_82 4 rfl (by first | rfl | decide) (by decide) rfl ?_
          refine gz_goto K 68 dX9_perform_85 (by decide) ?_
          refine gz_sub [2, 3, 4, 1, 0] rfl ?_
          exact ih_68 σ y4 y5 r77 (y7 + (-1))  hp
    obtain ⟨n, hp⟩ := hp
    exact ll_68 n σ z0 r53 r53 (if 0 ≤ y2 then y2 else 0 - y2)  hp
  show Gz p l e r_X9_perform s m args below meth c D ad ty 8 0 0 (Ez below D ad ty nI0 post px args s 2 12) σ 0 [(0, .ref (ad 0)), (1, .int x1), (2, .int x2)] []
  refine gz_iload_n K dX9_perform_0 1 rfl ?_
  refine gz_callS K hex (c_X9_checkSlot K.2.2.2.2.2 K.2.2.1 hp) cf_X9_checkSlot zq3_104 dX9_perform_1 rfl rfl (Nat.le_of_ble_eq_true rfl) ⟨Nat.le_of_ble_eq_true rfl, Nat.le_of_ble_eq_true rfl⟩ ⟨Nat.le_of_ble_eq_true rfl, Nat.le_of_ble_eq_true rfl⟩ (Nat.le_of_ble_eq_true rfl) (Nat.le_of_ble_eq_true rfl) (fun _ _ h => h.1 ▸ h.2) (fun _ τ hp => ?_)
  obtain ⟨rfl, hp⟩ := hp
  refine gz_norm (st' := []) (cells' := 1) (slots' := 6) rfl rfl rfl ?_
  refine gz_iload_n K dX9_perform_4 2 rfl ?_
  refine gz_bipush K (v := (-100 : Int32)) dX9_perform_5 (by decide) ?_
  refine gz_icmp_lt K 16 dX9_perform_7 (by decide) (fun h => ?_) (fun h => ?_)
  · have hp := hp.1 h
    obtain ⟨sa, hsa⟩ := K.2.2.2.2.1.2.2.1 _ (List.mem_of_getElem? (l := zStr) (i := 15) rfl)
    exact gz_throw K hex false rfl xd_IllegalArgumentException_0 xd_IllegalArgumentException_1 xd_IllegalArgumentException_2 xd_IllegalArgumentException_5 (by decide) zq2_131 zq1_14 hsa xl_94 dX9_perform_16 dX9_perform_19 dX9_perform_20 dX9_perform_22 dX9_perform_25 (Nat.le_of_ble_eq_true rfl) (Nat.le_of_ble_eq_true rfl) (Nat.le_of_ble_eq_true rfl) (Nat.le_of_ble_eq_true rfl) hp (Nat.le_of_ble_eq_true rfl) (Nat.le_of_ble_eq_true rfl)
  · have hp := hp.2 h
    refine gz_iload_n K dX9_perform_10 2 rfl ?_
    refine gz_bipush K (v := (100 : Int32)) dX9_perform_11 (by decide) ?_
    refine gz_icmp_le K 26 dX9_perform_13 (by decide) (fun h => ?_) (fun h => ?_)
    · have hp := hp.1 h
      refine gz_aload_n K dX9_perform_26 0 rfl ?_
      refine gz_get K (v := .ref (ad 17)) (by decide) (ce_0 _ _ _ _ _ _) rfl inz_X9 6 (by decide) zq1_208 rfl dX9_perform_27 ?_
      refine gz_iload_n K dX9_perform_30 1 rfl ?_
      refine gz_callV K hex (c_X4_effectOfWord K.2.2.2.2.2 K.2.2.1 (by unfold isS; decide) hp) cf_X4_effectOfWord zq4_49 (by decide) (ce_17 _ _ _ _ _ _) rfl dX9_perform_31 rfl rfl (Nat.le_of_ble_eq_true rfl) ⟨Nat.le_of_ble_eq_true rfl, Nat.le_of_ble_eq_true rfl⟩ ⟨Nat.le_of_ble_eq_true rfl, Nat.le_of_ble_eq_true rfl⟩ (Nat.le_of_ble_eq_true rfl) (Nat.le_of_ble_eq_true rfl) (fun _ _ h => h.elim) (fun r31 τ hp => ?_)
      obtain ⟨rfl, hp⟩ := hp
      refine gz_norm (st' := [.int r31]) (cells' := 1) (slots' := 6) rfl rfl rfl ?_
      refine gz_istore_n K [(3, .int r31), (0, .ref (ad 0)), (1, .int x1), (2, .int x2)] dX9_perform_34 (by decide) rfl ?_
      refine gz_iload_n K dX9_perform_35 3 rfl ?_
      refine gz_if_ge K 46 dX9_perform_36 (by decide) (fun h => ?_) (fun h => ?_)
      · have hp := hp.1 h
        refine gz_iload_n K dX9_perform_46 0 rfl ?_
        refine gz_sub [1, 3] rfl ?_
        exact bb_47 σ x2 r31  hp
      · have hp := hp.2 h
        refine gz_iload_n K dX9_perform_39 0 rfl ?_
        refine gz_callS K hex (c_X3_inverseOf K.2.2.2.2.2 K.2.2.1 hp) cf_X3_inverseOf zq4_98 dX9_perform_40 rfl rfl (Nat.le_of_ble_eq_true rfl) ⟨Nat.le_of_ble_eq_true rfl, Nat.le_of_ble_eq_true rfl⟩ ⟨Nat.le_of_ble_eq_true rfl, Nat.le_of_ble_eq_true rfl⟩ (Nat.le_of_ble_eq_true rfl) (Nat.le_of_ble_eq_true rfl) (fun _ _ h => h.elim) (fun r40 τ hp => ?_)
        obtain ⟨rfl, hp⟩ := hp
        refine gz_norm (st' := [.int r40]) (cells' := 1) (slots' := 6) rfl rfl rfl ?_
        refine gz_goto K 47 dX9_perform_43 (by decide) ?_
        refine gz_sub [1, 3] rfl ?_
        exact bb_47 σ x2 r40  hp
    · have hp := hp.2 h
      obtain ⟨sa, hsa⟩ := K.2.2.2.2.1.2.2.1 _ (List.mem_of_getElem? (l := zStr) (i := 15) rfl)
      exact gz_throw K hex false rfl xd_IllegalArgumentException_0 xd_IllegalArgumentException_1 xd_IllegalArgumentException_2 xd_IllegalArgumentException_5 (by decide) zq2_131 zq1_14 hsa xl_94 dX9_perform_16 dX9_perform_19 dX9_perform_20 dX9_perform_22 dX9_perform_25 (Nat.le_of_ble_eq_true rfl) (Nat.le_of_ble_eq_true rfl) (Nat.le_of_ble_eq_true rfl) (Nat.le_of_ble_eq_true rfl) hp (Nat.le_of_ble_eq_true rfl) (Nat.le_of_ble_eq_true rfl)
set_option maxRecDepth 100000 in
set_option maxHeartbeats 4000000 in
theorem c_X9_tokenOn {l : Launch} {D : va_G} {ad : Nat → Nat} {ty : Nat → ClassId} (hl : l.stackTraces = false) (hj : ∀ i j, i < 68 → j < 68 → ad i = ad j → i = j) {σ : Dz} {x1 : Int32} {post : Int32 → Prop} (hp : P_X9_tokenOn σ x1 post) : Mz l D ad ty yX9_tokenOn cX9_tokenOn 2 (some .int) r_X9_tokenOn nI0 σ [.ref (ad 0), .int x1] (fun r τ => σ = τ ∧ post r) (fun _ _ => False) := by
  refine mz_of (by decide) hl hj (Nat.le_of_ble_eq_true rfl) ?_
  intro p e s m args below meth c K hex hr
  unfold P_X9_tokenOn at hp
  show Gz p l e r_X9_tokenOn s m args below meth c D ad ty 2 0 0 (Ez below D ad ty nI0 (fun r τ => σ = τ ∧ post r) (fun _ _ => False) args s 0 0) σ 0 [(0, .ref (ad 0)), (1, .int x1)] []
  refine gz_aload_n K dX9_tokenOn_0 0 rfl ?_
  refine gz_get K (v := .ref (ad 17)) (by decide) (ce_0 _ _ _ _ _ _) rfl inz_X9 6 (by decide) zq1_208 rfl dX9_tokenOn_1 ?_
  refine gz_callV K hex (c_X4_places K.2.2.2.2.2 K.2.2.1 (by unfold isS; decide) hp) cf_X4_places zq4_99 (by decide) (ce_17 _ _ _ _ _ _) rfl dX9_tokenOn_4 rfl rfl (Nat.le_of_ble_eq_true rfl) ⟨Nat.le_of_ble_eq_true rfl, Nat.le_of_ble_eq_true rfl⟩ ⟨Nat.le_of_ble_eq_true rfl, Nat.le_of_ble_eq_true rfl⟩ (Nat.le_of_ble_eq_true rfl) (Nat.le_of_ble_eq_true rfl) (fun _ _ h => h.elim) (fun r4 τ hp => ?_)
  obtain ⟨rfl, hp⟩ := hp
  refine gz_norm (st' := [.int r4]) (cells' := 0) (slots' := 0) rfl rfl rfl ?_
  refine gz_callS K hex (c_X3_inverseOf K.2.2.2.2.2 K.2.2.1 hp) cf_X3_inverseOf zq4_98 dX9_tokenOn_7 rfl rfl (Nat.le_of_ble_eq_true rfl) ⟨Nat.le_of_ble_eq_true rfl, Nat.le_of_ble_eq_true rfl⟩ ⟨Nat.le_of_ble_eq_true rfl, Nat.le_of_ble_eq_true rfl⟩ (Nat.le_of_ble_eq_true rfl) (Nat.le_of_ble_eq_true rfl) (fun _ _ h => h.elim) (fun r7 τ hp => ?_)
  obtain ⟨rfl, hp⟩ := hp
  refine gz_norm (st' := [.int r7]) (cells' := 0) (slots' := 0) rfl rfl rfl ?_
  refine gz_iload_n K dX9_tokenOn_10 1 rfl ?_
  refine gz_iconst K (v := (1 : Int32)) dX9_tokenOn_11 (by decide) ?_
  refine gz_isub K dX9_tokenOn_12 ?_
  refine gz_callS K hex (c_X3_imageOf K.2.2.2.2.2 K.2.2.1 hp) cf_X3_imageOf zq3_236 dX9_tokenOn_13 rfl rfl (Nat.le_of_ble_eq_true rfl) ⟨Nat.le_of_ble_eq_true rfl, Nat.le_of_ble_eq_true rfl⟩ ⟨Nat.le_of_ble_eq_true rfl, Nat.le_of_ble_eq_true rfl⟩ (Nat.le_of_ble_eq_true rfl) (Nat.le_of_ble_eq_true rfl) (fun _ _ h => h.elim) (fun r13 τ hp => ?_)
  obtain ⟨rfl, hp⟩ := hp
  refine gz_norm (st' := [.int r13]) (cells' := 0) (slots' := 0) rfl rfl rfl ?_
  refine gz_iconst K (v := (1 : Int32)) dX9_tokenOn_16 (by decide) ?_
  refine gz_iadd K dX9_tokenOn_17 ?_
  exact gz_iret K hr ⟨rfl, hp⟩ dX9_tokenOn_18 (Nat.le_of_ble_eq_true rfl) (Nat.le_of_ble_eq_true rfl)
set_option maxRecDepth 100000 in
set_option maxHeartbeats 4000000 in
theorem c_X9_exchange {l : Launch} {D : va_G} {ad : Nat → Nat} {ty : Nat → ClassId} (hl : l.stackTraces = false) (hj : ∀ i j, i < 68 → j < 68 → ad i = ad j → i = j) {σ : Dz} {x1 : Int32} {x2 : Int32} {post : Int32 → Dz → Prop} {px : String → Dz → Prop} (hp : P_X9_exchange σ x1 x2 post px) : Mz l D ad ty yX9_exchange cX9_exchange 4 (some .int) r_X9_exchange nI0 σ [.ref (ad 0), .int x1, .int x2] post px := by
  refine mz_of (by decide) hl hj (Nat.le_of_ble_eq_true rfl) ?_
  intro p e s m args below meth c K hex hr
  unfold P_X9_exchange at hp
  show Gz p l e r_X9_exchange s m args below meth c D ad ty 4 0 0 (Ez below D ad ty nI0 post px args s 2 12) σ 0 [(0, .ref (ad 0)), (1, .int x1), (2, .int x2)] []
  refine gz_aload_n K dX9_exchange_0 0 rfl ?_
  refine gz_iload_n K dX9_exchange_1 1 rfl ?_
  refine gz_callV K hex (c_X9_checkPosition K.2.2.2.2.2 K.2.2.1 hp) cf_X9_checkPosition zq3_228 (by decide) (ce_0 _ _ _ _ _ _) rfl dX9_exchange_2 rfl rfl (Nat.le_of_ble_eq_true rfl) ⟨Nat.le_of_ble_eq_true rfl, Nat.le_of_ble_eq_true rfl⟩ ⟨Nat.le_of_ble_eq_true rfl, Nat.le_of_ble_eq_true rfl⟩ (Nat.le_of_ble_eq_true rfl) (Nat.le_of_ble_eq_true rfl) (fun _ _ h => h.1 ▸ h.2) (fun _ τ hp => ?_)
  obtain ⟨rfl, hp⟩ := hp
  refine gz_norm (st' := []) (cells' := 1) (slots' := 6) rfl rfl rfl ?_
  refine gz_aload_n K dX9_exchange_5 0 rfl ?_
  refine gz_iload_n K dX9_exchange_6 2 rfl ?_
  refine gz_callV K hex (c_X9_checkPosition K.2.2.2.2.2 K.2.2.1 hp) cf_X9_checkPosition zq3_228 (by decide) (ce_0 _ _ _ _ _ _) rfl dX9_exchange_7 rfl rfl (Nat.le_of_ble_eq_true rfl) ⟨Nat.le_of_ble_eq_true rfl, Nat.le_of_ble_eq_true rfl⟩ ⟨Nat.le_of_ble_eq_true rfl, Nat.le_of_ble_eq_true rfl⟩ (Nat.le_of_ble_eq_true rfl) (Nat.le_of_ble_eq_true rfl) (fun _ _ h => h.1 ▸ h.2) (fun _ τ hp => ?_)
  obtain ⟨rfl, hp⟩ := hp
  refine gz_norm (st' := []) (cells' := 2) (slots' := 12) rfl rfl rfl ?_
  refine gz_ldc K zq3_79 dX9_exchange_10 ?_
  refine gz_iload_n K dX9_exchange_12 1 rfl ?_
  refine gz_iconst K (v := (1 : Int32)) dX9_exchange_13 (by decide) ?_
  refine gz_isub K dX9_exchange_14 ?_
  refine gz_iload_n K dX9_exchange_15 2 rfl ?_
  refine gz_iconst K (v := (1 : Int32)) dX9_exchange_16 (by decide) ?_
  refine gz_isub K dX9_exchange_17 ?_
  refine gz_callS K hex (c_X3_withImage K.2.2.2.2.2 K.2.2.1 hp) cf_X3_withImage zq4_118 dX9_exchange_18 rfl rfl (Nat.le_of_ble_eq_true rfl) ⟨Nat.le_of_ble_eq_true rfl, Nat.le_of_ble_eq_true rfl⟩ ⟨Nat.le_of_ble_eq_true rfl, Nat.le_of_ble_eq_true rfl⟩ (Nat.le_of_ble_eq_true rfl) (Nat.le_of_ble_eq_true rfl) (fun _ _ h => h.elim) (fun r18 τ hp => ?_)
  obtain ⟨rfl, hp⟩ := hp
  refine gz_norm (st' := [.int r18]) (cells' := 2) (slots' := 12) rfl rfl rfl ?_
  refine gz_istore_n K [(3, .int r18), (0, .ref (ad 0)), (1, .int x1), (2, .int x2)] dX9_exchange_21 (by decide) rfl ?_
  refine gz_iload_n K dX9_exchange_22 0 rfl ?_
  refine gz_iload_n K dX9_exchange_23 3 rfl ?_
  refine gz_iconst K (v := (1 : Int32)) dX9_exchange_24 (by decide) ?_
  refine gz_isub K dX9_exchange_25 ?_
  refine gz_iload_n K dX9_exchange_26 2 rfl ?_
  refine gz_iconst K (v := (1 : Int32)) dX9_exchange_27 (by decide) ?_
  refine gz_isub K dX9_exchange_28 ?_
  refine gz_callS K hex (c_X3_withImage K.2.2.2.2.2 K.2.2.1 hp) cf_X3_withImage zq4_118 dX9_exchange_29 rfl rfl (Nat.le_of_ble_eq_true rfl) ⟨Nat.le_of_ble_eq_true rfl, Nat.le_of_ble_eq_true rfl⟩ ⟨Nat.le_of_ble_eq_true rfl, Nat.le_of_ble_eq_true rfl⟩ (Nat.le_of_ble_eq_true rfl) (Nat.le_of_ble_eq_true rfl) (fun _ _ h => h.elim) (fun r29 τ hp => ?_)
  obtain ⟨rfl, hp⟩ := hp
  refine gz_norm (st' := [.int r29]) (cells' := 2) (slots' := 12) rfl rfl rfl ?_
  refine gz_istore_n K [(3, .int r29), (0, .ref (ad 0)), (1, .int x1), (2, .int x2)] dX9_exchange_32 (by decide) rfl ?_
  refine gz_aload_n K dX9_exchange_33 1 rfl ?_
  refine gz_get K (v := .ref (ad 17)) (by decide) (ce_0 _ _ _ _ _ _) rfl inz_X9 6 (by decide) zq1_208 rfl dX9_exchange_34 ?_
  refine gz_aload_n K dX9_exchange_37 1 rfl ?_
  refine gz_get K (v := .ref (ad 17)) (by decide) (ce_0 _ _ _ _ _ _) rfl inz_X9 6 (by decide) zq1_208 rfl dX9_exchange_38 ?_
  refine gz_callV K hex (c_X4_places K.2.2.2.2.2 K.2.2.1 (by unfold isS; decide) hp) cf_X4_places zq4_99 (by decide) (ce_17 _ _ _ _ _ _) rfl dX9_exchange_41 rfl rfl (Nat.le_of_ble_eq_true rfl) ⟨Nat.le_of_ble_eq_true rfl, Nat.le_of_ble_eq_true rfl⟩ ⟨Nat.le_of_ble_eq_true rfl, Nat.le_of_ble_eq_true rfl⟩ (Nat.le_of_ble_eq_true rfl) (Nat.le_of_ble_eq_true rfl) (fun _ _ h => h.elim) (fun r41 τ hp => ?_)
  obtain ⟨rfl, hp⟩ := hp
  refine gz_norm (st' := [.int r41, .ref (ad 17)]) (cells' := 2) (slots' := 12) rfl rfl rfl ?_
  refine gz_iload_n K dX9_exchange_44 0 rfl ?_
  refine gz_callS K hex (c_X3_then K.2.2.2.2.2 K.2.2.1 hp) cf_X3_then zq4_106 dX9_exchange_45 rfl rfl (Nat.le_of_ble_eq_true rfl) ⟨Nat.le_of_ble_eq_true rfl, Nat.le_of_ble_eq_true rfl⟩ ⟨Nat.le_of_ble_eq_true rfl, Nat.le_of_ble_eq_true rfl⟩ (Nat.le_of_ble_eq_true rfl) (Nat.le_of_ble_eq_true rfl) (fun _ _ h => h.elim) (fun r45 τ hp => ?_)
  obtain ⟨rfl, hp⟩ := hp
  refine gz_norm (st' := [.int r45, .ref (ad 17)]) (cells' := 2) (slots' := 12) rfl rfl rfl ?_
  refine gz_callV K hex (c_X4_arrange K.2.2.2.2.2 K.2.2.1 (by unfold isS; decide) hp) cf_X4_arrange zq4_107 (by decide) (ce_17 _ _ _ _ _ _) rfl dX9_exchange_48 rfl rfl (Nat.le_of_ble_eq_true rfl) ⟨Nat.le_of_ble_eq_true rfl, Nat.le_of_ble_eq_true rfl⟩ ⟨Nat.le_of_ble_eq_true rfl, Nat.le_of_ble_eq_true rfl⟩ (Nat.le_of_ble_eq_true rfl) (Nat.le_of_ble_eq_true rfl) (fun _ _ h => h.elim) (fun _ τ48 hp => ?_)
  refine gz_norm (st' := []) (cells' := 2) (slots' := 12) rfl rfl rfl ?_
  refine gz_aload_n K dX9_exchange_51 1 rfl ?_
  refine gz_iload_n K dX9_exchange_52 2 rfl ?_
  refine gz_callV K hex (c_X9_tokenOn K.2.2.2.2.2 K.2.2.1 hp) cf_X9_tokenOn zq4_119 (by decide) (ce_0 _ _ _ _ _ _) rfl dX9_exchange_53 rfl rfl (Nat.le_of_ble_eq_true rfl) ⟨Nat.le_of_ble_eq_true rfl, Nat.le_of_ble_eq_true rfl⟩ ⟨Nat.le_of_ble_eq_true rfl, Nat.le_of_ble_eq_true rfl⟩ (Nat.le_of_ble_eq_true rfl) (Nat.le_of_ble_eq_true rfl) (fun _ _ h => h.elim) (fun r53 τ hp => ?_)
  obtain ⟨rfl, hp⟩ := hp
  refine gz_norm (st' := [.int r53]) (cells' := 2) (slots' := 12) rfl rfl rfl ?_
  exact gz_iret K hr hp dX9_exchange_56 (Nat.le_of_ble_eq_true rfl) (Nat.le_of_ble_eq_true rfl)
set_option maxRecDepth 100000 in
set_option maxHeartbeats 4000000 in
theorem c_X9_token {l : Launch} {D : va_G} {ad : Nat → Nat} {ty : Nat → ClassId} (hl : l.stackTraces = false) (hj : ∀ i j, i < 68 → j < 68 → ad i = ad j → i = j) {σ : Dz} {x1 : Int32} {post : Int32 → Prop} {px : String → Prop} (hp : P_X9_token σ x1 post px) : Mz l D ad ty yX9_token cX9_token 2 (some .int) r_X9_token nI0 σ [.ref (ad 0), .int x1] (fun r τ => σ = τ ∧ post r) (fun E τ => σ = τ ∧ px E) := by
  refine mz_of (by decide) hl hj (Nat.le_of_ble_eq_true rfl) ?_
  intro p e s m args below meth c K hex hr
  unfold P_X9_token at hp
  show Gz p l e r_X9_token s m args below meth c D ad ty 2 0 0 (Ez below D ad ty nI0 (fun r τ => σ = τ ∧ post r) (fun E τ => σ = τ ∧ px E) args s 1 6) σ 0 [(0, .ref (ad 0)), (1, .int x1)] []
  refine gz_aload_n K dX9_token_0 0 rfl ?_
  refine gz_iload_n K dX9_token_1 1 rfl ?_
  refine gz_callV K hex (c_X9_checkPosition K.2.2.2.2.2 K.2.2.1 hp) cf_X9_checkPosition zq3_228 (by decide) (ce_0 _ _ _ _ _ _) rfl dX9_token_2 rfl rfl (Nat.le_of_ble_eq_true rfl) ⟨Nat.le_of_ble_eq_true rfl, Nat.le_of_ble_eq_true rfl⟩ ⟨Nat.le_of_ble_eq_true rfl, Nat.le_of_ble_eq_true rfl⟩ (Nat.le_of_ble_eq_true rfl) (Nat.le_of_ble_eq_true rfl) (fun _ _ h => ⟨h.1, h.2⟩) (fun _ τ hp => ?_)
  obtain ⟨rfl, hp⟩ := hp
  refine gz_norm (st' := []) (cells' := 1) (slots' := 6) rfl rfl rfl ?_
  refine gz_aload_n K dX9_token_5 0 rfl ?_
  refine gz_iload_n K dX9_token_6 1 rfl ?_
  refine gz_callV K hex (c_X9_tokenOn K.2.2.2.2.2 K.2.2.1 hp) cf_X9_tokenOn zq4_119 (by decide) (ce_0 _ _ _ _ _ _) rfl dX9_token_7 rfl rfl (Nat.le_of_ble_eq_true rfl) ⟨Nat.le_of_ble_eq_true rfl, Nat.le_of_ble_eq_true rfl⟩ ⟨Nat.le_of_ble_eq_true rfl, Nat.le_of_ble_eq_true rfl⟩ (Nat.le_of_ble_eq_true rfl) (Nat.le_of_ble_eq_true rfl) (fun _ _ h => h.elim) (fun r7 τ hp => ?_)
  obtain ⟨rfl, hp⟩ := hp
  refine gz_norm (st' := [.int r7]) (cells' := 1) (slots' := 6) rfl rfl rfl ?_
  exact gz_iret K hr ⟨rfl, hp⟩ dX9_token_10 (Nat.le_of_ble_eq_true rfl) (Nat.le_of_ble_eq_true rfl)
set_option maxRecDepth 100000 in
set_option maxHeartbeats 4000000 in
theorem c_X9_currentTable {l : Launch} {D : va_G} {ad : Nat → Nat} {ty : Nat → ClassId} (hl : l.stackTraces = false) (hj : ∀ i j, i < 68 → j < 68 → ad i = ad j → i = j) {σ : Dz} {post : Dz → Prop} (hp : P_X9_currentTable σ post) : Mz l D ad ty yX9_currentTable cX9_currentTable 1 (some (.object "PermutationPuzzle$DepthTable")) r_X9_currentTable (nR0 ad) σ [.ref (ad 0)] (fun r τ => r = 12 ∧ post τ) (fun _ _ => False) := by
  refine mz_of (by decide) hl hj (Nat.le_of_ble_eq_true rfl) ?_
  intro p e s m args below meth c K hex hr
  unfold P_X9_currentTable at hp
  show Gz p l e r_X9_currentTable s m args below meth c D ad ty 1 0 0 (Ez below D ad ty (nR0 ad) (fun r τ => r = 12 ∧ post τ) (fun _ _ => False) args s 0 0) σ 0 [(0, .ref (ad 0))] []
  refine gz_aload_n K dX9_currentTable_0 0 rfl ?_
  refine gz_get K (v := .int (gz_i σ 0 14)) (by decide) (ce_0 _ _ _ _ _ _) rfl inz_X9 14 (by decide) zq1_216 rfl dX9_currentTable_1 ?_
  refine gz_if_ne K 27 dX9_currentTable_4 (by decide) (fun h => ?_) (fun h => ?_)
  · have hp := hp.1 h
    refine gz_aload_n K dX9_currentTable_27 0 rfl ?_
    refine gz_get K (v := .ref (ad 12)) (by decide) (ce_0 _ _ _ _ _ _) rfl inz_X9 5 (by decide) zq1_207 rfl dX9_currentTable_28 ?_
    exact gz_aret K hr ⟨rfl, hp⟩ dX9_currentTable_31 (Nat.le_of_ble_eq_true rfl) (Nat.le_of_ble_eq_true rfl)
  · have hp := hp.2 h
    refine gz_aload_n K dX9_currentTable_7 0 rfl ?_
    refine gz_get K (v := .ref (ad 12)) (by decide) (ce_0 _ _ _ _ _ _) rfl inz_X9 5 (by decide) zq1_207 rfl dX9_currentTable_8 ?_
    refine gz_aload_n K dX9_currentTable_11 0 rfl ?_
    refine gz_get K (v := .ref (ad 17)) (by decide) (ce_0 _ _ _ _ _ _) rfl inz_X9 6 (by decide) zq1_208 rfl dX9_currentTable_12 ?_
    refine gz_aload_n K dX9_currentTable_15 0 rfl ?_
    refine gz_get K (v := .int (gz_i σ 0 11)) (by decide) (ce_0 _ _ _ _ _ _) rfl inz_X9 11 (by decide) zq1_213 rfl dX9_currentTable_16 ?_
    refine gz_callV K hex (c_X2_build K.2.2.2.2.2 K.2.2.1 (by unfold isS; decide) hp) cf_X2_build zq2_22 (by decide) (ce_12 _ _ _ _ _ _) rfl dX9_currentTable_19 rfl rfl (Nat.le_of_ble_eq_true rfl) ⟨Nat.le_of_ble_eq_true rfl, Nat.le_of_ble_eq_true rfl⟩ ⟨Nat.le_of_ble_eq_true rfl, Nat.le_of_ble_eq_true rfl⟩ (Nat.le_of_ble_eq_true rfl) (Nat.le_of_ble_eq_true rfl) (fun _ _ h => h.elim) (fun _ τ19 hp => ?_)
    refine gz_norm (st' := []) (cells' := 0) (slots' := 0) rfl rfl rfl ?_
    refine gz_aload_n K dX9_currentTable_22 0 rfl ?_
    refine gz_iconst K (v := (1 : Int32)) dX9_currentTable_23 (by decide) ?_
    refine gz_put K (x := (1 : Int32)) (by decide) (ce_0 _ _ _ _ _ _) rfl inz_X9 tyX9 tyX9_ok nmX9 14 (by decide) zq1_216 rfl (tyX9_ok _ (by decide)) rfl rfl (Nat.le_of_ble_eq_true rfl) peX9_14 dX9_currentTable_24 ?_
    refine gz_aload_n K dX9_currentTable_27 0 rfl ?_
    refine gz_get K (v := .ref (ad 12)) (by decide) (ce_0 _ _ _ _ _ _) rfl inz_X9 5 (by decide) zq1_207 rfl dX9_currentTable_28 ?_
    exact gz_aret K hr ⟨rfl, hp⟩ dX9_currentTable_31 (Nat.le_of_ble_eq_true rfl) (Nat.le_of_ble_eq_true rfl)
set_option maxRecDepth 100000 in
set_option maxHeartbeats 4000000 in
theorem c_X9_presentDepth {l : Launch} {D : va_G} {ad : Nat → Nat} {ty : Nat → ClassId} (hl : l.stackTraces = false) (hj : ∀ i j, i < 68 → j < 68 → ad i = ad j → i = j) {σ : Dz} {post : Int32 → Dz → Prop} {px : String → Dz → Prop} (hp : P_X9_presentDepth σ post px) : Mz l D ad ty yX9_presentDepth cX9_presentDepth 2 (some .int) r_X9_presentDepth nI0 σ [.ref (ad 0)] post px := by
  refine mz_of (by decide) hl hj (Nat.le_of_ble_eq_true rfl) ?_
  intro p e s m args below meth c K hex hr
  unfold P_X9_presentDepth at hp
  show Gz p l e r_X9_presentDepth s m args below meth c D ad ty 2 0 0 (Ez below D ad ty nI0 post px args s 1 6) σ 0 [(0, .ref (ad 0))] []
  refine gz_aload_n K dX9_presentDepth_0 0 rfl ?_
  refine gz_callV K hex (c_X9_currentTable K.2.2.2.2.2 K.2.2.1 hp) cf_X9_currentTable zq2_18 (by decide) (ce_0 _ _ _ _ _ _) rfl dX9_presentDepth_1 rfl rfl (Nat.le_of_ble_eq_true rfl) ⟨Nat.le_of_ble_eq_true rfl, Nat.le_of_ble_eq_true rfl⟩ ⟨Nat.le_of_ble_eq_true rfl, Nat.le_of_ble_eq_true rfl⟩ (Nat.le_of_ble_eq_true rfl) (Nat.le_of_ble_eq_true rfl) (fun _ _ h => h.elim) (fun r1 τ1 hp => ?_)
  obtain ⟨rfl, hp⟩ := hp
  refine gz_norm (st' := [.ref (ad 12)]) (cells' := 0) (slots' := 0) rfl rfl rfl ?_
  refine gz_aload_n K dX9_presentDepth_4 0 rfl ?_
  refine gz_get K (v := .ref (ad 17)) (by decide) (ce_0 _ _ _ _ _ _) rfl inz_X9 6 (by decide) zq1_208 rfl dX9_presentDepth_5 ?_
  refine gz_callV K hex (c_X4_places K.2.2.2.2.2 K.2.2.1 (by unfold isS; decide) hp) cf_X4_places zq4_99 (by decide) (ce_17 _ _ _ _ _ _) rfl dX9_presentDepth_8 rfl rfl (Nat.le_of_ble_eq_true rfl) ⟨Nat.le_of_ble_eq_true rfl, Nat.le_of_ble_eq_true rfl⟩ ⟨Nat.le_of_ble_eq_true rfl, Nat.le_of_ble_eq_true rfl⟩ (Nat.le_of_ble_eq_true rfl) (Nat.le_of_ble_eq_true rfl) (fun _ _ h => h.elim) (fun r8 τ hp => ?_)
  obtain ⟨rfl, hp⟩ := hp
  refine gz_norm (st' := [.int r8, .ref (ad 12)]) (cells' := 0) (slots' := 0) rfl rfl rfl ?_
  refine gz_callV K hex (c_X2_levelOf K.2.2.2.2.2 K.2.2.1 hp) cf_X2_levelOf zq4_141 (by decide) (ce_12 _ _ _ _ _ _) rfl dX9_presentDepth_11 rfl rfl (Nat.le_of_ble_eq_true rfl) ⟨Nat.le_of_ble_eq_true rfl, Nat.le_of_ble_eq_true rfl⟩ ⟨Nat.le_of_ble_eq_true rfl, Nat.le_of_ble_eq_true rfl⟩ (Nat.le_of_ble_eq_true rfl) (Nat.le_of_ble_eq_true rfl) (fun _ _ h => h.elim) (fun r11 τ hp => ?_)
  obtain ⟨rfl, hp⟩ := hp
  refine gz_norm (st' := [.int r11]) (cells' := 0) (slots' := 0) rfl rfl rfl ?_
  refine gz_istore_n K [(1, .int r11), (0, .ref (ad 0))] dX9_presentDepth_14 (by decide) rfl ?_
  refine gz_iload_n K dX9_presentDepth_15 0 rfl ?_
  refine gz_iconst K (v := (-1 : Int32)) dX9_presentDepth_16 (by decide) ?_
  refine gz_icmp_ne K 31 dX9_presentDepth_17 (by decide) (fun h => ?_) (fun h => ?_)
  · have hp := hp.1 h
    refine gz_iload_n K dX9_presentDepth_31 0 rfl ?_
    exact gz_iret K hr hp dX9_presentDepth_32 (Nat.le_of_ble_eq_true rfl) (Nat.le_of_ble_eq_true rfl)
  · have hp := hp.2 h
    obtain ⟨sa, hsa⟩ := K.2.2.2.2.1.2.2.1 _ (List.mem_of_getElem? (l := zStr) (i := 16) rfl)
    exact gz_throw K hex true rfl xd_NoSuchElementException_0 xd_NoSuchElementException_1 xd_NoSuchElementException_2 xd_NoSuchElementException_5 (by decide) zq3_205 zq1_21 hsa xl_171 dX9_presentDepth_20 dX9_presentDepth_23 dX9_presentDepth_24 dX9_presentDepth_27 dX9_presentDepth_30 (Nat.le_of_ble_eq_true rfl) (Nat.le_of_ble_eq_true rfl) (Nat.le_of_ble_eq_true rfl) (Nat.le_of_ble_eq_true rfl) hp (Nat.le_of_ble_eq_true rfl) (Nat.le_of_ble_eq_true rfl)
set_option maxRecDepth 100000 in
set_option maxHeartbeats 4000000 in
theorem c_X9_depth {l : Launch} {D : va_G} {ad : Nat → Nat} {ty : Nat → ClassId} (hl : l.stackTraces = false) (hj : ∀ i j, i < 68 → j < 68 → ad i = ad j → i = j) {σ : Dz} {post : Int32 → Dz → Prop} {px : String → Dz → Prop} (hp : P_X9_depth σ post px) : Mz l D ad ty yX9_depth cX9_depth 1 (some .int) r_X9_depth nI0 σ [.ref (ad 0)] post px := by
  refine mz_of (by decide) hl hj (Nat.le_of_ble_eq_true rfl) ?_
  intro p e s m args below meth c K hex hr
  unfold P_X9_depth at hp
  show Gz p l e r_X9_depth s m args below meth c D ad ty 1 0 0 (Ez below D ad ty nI0 post px args s 1 6) σ 0 [(0, .ref (ad 0))] []
  refine gz_aload_n K dX9_depth_0 0 rfl ?_
  refine gz_callV K hex (c_X9_presentDepth K.2.2.2.2.2 K.2.2.1 hp) cf_X9_presentDepth zq4_137 (by decide) (ce_0 _ _ _ _ _ _) rfl dX9_depth_1 rfl rfl (Nat.le_of_ble_eq_true rfl) ⟨Nat.le_of_ble_eq_true rfl, Nat.le_of_ble_eq_true rfl⟩ ⟨Nat.le_of_ble_eq_true rfl, Nat.le_of_ble_eq_true rfl⟩ (Nat.le_of_ble_eq_true rfl) (Nat.le_of_ble_eq_true rfl) (fun _ _ h => h) (fun r1 τ1 hp => ?_)
  refine gz_norm (st' := [.int r1]) (cells' := 1) (slots' := 6) rfl rfl rfl ?_
  exact gz_iret K hr hp dX9_depth_4 (Nat.le_of_ble_eq_true rfl) (Nat.le_of_ble_eq_true rfl)
set_option maxRecDepth 100000 in
set_option maxHeartbeats 4000000 in
theorem c_X9_firstLetterTo {l : Launch} {D : va_G} {ad : Nat → Nat} {ty : Nat → ClassId} (hl : l.stackTraces = false) (hj : ∀ i j, i < 68 → j < 68 → ad i = ad j → i = j) {σ : Dz} {x1 : Int32} {x2 : Int32} {post : Int32 → Prop} (hp : P_X9_firstLetterTo σ x1 x2 post) : Mz l D ad ty yX9_firstLetterTo cX9_firstLetterTo 5 (some .int) r_X9_firstLetterTo nI0 σ [.ref (ad 0), .int x1, .int x2] (fun r τ => σ = τ ∧ post r) (fun _ _ => False) := by
  refine mz_of (by decide) hl hj (Nat.le_of_ble_eq_true rfl) ?_
  intro p e s m args below meth c K hex hr
  unfold P_X9_firstLetterTo at hp
  show Gz p l e r_X9_firstLetterTo s m args below meth c D ad ty 5 0 0 (Ez below D ad ty nI0 (fun r τ => σ = τ ∧ post r) (fun _ _ => False) args s 0 0) σ 0 [(0, .ref (ad 0)), (1, .int x1), (2, .int x2)] []
  refine gz_iconst K (v := (0 : Int32)) dX9_firstLetterTo_0 (by decide) ?_
  refine gz_istore_n K [(3, .int (0 : Int32)), (0, .ref (ad 0)), (1, .int x1), (2, .int x2)] dX9_firstLetterTo_1 (by decide) rfl ?_
  refine gz_sub [1, 2, 3, 0] rfl ?_
  have ll_2 : ∀ (n_2 : Nat) (y1 : Int32) (y2 : Int32) (y3 : Int32) , L_X9_firstLetterTo_2 σ post  n_2 y1 y2 y3 → Gz p l e r_X9_firstLetterTo s m args below meth c D ad ty 5 0 0 (Ez below D ad ty nI0 (fun r τ => σ = τ ∧ post r) (fun _ _ => False) args s 0 0) σ 2 [(0, .ref (ad 0)), (1, .int y1), (2, .int y2), (3, .int y3)] [] := by
    intro n_2; induction n_2 with
    | zero => intro y1 y2 y3 hp; exact False.elim hp
    | succ n_2 ih_2 =>
      intro y1 y2 y3 hp
      have hp : B_X9_firstLetterTo_2 σ post  (L_X9_firstLetterTo_2 σ post  n_2) y1 y2 y3 := hp
      unfold B_X9_firstLetterTo_2 at hp
      have bb_50 : ∀ (y1 : Int32) (y2 : Int32) (y3 : Int32) , B_X9_firstLetterTo_50 σ post (L_X9_firstLetterTo_2 σ post  n_2) y1 y2 y3 → Gz p l e r_X9_firstLetterTo s m args below meth c D ad ty 5 0 0 (Ez below D ad ty nI0 (fun r τ => σ = τ ∧ post r) (fun _ _ => False) args s 0 0) σ 50 [(0, .ref (ad 0)), (1, .int y1), (2, .int y2), (3, .int y3)] [] := by
        intro y1 y2 y3 hp
        unfold B_X9_firstLetterTo_50 at hp
        refine gz_iinc K (v := (y3 + 1)) [(3, .int (y3 + 1)), (0, .ref (ad 0)), (1, .int y1), (2, .int y2)] dX9_firstLetterTo_50 3 rfl (by first | rfl | decide) (by decide) rfl ?_
        refine gz_goto K 2 dX9_firstLetterTo_53 (by decide) ?_
        refine gz_sub [1, 2, 3, 0] rfl ?_
        exact ih_2 y1 y2 (y3 + 1)  hp
      refine gz_iload_n K dX9_firstLetterTo_2 3 rfl ?_
      refine gz_bipush K (v := (10 : Int32)) dX9_firstLetterTo_3 (by decide) ?_
      refine gz_icmp_ge K 56 dX9_firstLetterTo_5 (by decide) (fun h => ?_) (fun h => ?_)
      · have hp := hp.1 h
        refine gz_iconst K (v := (0 : Int32)) dX9_firstLetterTo_56 (by decide) ?_
        exact gz_iret K hr ⟨rfl, hp⟩ dX9_firstLetterTo_57 (Nat.le_of_ble_eq_true rfl) (Nat.le_of_ble_eq_true rfl)
      · have hp := hp.2 h
        refine gz_iload_n K dX9_firstLetterTo_8 1 rfl ?_
        refine gz_aload_n K dX9_firstLetterTo_9 0 rfl ?_
        refine gz_get K (v := .ref (ad 17)) (by decide) (ce_0 _ _ _ _ _ _) rfl inz_X9 6 (by decide) zq1_208 rfl dX9_firstLetterTo_10 ?_
        refine gz_iload_n K dX9_firstLetterTo_13 3 rfl ?_
        refine gz_callV K hex (c_X4_effectOfLetter K.2.2.2.2.2 K.2.2.1 (by unfold isS; decide) hp) cf_X4_effectOfLetter zq3_235 (by decide) (ce_17 _ _ _ _ _ _) rfl dX9_firstLetterTo_14 rfl rfl (Nat.le_of_ble_eq_true rfl) ⟨Nat.le_of_ble_eq_true rfl, Nat.le_of_ble_eq_true rfl⟩ ⟨Nat.le_of_ble_eq_true rfl, Nat.le_of_ble_eq_true rfl⟩ (Nat.le_of_ble_eq_true rfl) (Nat.le_of_ble_eq_true rfl) (fun _ _ h => h.elim) (fun r14 τ hp => ?_)
        obtain ⟨rfl, hp⟩ := hp
        refine gz_norm (st' := [.int r14, .int y1]) (cells' := 0) (slots' := 0) rfl rfl rfl ?_
        refine gz_callS K hex (c_X3_then K.2.2.2.2.2 K.2.2.1 hp) cf_X3_then zq4_106 dX9_firstLetterTo_17 rfl rfl (Nat.le_of_ble_eq_true rfl) ⟨Nat.le_of_ble_eq_true rfl, Nat.le_of_ble_eq_true rfl⟩ ⟨Nat.le_of_ble_eq_true rfl, Nat.le_of_ble_eq_true rfl⟩ (Nat.le_of_ble_eq_true rfl) (Nat.le_of_ble_eq_true rfl) (fun _ _ h => h.elim) (fun r17 τ hp => ?_)
        obtain ⟨rfl, hp⟩ := hp
        refine gz_norm (st' := [.int r17]) (cells' := 0) (slots' := 0) rfl rfl rfl ?_
        refine gz_istore K [(4, .int r17), (0, .ref (ad 0)), (1, .int y1), (2, .int y2), (3, .int y3)] dX9_firstLetterTo_20 (by decide) rfl ?_
        refine gz_aload_n K dX9_firstLetterTo_22 1 rfl ?_
        refine gz_get K (v := .ref (ad 17)) (by decide) (ce_0 _ _ _ _ _ _) rfl inz_X9 6 (by decide) zq1_208 rfl dX9_firstLetterTo_23 ?_
        refine gz_iload_n K dX9_firstLetterTo_26 4 rfl ?_
        refine gz_iconst K (v := (2 : Int32)) dX9_firstLetterTo_27 (by decide) ?_
        refine gz_idiv K dX9_firstLetterTo_28 (by decide) ?_
        refine gz_callV K hex (c_X4_isDefined K.2.2.2.2.2 K.2.2.1 (by unfold isS; decide) hp) cf_X4_isDefined zq3_233 (by decide) (ce_17 _ _ _ _ _ _) rfl dX9_firstLetterTo_29 rfl rfl (Nat.le_of_ble_eq_true rfl) ⟨Nat.le_of_ble_eq_true rfl, Nat.le_of_ble_eq_true rfl⟩ ⟨Nat.le_of_ble_eq_true rfl, Nat.le_of_ble_eq_true rfl⟩ (Nat.le_of_ble_eq_true rfl) (Nat.le_of_ble_eq_true rfl) (fun _ _ h => h.elim) (fun r29 τ hp => ?_)
        obtain ⟨rfl, hp⟩ := hp
        refine gz_norm (st' := [.int r29]) (cells' := 0) (slots' := 0) rfl rfl rfl ?_
        refine gz_if_eq K 50 dX9_firstLetterTo_32 (by decide) (fun h => ?_) (fun h => ?_)
        · have hp := hp.1 h
          refine gz_sub [1, 2, 3, 4] rfl ?_
          exact bb_50 y1 y2 y3  hp
        · have hp := hp.2 h
          refine gz_aload_n K dX9_firstLetterTo_35 1 rfl ?_
          refine gz_get K (v := .ref (ad 12)) (by decide) (ce_0 _ _ _ _ _ _) rfl inz_X9 5 (by decide) zq1_207 rfl dX9_firstLetterTo_36 ?_
          refine gz_iload K dX9_firstLetterTo_39 0 rfl ?_
          refine gz_callV K hex (c_X2_levelOf K.2.2.2.2.2 K.2.2.1 hp) cf_X2_levelOf zq4_141 (by decide) (ce_12 _ _ _ _ _ _) rfl dX9_firstLetterTo_41 rfl rfl (Nat.le_of_ble_eq_true rfl) ⟨Nat.le_of_ble_eq_true rfl, Nat.le_of_ble_eq_true rfl⟩ ⟨Nat.le_of_ble_eq_true rfl, Nat.le_of_ble_eq_true rfl⟩ (Nat.le_of_ble_eq_true rfl) (Nat.le_of_ble_eq_true rfl) (fun _ _ h => h.elim) (fun r41 τ hp => ?_)
          obtain ⟨rfl, hp⟩ := hp
          refine gz_norm (st' := [.int r41]) (cells' := 0) (slots' := 0) rfl rfl rfl ?_
          refine gz_iload_n K dX9_firstLetterTo_44 3 rfl ?_
          refine gz_icmp_ne K 50 dX9_firstLetterTo_45 (by decide) (fun h => ?_) (fun h => ?_)
          · have hp := hp.1 h
            refine gz_sub [1, 2, 3, 4] rfl ?_
            exact bb_50 y1 y2 y3  hp
          · have hp := hp.2 h
            refine gz_iload_n K dX9_firstLetterTo_48 4 rfl ?_
            exact gz_iret K hr ⟨rfl, hp⟩ dX9_firstLetterTo_49 (Nat.le_of_ble_eq_true rfl) (Nat.le_of_ble_eq_true rfl)
  obtain ⟨n, hp⟩ := hp
  exact ll_2 n x1 x2 (0 : Int32)  hp
set_option maxRecDepth 100000 in
set_option maxHeartbeats 4000000 in
theorem c_X9_solve {l : Launch} {D : va_G} {ad : Nat → Nat} {ty : Nat → ClassId} (hl : l.stackTraces = false) (hj : ∀ i j, i < 68 → j < 68 → ad i = ad j → i = j) {σ : Dz} {x1 : Int32} {post : Int32 → Dz → Prop} {px : String → Dz → Prop} (hp : P_X9_solve σ x1 post px) : Mz l D ad ty yX9_solve cX9_solve 6 (some .int) r_X9_solve nI0 σ [.ref (ad 0), .int x1] post px := by
  refine mz_of (by decide) hl hj (Nat.le_of_ble_eq_true rfl) ?_
  intro p e s m args below meth c K hex hr
  unfold P_X9_solve at hp
  show Gz p l e r_X9_solve s m args below meth c D ad ty 6 0 0 (Ez below D ad ty nI0 post px args s 2 12) σ 0 [(0, .ref (ad 0)), (1, .int x1)] []
  refine gz_iload_n K dX9_solve_0 1 rfl ?_
  refine gz_callS K hex (c_X9_checkSlot K.2.2.2.2.2 K.2.2.1 hp) cf_X9_checkSlot zq3_104 dX9_solve_1 rfl rfl (Nat.le_of_ble_eq_true rfl) ⟨Nat.le_of_ble_eq_true rfl, Nat.le_of_ble_eq_true rfl⟩ ⟨Nat.le_of_ble_eq_true rfl, Nat.le_of_ble_eq_true rfl⟩ (Nat.le_of_ble_eq_true rfl) (Nat.le_of_ble_eq_true rfl) (fun _ _ h => h.1 ▸ h.2) (fun _ τ hp => ?_)
  obtain ⟨rfl, hp⟩ := hp
  refine gz_norm (st' := []) (cells' := 1) (slots' := 6) rfl rfl rfl ?_
  refine gz_aload_n K dX9_solve_4 0 rfl ?_
  refine gz_callV K hex (c_X9_presentDepth K.2.2.2.2.2 K.2.2.1 hp) cf_X9_presentDepth zq4_137 (by decide) (ce_0 _ _ _ _ _ _) rfl dX9_solve_5 rfl rfl (Nat.le_of_ble_eq_true rfl) ⟨Nat.le_of_ble_eq_true rfl, Nat.le_of_ble_eq_true rfl⟩ ⟨Nat.le_of_ble_eq_true rfl, Nat.le_of_ble_eq_true rfl⟩ (Nat.le_of_ble_eq_true rfl) (Nat.le_of_ble_eq_true rfl) (fun _ _ h => h) (fun r5 τ5 hp => ?_)
  refine gz_norm (st' := [.int r5]) (cells' := 2) (slots' := 12) rfl rfl rfl ?_
  refine gz_istore_n K [(2, .int r5), (0, .ref (ad 0)), (1, .int x1)] dX9_solve_8 (by decide) rfl ?_
  refine gz_aload_n K dX9_solve_9 1 rfl ?_
  refine gz_get K (v := .ref (ad 39)) (by decide) (ce_0 _ _ _ _ _ _) rfl inz_X9 8 (by decide) zq1_210 rfl dX9_solve_10 ?_
  refine gz_callV K hex (c_X6_clear K.2.2.2.2.2 K.2.2.1 (by unfold isW; decide) hp) cf_X6_clear zq4_20 (by decide) (ce_39 _ _ _ _ _ _) rfl dX9_solve_13 rfl rfl (Nat.le_of_ble_eq_true rfl) ⟨Nat.le_of_ble_eq_true rfl, Nat.le_of_ble_eq_true rfl⟩ ⟨Nat.le_of_ble_eq_true rfl, Nat.le_of_ble_eq_true rfl⟩ (Nat.le_of_ble_eq_true rfl) (Nat.le_of_ble_eq_true rfl) (fun _ _ h => h.elim) (fun _ τ13 hp => ?_)
  refine gz_norm (st' := []) (cells' := 2) (slots' := 12) rfl rfl rfl ?_
  refine gz_aload_n K dX9_solve_16 1 rfl ?_
  refine gz_get K (v := .ref (ad 17)) (by decide) (ce_0 _ _ _ _ _ _) rfl inz_X9 6 (by decide) zq1_208 rfl dX9_solve_17 ?_
  refine gz_callV K hex (c_X4_places K.2.2.2.2.2 K.2.2.1 (by unfold isS; decide) hp) cf_X4_places zq4_99 (by decide) (ce_17 _ _ _ _ _ _) rfl dX9_solve_20 rfl rfl (Nat.le_of_ble_eq_true rfl) ⟨Nat.le_of_ble_eq_true rfl, Nat.le_of_ble_eq_true rfl⟩ ⟨Nat.le_of_ble_eq_true rfl, Nat.le_of_ble_eq_true rfl⟩ (Nat.le_of_ble_eq_true rfl) (Nat.le_of_ble_eq_true rfl) (fun _ _ h => h.elim) (fun r20 τ hp => ?_)
  obtain ⟨rfl, hp⟩ := hp
  refine gz_norm (st' := [.int r20]) (cells' := 2) (slots' := 12) rfl rfl rfl ?_
  refine gz_istore_n K [(3, .int r20), (2, .int r5), (0, .ref (ad 0)), (1, .int x1)] dX9_solve_23 (by decide) rfl ?_
  refine gz_iload_n K dX9_solve_24 1 rfl ?_
  refine gz_istore K [(4, .int r5), (3, .int r20), (2, .int r5), (0, .ref (ad 0)), (1, .int x1)] dX9_solve_25 (by decide) rfl ?_
  refine gz_sub [3, 4, 1, 0] rfl ?_
  have ll_27 : ∀ (n_27 : Nat) (σ : Dz) (y1 : Int32) (y3 : Int32) (y4 : Int32) , L_X9_solve_27 post px  n_27 σ y1 y3 y4 → Gz p l e r_X9_solve s m args below meth c D ad ty 6 2 12 (Ez below D ad ty nI0 post px args s 2 12) σ 27 [(0, .ref (ad 0)), (1, .int y1), (3, .int y3), (4, .int y4)] [] := by
    intro n_27; induction n_27 with
    | zero => intro σ y1 y3 y4 hp; exact False.elim hp
    | succ n_27 ih_27 =>
      intro σ y1 y3 y4 hp
      have hp : B_X9_solve_27 post px  (L_X9_solve_27 post px  n_27) σ y1 y3 y4 := hp
      unfold B_X9_solve_27 at hp
      refine gz_iload K dX9_solve_27 3 rfl ?_
      refine gz_if_le K 73 dX9_solve_29 (by decide) (fun h => ?_) (fun h => ?_)
      · have hp := hp.1 h
        refine gz_aload_n K dX9_solve_73 0 rfl ?_
        refine gz_iload_n K dX9_solve_74 1 rfl ?_
        refine gz_callV K hex (c_X9_keepDraft K.2.2.2.2.2 K.2.2.1 hp) cf_X9_keepDraft zq3_187 (by decide) (ce_0 _ _ _ _ _ _) rfl dX9_solve_75 rfl rfl (Nat.le_of_ble_eq_true rfl) ⟨Nat.le_of_ble_eq_true rfl, Nat.le_of_ble_eq_true rfl⟩ ⟨Nat.le_of_ble_eq_true rfl, Nat.le_of_ble_eq_true rfl⟩ (Nat.le_of_ble_eq_true rfl) (Nat.le_of_ble_eq_true rfl) (fun _ _ h => h.elim) (fun r75 τ75 hp => ?_)
        refine gz_norm (st' := [.int r75]) (cells' := 2) (slots' := 12) rfl rfl rfl ?_
        exact gz_iret K hr hp dX9_solve_78 (Nat.le_of_ble_eq_true rfl) (Nat.le_of_ble_eq_true rfl)
      · have hp := hp.2 h
        refine gz_aload_n K dX9_solve_32 0 rfl ?_
        refine gz_iload_n K dX9_solve_33 2 rfl ?_
        refine gz_iload K dX9_solve_34 3 rfl ?_
        refine gz_iconst K (v := (1 : Int32)) dX9_solve_36 (by decide) ?_
        refine gz_isub K dX9_solve_37 ?_
        refine gz_callV K hex (c_X9_firstLetterTo K.2.2.2.2.2 K.2.2.1 hp) cf_X9_firstLetterTo zq4_153 (by decide) (ce_0 _ _ _ _ _ _) rfl dX9_solve_38 rfl rfl (Nat.le_of_ble_eq_true rfl) ⟨Nat.le_of_ble_eq_true rfl, Nat.le_of_ble_eq_true rfl⟩ ⟨Nat.le_of_ble_eq_true rfl, Nat.le_of_ble_eq_true rfl⟩ (Nat.le_of_ble_eq_true rfl) (Nat.le_of_ble_eq_true rfl) (fun _ _ h => h.elim) (fun r38 τ hp => ?_)
        obtain ⟨rfl, hp⟩ := hp
        refine gz_norm (st' := [.int r38]) (cells' := 2) (slots' := 12) rfl rfl rfl ?_
        refine gz_istore K [(5, .int r38), (0, .ref (ad 0)), (1, .int y1), (3, .int y3), (4, .int y4)] dX9_solve_41 (by decide) rfl ?_
        refine gz_aload_n K dX9_solve_43 1 rfl ?_
        refine gz_get K (v := .ref (ad 39)) (by decide) (ce_0 _ _ _ _ _ _) rfl inz_X9 8 (by decide) zq1_210 rfl dX9_solve_44 ?_
        refine gz_iload K dX9_solve_47 0 rfl ?_
        refine gz_callV K hex (c_X6_add K.2.2.2.2.2 K.2.2.1 (by unfold isW; decide) hp) cf_X6_add zq4_157 (by decide) (ce_39 _ _ _ _ _ _) rfl dX9_solve_49 rfl rfl (Nat.le_of_ble_eq_true rfl) ⟨Nat.le_of_ble_eq_true rfl, Nat.le_of_ble_eq_true rfl⟩ ⟨Nat.le_of_ble_eq_true rfl, Nat.le_of_ble_eq_true rfl⟩ (Nat.le_of_ble_eq_true rfl) (Nat.le_of_ble_eq_true rfl) (fun _ _ h => h.elim) (fun r49 τ49 hp => ?_)
        refine gz_norm (st' := [.int r49]) (cells' := 2) (slots' := 12) rfl rfl rfl ?_
        refine gz_pop K dX9_solve_52 rfl ?_
        refine gz_iload_n K dX9_solve_53 3 rfl ?_
        refine gz_aload_n K dX9_solve_54 1 rfl ?_
        refine gz_get K (v := .ref (ad 17)) (by decide) (ce_0 _ _ _ _ _ _) rfl inz_X9 6 (by decide) zq1_208 rfl dX9_solve_55 ?_
        refine gz_iload K dX9_solve_58 0 rfl ?_
        refine gz_callV K hex (c_X4_effectOfLetter K.2.2.2.2.2 K.2.2.1 (by unfold isS; decide) hp) cf_X4_effectOfLetter zq3_235 (by decide) (ce_17 _ _ _ _ _ _) rfl dX9_solve_60 rfl rfl (Nat.le_of_ble_eq_true rfl) ⟨Nat.le_of_ble_eq_true rfl, Nat.le_of_ble_eq_true rfl⟩ ⟨Nat.le_of_ble_eq_true rfl, Nat.le_of_ble_eq_true rfl⟩ (Nat.le_of_ble_eq_true rfl) (Nat.le_of_ble_eq_true rfl) (fun _ _ h => h.elim) (fun r60 τ hp => ?_)
        obtain ⟨rfl, hp⟩ := hp
        refine gz_norm (st' := [.int r60, .int y3]) (cells' := 2) (slots' := 12) rfl rfl rfl ?_
        refine gz_callS K hex (c_X3_then K.2.2.2.2.2 K.2.2.1 hp) cf_X3_then zq4_106 dX9_solve_63 rfl rfl (Nat.le_of_ble_eq_true rfl) ⟨Nat.le_of_ble_eq_true rfl, Nat.le_of_ble_eq_true rfl⟩ ⟨Nat.le_of_ble_eq_true rfl, Nat.le_of_ble_eq_true rfl⟩ (Nat.le_of_ble_eq_true rfl) (Nat.le_of_ble_eq_true rfl) (fun _ _ h => h.elim) (fun r63 τ hp => ?_)
        obtain ⟨rfl, hp⟩ := hp
        refine gz_norm (st' := [.int r63]) (cells' := 2) (slots' := 12) rfl rfl rfl ?_
        refine gz_istore_n K [(3, .int r63), (5, .int r38), (0, .ref (ad 0)), (1, .int y1), (4, .int y4)] dX9_solve_66 (by decide) rfl ?_
        refine gz_iinc K (v := (y4 + (-1))) [(4, .int (y4 + (-1))), (3, .int r63), (5, .int r38), (0, .ref (ad 0)), (1, .int y1)] dX9_solve_67 4 rfl (by first | rfl | decide) (by decide) rfl ?_
        refine gz_goto K 27 dX9_solve_70 (by decide) ?_
        refine gz_sub [3, 4, 1, 0] rfl ?_
        exact ih_27 τ49 y1 r63 (y4 + (-1))  hp
  obtain ⟨n, hp⟩ := hp
  exact ll_27 n τ13 x1 r20 r5  hp
set_option maxRecDepth 100000 in
set_option maxHeartbeats 4000000 in
theorem c_X9_countAt {l : Launch} {D : va_G} {ad : Nat → Nat} {ty : Nat → ClassId} (hl : l.stackTraces = false) (hj : ∀ i j, i < 68 → j < 68 → ad i = ad j → i = j) {σ : Dz} {x1 : Int32} {post : Int32 → Dz → Prop} (hp : P_X9_countAt σ x1 post) : Mz l D ad ty yX9_countAt cX9_countAt 2 (some .int) r_X9_countAt nI0 σ [.ref (ad 0), .int x1] post (fun _ _ => False) := by
  refine mz_of (by decide) hl hj (Nat.le_of_ble_eq_true rfl) ?_
  intro p e s m args below meth c K hex hr
  unfold P_X9_countAt at hp
  show Gz p l e r_X9_countAt s m args below meth c D ad ty 2 0 0 (Ez below D ad ty nI0 post (fun _ _ => False) args s 0 0) σ 0 [(0, .ref (ad 0)), (1, .int x1)] []
  refine gz_aload_n K dX9_countAt_0 0 rfl ?_
  refine gz_callV K hex (c_X9_currentTable K.2.2.2.2.2 K.2.2.1 hp) cf_X9_currentTable zq2_18 (by decide) (ce_0 _ _ _ _ _ _) rfl dX9_countAt_1 rfl rfl (Nat.le_of_ble_eq_true rfl) ⟨Nat.le_of_ble_eq_true rfl, Nat.le_of_ble_eq_true rfl⟩ ⟨Nat.le_of_ble_eq_true rfl, Nat.le_of_ble_eq_true rfl⟩ (Nat.le_of_ble_eq_true rfl) (Nat.le_of_ble_eq_true rfl) (fun _ _ h => h.elim) (fun r1 τ1 hp => ?_)
  obtain ⟨rfl, hp⟩ := hp
  refine gz_norm (st' := [.ref (ad 12)]) (cells' := 0) (slots' := 0) rfl rfl rfl ?_
  refine gz_iload_n K dX9_countAt_4 1 rfl ?_
  refine gz_callV K hex (c_X2_sizeOfLevel K.2.2.2.2.2 K.2.2.1 hp) cf_X2_sizeOfLevel zq2_62 (by decide) (ce_12 _ _ _ _ _ _) rfl dX9_countAt_5 rfl rfl (Nat.le_of_ble_eq_true rfl) ⟨Nat.le_of_ble_eq_true rfl, Nat.le_of_ble_eq_true rfl⟩ ⟨Nat.le_of_ble_eq_true rfl, Nat.le_of_ble_eq_true rfl⟩ (Nat.le_of_ble_eq_true rfl) (Nat.le_of_ble_eq_true rfl) (fun _ _ h => h.elim) (fun r5 τ hp => ?_)
  obtain ⟨rfl, hp⟩ := hp
  refine gz_norm (st' := [.int r5]) (cells' := 0) (slots' := 0) rfl rfl rfl ?_
  exact gz_iret K hr hp dX9_countAt_8 (Nat.le_of_ble_eq_true rfl) (Nat.le_of_ble_eq_true rfl)
set_option maxRecDepth 100000 in
set_option maxHeartbeats 4000000 in
theorem c_X9_reachable {l : Launch} {D : va_G} {ad : Nat → Nat} {ty : Nat → ClassId} (hl : l.stackTraces = false) (hj : ∀ i j, i < 68 → j < 68 → ad i = ad j → i = j) {σ : Dz} {post : Int32 → Dz → Prop} (hp : P_X9_reachable σ post) : Mz l D ad ty yX9_reachable cX9_reachable 1 (some .int) r_X9_reachable nI0 σ [.ref (ad 0)] post (fun _ _ => False) := by
  refine mz_of (by decide) hl hj (Nat.le_of_ble_eq_true rfl) ?_
  intro p e s m args below meth c K hex hr
  unfold P_X9_reachable at hp
  show Gz p l e r_X9_reachable s m args below meth c D ad ty 1 0 0 (Ez below D ad ty nI0 post (fun _ _ => False) args s 0 0) σ 0 [(0, .ref (ad 0))] []
  refine gz_aload_n K dX9_reachable_0 0 rfl ?_
  refine gz_callV K hex (c_X9_currentTable K.2.2.2.2.2 K.2.2.1 hp) cf_X9_currentTable zq2_18 (by decide) (ce_0 _ _ _ _ _ _) rfl dX9_reachable_1 rfl rfl (Nat.le_of_ble_eq_true rfl) ⟨Nat.le_of_ble_eq_true rfl, Nat.le_of_ble_eq_true rfl⟩ ⟨Nat.le_of_ble_eq_true rfl, Nat.le_of_ble_eq_true rfl⟩ (Nat.le_of_ble_eq_true rfl) (Nat.le_of_ble_eq_true rfl) (fun _ _ h => h.elim) (fun r1 τ1 hp => ?_)
  obtain ⟨rfl, hp⟩ := hp
  refine gz_norm (st' := [.ref (ad 12)]) (cells' := 0) (slots' := 0) rfl rfl rfl ?_
  refine gz_callV K hex (c_X2_size K.2.2.2.2.2 K.2.2.1 hp) cf_X2_size zq2_70 (by decide) (ce_12 _ _ _ _ _ _) rfl dX9_reachable_4 rfl rfl (Nat.le_of_ble_eq_true rfl) ⟨Nat.le_of_ble_eq_true rfl, Nat.le_of_ble_eq_true rfl⟩ ⟨Nat.le_of_ble_eq_true rfl, Nat.le_of_ble_eq_true rfl⟩ (Nat.le_of_ble_eq_true rfl) (Nat.le_of_ble_eq_true rfl) (fun _ _ h => h.elim) (fun r4 τ hp => ?_)
  obtain ⟨rfl, hp⟩ := hp
  refine gz_norm (st' := [.int r4]) (cells' := 0) (slots' := 0) rfl rfl rfl ?_
  exact gz_iret K hr hp dX9_reachable_7 (Nat.le_of_ble_eq_true rfl) (Nat.le_of_ble_eq_true rfl)
set_option maxRecDepth 100000 in
set_option maxHeartbeats 4000000 in
theorem c_X9_greatestDepth {l : Launch} {D : va_G} {ad : Nat → Nat} {ty : Nat → ClassId} (hl : l.stackTraces = false) (hj : ∀ i j, i < 68 → j < 68 → ad i = ad j → i = j) {σ : Dz} {post : Int32 → Dz → Prop} (hp : P_X9_greatestDepth σ post) : Mz l D ad ty yX9_greatestDepth cX9_greatestDepth 1 (some .int) r_X9_greatestDepth nI0 σ [.ref (ad 0)] post (fun _ _ => False) := by
  refine mz_of (by decide) hl hj (Nat.le_of_ble_eq_true rfl) ?_
  intro p e s m args below meth c K hex hr
  unfold P_X9_greatestDepth at hp
  show Gz p l e r_X9_greatestDepth s m args below meth c D ad ty 1 0 0 (Ez below D ad ty nI0 post (fun _ _ => False) args s 0 0) σ 0 [(0, .ref (ad 0))] []
  refine gz_aload_n K dX9_greatestDepth_0 0 rfl ?_
  refine gz_callV K hex (c_X9_currentTable K.2.2.2.2.2 K.2.2.1 hp) cf_X9_currentTable zq2_18 (by decide) (ce_0 _ _ _ _ _ _) rfl dX9_greatestDepth_1 rfl rfl (Nat.le_of_ble_eq_true rfl) ⟨Nat.le_of_ble_eq_true rfl, Nat.le_of_ble_eq_true rfl⟩ ⟨Nat.le_of_ble_eq_true rfl, Nat.le_of_ble_eq_true rfl⟩ (Nat.le_of_ble_eq_true rfl) (Nat.le_of_ble_eq_true rfl) (fun _ _ h => h.elim) (fun r1 τ1 hp => ?_)
  obtain ⟨rfl, hp⟩ := hp
  refine gz_norm (st' := [.ref (ad 12)]) (cells' := 0) (slots' := 0) rfl rfl rfl ?_
  refine gz_callV K hex (c_X2_lastLevel K.2.2.2.2.2 K.2.2.1 hp) cf_X2_lastLevel zq2_78 (by decide) (ce_12 _ _ _ _ _ _) rfl dX9_greatestDepth_4 rfl rfl (Nat.le_of_ble_eq_true rfl) ⟨Nat.le_of_ble_eq_true rfl, Nat.le_of_ble_eq_true rfl⟩ ⟨Nat.le_of_ble_eq_true rfl, Nat.le_of_ble_eq_true rfl⟩ (Nat.le_of_ble_eq_true rfl) (Nat.le_of_ble_eq_true rfl) (fun _ _ h => h.elim) (fun r4 τ hp => ?_)
  obtain ⟨rfl, hp⟩ := hp
  refine gz_norm (st' := [.int r4]) (cells' := 0) (slots' := 0) rfl rfl rfl ?_
  exact gz_iret K hr hp dX9_greatestDepth_7 (Nat.le_of_ble_eq_true rfl) (Nat.le_of_ble_eq_true rfl)
set_option maxRecDepth 100000 in
set_option maxHeartbeats 4000000 in
theorem c_X9_averageDepth {l : Launch} {D : va_G} {ad : Nat → Nat} {ty : Nat → ClassId} (hl : l.stackTraces = false) (hj : ∀ i j, i < 68 → j < 68 → ad i = ad j → i = j) {σ : Dz} {post : UInt64 → Dz → Prop} (hp : P_X9_averageDepth σ post) : Mz l D ad ty yX9_averageDepth cX9_averageDepth 3 (some .double) r_X9_averageDepth nD0 σ [.ref (ad 0)] post (fun _ _ => False) := by
  refine mz_of (by decide) hl hj (Nat.le_of_ble_eq_true rfl) ?_
  intro p e s m args below meth c K hex hr
  unfold P_X9_averageDepth at hp
  show Gz p l e r_X9_averageDepth s m args below meth c D ad ty 3 0 0 (Ez below D ad ty nD0 post (fun _ _ => False) args s 0 0) σ 0 [(0, .ref (ad 0))] []
  refine gz_aload_n K dX9_averageDepth_0 0 rfl ?_
  refine gz_callV K hex (c_X9_currentTable K.2.2.2.2.2 K.2.2.1 hp) cf_X9_currentTable zq2_18 (by decide) (ce_0 _ _ _ _ _ _) rfl dX9_averageDepth_1 rfl rfl (Nat.le_of_ble_eq_true rfl) ⟨Nat.le_of_ble_eq_true rfl, Nat.le_of_ble_eq_true rfl⟩ ⟨Nat.le_of_ble_eq_true rfl, Nat.le_of_ble_eq_true rfl⟩ (Nat.le_of_ble_eq_true rfl) (Nat.le_of_ble_eq_true rfl) (fun _ _ h => h.elim) (fun r1 τ1 hp => ?_)
  obtain ⟨rfl, hp⟩ := hp
  refine gz_norm (st' := [.ref (ad 12)]) (cells' := 0) (slots' := 0) rfl rfl rfl ?_
  refine gz_astore_n K [(1, .ref (ad 12)), (0, .ref (ad 0))] dX9_averageDepth_4 (by decide) rfl ?_
  refine gz_aload_n K dX9_averageDepth_5 0 rfl ?_
  refine gz_callV K hex (c_X2_size K.2.2.2.2.2 K.2.2.1 hp) cf_X2_size zq2_70 (by decide) (ce_12 _ _ _ _ _ _) rfl dX9_averageDepth_6 rfl rfl (Nat.le_of_ble_eq_true rfl) ⟨Nat.le_of_ble_eq_true rfl, Nat.le_of_ble_eq_true rfl⟩ ⟨Nat.le_of_ble_eq_true rfl, Nat.le_of_ble_eq_true rfl⟩ (Nat.le_of_ble_eq_true rfl) (Nat.le_of_ble_eq_true rfl) (fun _ _ h => h.elim) (fun r6 τ hp => ?_)
  obtain ⟨rfl, hp⟩ := hp
  refine gz_norm (st' := [.int r6]) (cells' := 0) (slots' := 0) rfl rfl rfl ?_
  refine gz_istore_n K [(2, .int r6), (1, .ref (ad 12)), (0, .ref (ad 0))] dX9_averageDepth_9 (by decide) rfl ?_
  refine gz_iload_n K dX9_averageDepth_10 0 rfl ?_
  refine gz_if_le K 25 dX9_averageDepth_11 (by decide) (fun h => ?_) (fun h => ?_)
  · have hp := hp.1 h
    refine gz_dconst0 K dX9_averageDepth_25 ?_
    exact gz_dret K hr hp dX9_averageDepth_26 (Nat.le_of_ble_eq_true rfl) (Nat.le_of_ble_eq_true rfl)
  · have hp := hp.2 h
    refine gz_aload_n K dX9_averageDepth_14 1 rfl ?_
    refine gz_callV K hex (c_X2_sumOfDepths K.2.2.2.2.2 K.2.2.1 hp) cf_X2_sumOfDepths zq2_86 (by decide) (ce_12 _ _ _ _ _ _) rfl dX9_averageDepth_15 rfl rfl (Nat.le_of_ble_eq_true rfl) ⟨Nat.le_of_ble_eq_true rfl, Nat.le_of_ble_eq_true rfl⟩ ⟨Nat.le_of_ble_eq_true rfl, Nat.le_of_ble_eq_true rfl⟩ (Nat.le_of_ble_eq_true rfl) (Nat.le_of_ble_eq_true rfl) (fun _ _ h => h.elim) (fun r15 τ hp => ?_)
    obtain ⟨rfl, hp⟩ := hp
    refine gz_norm (st' := [.int r15]) (cells' := 0) (slots' := 0) rfl rfl rfl ?_
    refine gz_i2d K dX9_averageDepth_18 ?_
    refine gz_iload_n K dX9_averageDepth_19 0 rfl ?_
    refine gz_i2d K dX9_averageDepth_20 ?_
    obtain ⟨h, hp⟩ := hp
    refine gz_ddiv K dX9_averageDepth_21 h ?_
    refine gz_goto K 26 dX9_averageDepth_22 (by decide) ?_
    exact gz_dret K hr hp dX9_averageDepth_26 (Nat.le_of_ble_eq_true rfl) (Nat.le_of_ble_eq_true rfl)
set_option maxRecDepth 100000 in
set_option maxHeartbeats 4000000 in
theorem c_X9_orbit {l : Launch} {D : va_G} {ad : Nat → Nat} {ty : Nat → ClassId} (hl : l.stackTraces = false) (hj : ∀ i j, i < 68 → j < 68 → ad i = ad j → i = j) {σ : Dz} {x1 : Int32} {post : Int32 → Prop} {px : String → Prop} (hp : P_X9_orbit σ x1 post px) : Mz l D ad ty yX9_orbit cX9_orbit 4 (some .int) r_X9_orbit nI0 σ [.ref (ad 0), .int x1] (fun r τ => σ = τ ∧ post r) (fun E τ => σ = τ ∧ px E) := by
  refine mz_of (by decide) hl hj (Nat.le_of_ble_eq_true rfl) ?_
  intro p e s m args below meth c K hex hr
  unfold P_X9_orbit at hp
  show Gz p l e r_X9_orbit s m args below meth c D ad ty 4 0 0 (Ez below D ad ty nI0 (fun r τ => σ = τ ∧ post r) (fun E τ => σ = τ ∧ px E) args s 1 6) σ 0 [(0, .ref (ad 0)), (1, .int x1)] []
  refine gz_aload_n K dX9_orbit_0 0 rfl ?_
  refine gz_iload_n K dX9_orbit_1 1 rfl ?_
  refine gz_callV K hex (c_X9_checkPosition K.2.2.2.2.2 K.2.2.1 hp) cf_X9_checkPosition zq3_228 (by decide) (ce_0 _ _ _ _ _ _) rfl dX9_orbit_2 rfl rfl (Nat.le_of_ble_eq_true rfl) ⟨Nat.le_of_ble_eq_true rfl, Nat.le_of_ble_eq_true rfl⟩ ⟨Nat.le_of_ble_eq_true rfl, Nat.le_of_ble_eq_true rfl⟩ (Nat.le_of_ble_eq_true rfl) (Nat.le_of_ble_eq_true rfl) (fun _ _ h => ⟨h.1, h.2⟩) (fun _ τ hp => ?_)
  obtain ⟨rfl, hp⟩ := hp
  refine gz_norm (st' := []) (cells' := 1) (slots' := 6) rfl rfl rfl ?_
  refine gz_iconst K (v := (1 : Int32)) dX9_orbit_5 (by decide) ?_
  refine gz_iload_n K dX9_orbit_6 1 rfl ?_
  refine gz_iconst K (v := (1 : Int32)) dX9_orbit_7 (by decide) ?_
  refine gz_isub K dX9_orbit_8 ?_
  refine gz_ishl K dX9_orbit_9 ?_
  refine gz_istore_n K [(2, .int ((1 : Int32) <<< ((x1 - (1 : Int32)) &&& 31))), (0, .ref (ad 0)), (1, .int x1)] dX9_orbit_10 (by decide) rfl ?_
  refine gz_iconst K (v := (1 : Int32)) dX9_orbit_11 (by decide) ?_
  refine gz_istore_n K [(3, .int (1 : Int32)), (2, .int ((1 : Int32) <<< ((x1 - (1 : Int32)) &&& 31))), (0, .ref (ad 0)), (1, .int x1)] dX9_orbit_12 (by decide) rfl ?_
  refine gz_sub [2, 1, 0] rfl ?_
  have ll_13 : ∀ (n_13 : Nat) (y2 : Int32) (y3 : Int32) , L_X9_orbit_13 σ post px  n_13 y2 y3 → Gz p l e r_X9_orbit s m args below meth c D ad ty 4 1 6 (Ez below D ad ty nI0 (fun r τ => σ = τ ∧ post r) (fun E τ => σ = τ ∧ px E) args s 1 6) σ 13 [(0, .ref (ad 0)), (2, .int y2), (3, .int y3)] [] := by
    intro n_13; induction n_13 with
    | zero => intro y2 y3 hp; exact False.elim hp
    | succ n_13 ih_13 =>
      intro y2 y3 hp
      have hp : B_X9_orbit_13 σ post px  (L_X9_orbit_13 σ post px  n_13) y2 y3 := hp
      unfold B_X9_orbit_13 at hp
      refine gz_iload_n K dX9_orbit_13 2 rfl ?_
      refine gz_aload_n K dX9_orbit_14 0 rfl ?_
      refine gz_get K (v := .int (gz_i σ 0 11)) (by decide) (ce_0 _ _ _ _ _ _) rfl inz_X9 11 (by decide) zq1_213 rfl dX9_orbit_15 ?_
      refine gz_icmp_ge K 36 dX9_orbit_18 (by decide) (fun h => ?_) (fun h => ?_)
      · have hp := hp.1 h
        refine gz_iload_n K dX9_orbit_36 1 rfl ?_
        exact gz_iret K hr ⟨rfl, hp⟩ dX9_orbit_37 (Nat.le_of_ble_eq_true rfl) (Nat.le_of_ble_eq_true rfl)
      · have hp := hp.2 h
        refine gz_aload_n K dX9_orbit_21 0 rfl ?_
        refine gz_get K (v := .ref (ad 17)) (by decide) (ce_0 _ _ _ _ _ _) rfl inz_X9 6 (by decide) zq1_208 rfl dX9_orbit_22 ?_
        refine gz_iload_n K dX9_orbit_25 1 rfl ?_
        refine gz_callV K hex (c_X4_spread K.2.2.2.2.2 K.2.2.1 (by unfold isS; decide) hp) cf_X4_spread zq4_165 (by decide) (ce_17 _ _ _ _ _ _) rfl dX9_orbit_26 rfl rfl (Nat.le_of_ble_eq_true rfl) ⟨Nat.le_of_ble_eq_true rfl, Nat.le_of_ble_eq_true rfl⟩ ⟨Nat.le_of_ble_eq_true rfl, Nat.le_of_ble_eq_true rfl⟩ (Nat.le_of_ble_eq_true rfl) (Nat.le_of_ble_eq_true rfl) (fun _ _ h => h.elim) (fun r26 τ hp => ?_)
        obtain ⟨rfl, hp⟩ := hp
        refine gz_norm (st' := [.int r26]) (cells' := 1) (slots' := 6) rfl rfl rfl ?_
        refine gz_istore_n K [(2, .int r26), (0, .ref (ad 0)), (3, .int y3)] dX9_orbit_29 (by decide) rfl ?_
        refine gz_iinc K (v := (y3 + 1)) [(3, .int (y3 + 1)), (2, .int r26), (0, .ref (ad 0))] dX9_orbit_30 2 rfl (by first | rfl | decide) (by decide) rfl ?_
        refine gz_goto K 13 dX9_orbit_33 (by decide) ?_
        refine gz_sub [2, 1, 0] rfl ?_
        exact ih_13 r26 (y3 + 1)  hp
  obtain ⟨n, hp⟩ := hp
  exact ll_13 n ((1 : Int32) <<< ((x1 - (1 : Int32)) &&& 31)) (1 : Int32)  hp
set_option maxRecDepth 100000 in
set_option maxHeartbeats 4000000 in
theorem c_X9_findCommutator {l : Launch} {D : va_G} {ad : Nat → Nat} {ty : Nat → ClassId} (hl : l.stackTraces = false) (hj : ∀ i j, i < 68 → j < 68 → ad i = ad j → i = j) {σ : Dz} {x1 : Int32} {x2 : Int32} {post : Int32 → Dz → Prop} {px : String → Dz → Prop} (hp : P_X9_findCommutator σ x1 x2 post px) : Mz l D ad ty yX9_findCommutator cX9_findCommutator 3 (some .int) r_X9_findCommutator nI0 σ [.ref (ad 0), .int x1, .int x2] post px := by
  refine mz_of (by decide) hl hj (Nat.le_of_ble_eq_true rfl) ?_
  intro p e s m args below meth c K hex hr
  unfold P_X9_findCommutator at hp
  show Gz p l e r_X9_findCommutator s m args below meth c D ad ty 3 0 0 (Ez below D ad ty nI0 post px args s 2 12) σ 0 [(0, .ref (ad 0)), (1, .int x1), (2, .int x2)] []
  refine gz_iload_n K dX9_findCommutator_0 1 rfl ?_
  refine gz_callS K hex (c_X9_checkSlot K.2.2.2.2.2 K.2.2.1 hp) cf_X9_checkSlot zq3_104 dX9_findCommutator_1 rfl rfl (Nat.le_of_ble_eq_true rfl) ⟨Nat.le_of_ble_eq_true rfl, Nat.le_of_ble_eq_true rfl⟩ ⟨Nat.le_of_ble_eq_true rfl, Nat.le_of_ble_eq_true rfl⟩ (Nat.le_of_ble_eq_true rfl) (Nat.le_of_ble_eq_true rfl) (fun _ _ h => h.1 ▸ h.2) (fun _ τ hp => ?_)
  obtain ⟨rfl, hp⟩ := hp
  refine gz_norm (st' := []) (cells' := 1) (slots' := 6) rfl rfl rfl ?_
  refine gz_aload_n K dX9_findCommutator_4 0 rfl ?_
  refine gz_get K (v := .ref (ad 9)) (by decide) (ce_0 _ _ _ _ _ _) rfl inz_X9 4 (by decide) zq1_206 rfl dX9_findCommutator_5 ?_
  refine gz_aload_n K dX9_findCommutator_8 0 rfl ?_
  refine gz_get K (v := .ref (ad 17)) (by decide) (ce_0 _ _ _ _ _ _) rfl inz_X9 6 (by decide) zq1_208 rfl dX9_findCommutator_9 ?_
  refine gz_iload_n K dX9_findCommutator_12 2 rfl ?_
  refine gz_aload_n K dX9_findCommutator_13 0 rfl ?_
  refine gz_get K (v := .ref (ad 39)) (by decide) (ce_0 _ _ _ _ _ _) rfl inz_X9 8 (by decide) zq1_210 rfl dX9_findCommutator_14 ?_
  refine gz_callV K hex (c_X0_find K.2.2.2.2.2 K.2.2.1 (by unfold isS; decide) (by unfold isW; decide) hp) cf_X0_find zq4_177 (by decide) (ce_9 _ _ _ _ _ _) rfl dX9_findCommutator_17 rfl rfl (Nat.le_of_ble_eq_true rfl) ⟨Nat.le_of_ble_eq_true rfl, Nat.le_of_ble_eq_true rfl⟩ ⟨Nat.le_of_ble_eq_true rfl, Nat.le_of_ble_eq_true rfl⟩ (Nat.le_of_ble_eq_true rfl) (Nat.le_of_ble_eq_true rfl) (fun _ _ h => h.elim) (fun r17 τ17 hp => ?_)
  refine gz_norm (st' := [.int r17]) (cells' := 1) (slots' := 6) rfl rfl rfl ?_
  refine gz_if_ne K 34 dX9_findCommutator_20 (by decide) (fun h => ?_) (fun h => ?_)
  · have hp := hp.1 h
    refine gz_aload_n K dX9_findCommutator_34 0 rfl ?_
    refine gz_iload_n K dX9_findCommutator_35 1 rfl ?_
    refine gz_callV K hex (c_X9_keepDraft K.2.2.2.2.2 K.2.2.1 hp) cf_X9_keepDraft zq3_187 (by decide) (ce_0 _ _ _ _ _ _) rfl dX9_findCommutator_36 rfl rfl (Nat.le_of_ble_eq_true rfl) ⟨Nat.le_of_ble_eq_true rfl, Nat.le_of_ble_eq_true rfl⟩ ⟨Nat.le_of_ble_eq_true rfl, Nat.le_of_ble_eq_true rfl⟩ (Nat.le_of_ble_eq_true rfl) (Nat.le_of_ble_eq_true rfl) (fun _ _ h => h.elim) (fun r36 τ36 hp => ?_)
    refine gz_norm (st' := [.int r36]) (cells' := 1) (slots' := 6) rfl rfl rfl ?_
    exact gz_iret K hr hp dX9_findCommutator_39 (Nat.le_of_ble_eq_true rfl) (Nat.le_of_ble_eq_true rfl)
  · have hp := hp.2 h
    obtain ⟨sa, hsa⟩ := K.2.2.2.2.1.2.2.1 _ (List.mem_of_getElem? (l := zStr) (i := 17) rfl)
    exact gz_throw K hex true rfl xd_NoSuchElementException_0 xd_NoSuchElementException_1 xd_NoSuchElementException_2 xd_NoSuchElementException_5 (by decide) zq3_205 zq1_21 hsa xl_171 dX9_findCommutator_23 dX9_findCommutator_26 dX9_findCommutator_27 dX9_findCommutator_30 dX9_findCommutator_33 (Nat.le_of_ble_eq_true rfl) (Nat.le_of_ble_eq_true rfl) (Nat.le_of_ble_eq_true rfl) (Nat.le_of_ble_eq_true rfl) hp (Nat.le_of_ble_eq_true rfl) (Nat.le_of_ble_eq_true rfl)
set_option maxRecDepth 100000 in
set_option maxHeartbeats 4000000 in
theorem c_X9_checkRow {l : Launch} {D : va_G} {ad : Nat → Nat} {ty : Nat → ClassId} (hl : l.stackTraces = false) (hj : ∀ i j, i < 68 → j < 68 → ad i = ad j → i = j) {σ : Dz} {x0 : Int32} {post : Prop} {px : String → Prop} (hp : P_X9_checkRow x0 post px) : Mz l D ad ty yX9_checkRow cX9_checkRow 1 none r_X9_checkRow nV0 σ [.int x0] (fun _ τ => σ = τ ∧ post) (fun E τ => σ = τ ∧ px E) := by
  refine mz_of (by decide) hl hj (Nat.le_of_ble_eq_true rfl) ?_
  intro p e s m args below meth c K hex hr
  unfold P_X9_checkRow at hp
  show Gz p l e r_X9_checkRow s m args below meth c D ad ty 1 0 0 (Ez below D ad ty nV0 (fun _ τ => σ = τ ∧ post) (fun E τ => σ = τ ∧ px E) args s 1 6) σ 0 [(0, .int x0)] []
  refine gz_iload_n K dX9_checkRow_0 0 rfl ?_
  refine gz_if_eq K 20 dX9_checkRow_1 (by decide) (fun h => ?_) (fun h => ?_)
  · have hp := hp.1 h
    exact gz_vret K hr ⟨rfl, hp⟩ dX9_checkRow_20 (Nat.le_of_ble_eq_true rfl) (Nat.le_of_ble_eq_true rfl)
  · have hp := hp.2 h
    refine gz_iload_n K dX9_checkRow_4 0 rfl ?_
    refine gz_iconst K (v := (1 : Int32)) dX9_checkRow_5 (by decide) ?_
    refine gz_icmp_eq K 20 dX9_checkRow_6 (by decide) (fun h => ?_) (fun h => ?_)
    · have hp := hp.1 h
      exact gz_vret K hr ⟨rfl, hp⟩ dX9_checkRow_20 (Nat.le_of_ble_eq_true rfl) (Nat.le_of_ble_eq_true rfl)
    · have hp := hp.2 h
      obtain ⟨sa, hsa⟩ := K.2.2.2.2.1.2.2.1 _ (List.mem_of_getElem? (l := zStr) (i := 18) rfl)
      exact gz_throw K hex true rfl xd_IndexOutOfBoundsException_0 xd_IndexOutOfBoundsException_1 xd_IndexOutOfBoundsException_2 xd_IndexOutOfBoundsException_5 (by decide) zq3_30 zq1_16 hsa xl_196 dX9_checkRow_9 dX9_checkRow_12 dX9_checkRow_13 dX9_checkRow_16 dX9_checkRow_19 (Nat.le_of_ble_eq_true rfl) (Nat.le_of_ble_eq_true rfl) (Nat.le_of_ble_eq_true rfl) (Nat.le_of_ble_eq_true rfl) ⟨rfl, hp⟩ (Nat.le_of_ble_eq_true rfl) (Nat.le_of_ble_eq_true rfl)
set_option maxRecDepth 100000 in
set_option maxHeartbeats 4000000 in
theorem c_X9_fillShares {l : Launch} {D : va_G} {ad : Nat → Nat} {ty : Nat → ClassId} (hl : l.stackTraces = false) (hj : ∀ i j, i < 68 → j < 68 → ad i = ad j → i = j) {σ : Dz} {x1 : Int32} {post : Int32 → Dz → Prop} {px : String → Dz → Prop} (hp : P_X9_fillShares σ x1 post px) : Mz l D ad ty yX9_fillShares cX9_fillShares 6 (some .int) r_X9_fillShares nI0 σ [.ref (ad 0), .int x1] post px := by
  refine mz_of (by decide) hl hj (Nat.le_of_ble_eq_true rfl) ?_
  intro p e s m args below meth c K hex hr
  unfold P_X9_fillShares at hp
  have bb_75 : ∀ (σ : Dz) , B_X9_fillShares_75 post px  σ → Gz p l e r_X9_fillShares s m args below meth c D ad ty 6 1 6 (Ez below D ad ty nI0 post px args s 1 6) σ 75 [(2, .ref (ad 12))] [] := by
    intro σ hp
    unfold B_X9_fillShares_75 at hp
    refine gz_iconst K (v := (0 : Int32)) dX9_fillShares_75 (by decide) ?_
    refine gz_aload_n K dX9_fillShares_76 0 rfl ?_
    refine gz_callV K hex (c_X2_lastLevel K.2.2.2.2.2 K.2.2.1 hp) cf_X2_lastLevel zq2_78 (by decide) (ce_12 _ _ _ _ _ _) rfl dX9_fillShares_77 rfl rfl (Nat.le_of_ble_eq_true rfl) ⟨Nat.le_of_ble_eq_true rfl, Nat.le_of_ble_eq_true rfl⟩ ⟨Nat.le_of_ble_eq_true rfl, Nat.le_of_ble_eq_true rfl⟩ (Nat.le_of_ble_eq_true rfl) (Nat.le_of_ble_eq_true rfl) (fun _ _ h => h.elim) (fun r77 τ hp => ?_)
    obtain ⟨rfl, hp⟩ := hp
    refine gz_norm (st' := [.int r77, .int (0 : Int32)]) (cells' := 1) (slots' := 6) rfl rfl rfl ?_
    refine gz_iconst K (v := (1 : Int32)) dX9_fillShares_80 (by decide) ?_
    refine gz_iadd K dX9_fillShares_81 ?_
    refine gz_bipush K (v := (24 : Int32)) dX9_fillShares_82 (by decide) ?_
    refine gz_isub K dX9_fillShares_84 ?_
    refine gz_mmax K zq4_220 zq4_221 zq1_23 zq4_222 dX9_fillShares_85 (Nat.le_of_ble_eq_true rfl) (Nat.le_of_ble_eq_true rfl) (Nat.le_of_ble_eq_true rfl) (Nat.le_of_ble_eq_true rfl) ?_
    exact gz_iret K hr hp dX9_fillShares_88 (Nat.le_of_ble_eq_true rfl) (Nat.le_of_ble_eq_true rfl)
  show Gz p l e r_X9_fillShares s m args below meth c D ad ty 6 0 0 (Ez below D ad ty nI0 post px args s 1 6) σ 0 [(0, .ref (ad 0)), (1, .int x1)] []
  refine gz_iload_n K dX9_fillShares_0 1 rfl ?_
  refine gz_callS K hex (c_X9_checkRow K.2.2.2.2.2 K.2.2.1 hp) cf_X9_checkRow zq4_216 dX9_fillShares_1 rfl rfl (Nat.le_of_ble_eq_true rfl) ⟨Nat.le_of_ble_eq_true rfl, Nat.le_of_ble_eq_true rfl⟩ ⟨Nat.le_of_ble_eq_true rfl, Nat.le_of_ble_eq_true rfl⟩ (Nat.le_of_ble_eq_true rfl) (Nat.le_of_ble_eq_true rfl) (fun _ _ h => h.1 ▸ h.2) (fun _ τ hp => ?_)
  obtain ⟨rfl, hp⟩ := hp
  refine gz_norm (st' := []) (cells' := 1) (slots' := 6) rfl rfl rfl ?_
  refine gz_aload_n K dX9_fillShares_4 0 rfl ?_
  refine gz_callV K hex (c_X9_currentTable K.2.2.2.2.2 K.2.2.1 hp) cf_X9_currentTable zq2_18 (by decide) (ce_0 _ _ _ _ _ _) rfl dX9_fillShares_5 rfl rfl (Nat.le_of_ble_eq_true rfl) ⟨Nat.le_of_ble_eq_true rfl, Nat.le_of_ble_eq_true rfl⟩ ⟨Nat.le_of_ble_eq_true rfl, Nat.le_of_ble_eq_true rfl⟩ (Nat.le_of_ble_eq_true rfl) (Nat.le_of_ble_eq_true rfl) (fun _ _ h => h.elim) (fun r5 τ5 hp => ?_)
  obtain ⟨rfl, hp⟩ := hp
  refine gz_norm (st' := [.ref (ad 12)]) (cells' := 1) (slots' := 6) rfl rfl rfl ?_
  refine gz_astore_n K [(2, .ref (ad 12)), (0, .ref (ad 0)), (1, .int x1)] dX9_fillShares_8 (by decide) rfl ?_
  refine gz_aload_n K dX9_fillShares_9 0 rfl ?_
  refine gz_callV K hex (c_X2_size K.2.2.2.2.2 K.2.2.1 hp) cf_X2_size zq2_70 (by decide) (ce_12 _ _ _ _ _ _) rfl dX9_fillShares_10 rfl rfl (Nat.le_of_ble_eq_true rfl) ⟨Nat.le_of_ble_eq_true rfl, Nat.le_of_ble_eq_true rfl⟩ ⟨Nat.le_of_ble_eq_true rfl, Nat.le_of_ble_eq_true rfl⟩ (Nat.le_of_ble_eq_true rfl) (Nat.le_of_ble_eq_true rfl) (fun _ _ h => h.elim) (fun r10 τ hp => ?_)
  obtain ⟨rfl, hp⟩ := hp
  refine gz_norm (st' := [.int r10]) (cells' := 1) (slots' := 6) rfl rfl rfl ?_
  refine gz_istore_n K [(3, .int r10), (2, .ref (ad 12)), (0, .ref (ad 0)), (1, .int x1)] dX9_fillShares_13 (by decide) rfl ?_
  refine gz_iconst K (v := (0 : Int32)) dX9_fillShares_14 (by decide) ?_
  refine gz_istore K [(4, .int (0 : Int32)), (3, .int r10), (2, .ref (ad 12)), (0, .ref (ad 0)), (1, .int x1)] dX9_fillShares_15 (by decide) rfl ?_
  refine gz_sub [3, 4, 2, 1, 0] rfl ?_
  have ll_17 : ∀ (n_17 : Nat) (σ : Dz) (y1 : Int32) (y3 : Int32) (y4 : Int32) , L_X9_fillShares_17 post px  n_17 σ y1 y3 y4 → Gz p l e r_X9_fillShares s m args below meth c D ad ty 6 1 6 (Ez below D ad ty nI0 post px args s 1 6) σ 17 [(0, .ref (ad 0)), (1, .int y1), (2, .ref (ad 12)), (3, .int y3), (4, .int y4)] [] := by
    intro n_17; induction n_17 with
    | zero => intro σ y1 y3 y4 hp; exact False.elim hp
    | succ n_17 ih_17 =>
      intro σ y1 y3 y4 hp
      have hp : B_X9_fillShares_17 post px  (L_X9_fillShares_17 post px  n_17) σ y1 y3 y4 := hp
      unfold B_X9_fillShares_17 at hp
      have bb_69 : ∀ (σ : Dz) (y1 : Int32) (y3 : Int32) (y4 : Int32) , B_X9_fillShares_69 post px (L_X9_fillShares_17 post px  n_17) σ y1 y3 y4 → Gz p l e r_X9_fillShares s m args below meth c D ad ty 6 1 6 (Ez below D ad ty nI0 post px args s 1 6) σ 69 [(0, .ref (ad 0)), (1, .int y1), (2, .ref (ad 12)), (3, .int y3), (4, .int y4)] [] := by
        intro σ y1 y3 y4 hp
        unfold B_X9_fillShares_69 at hp
        refine gz_iinc K (v := (y4 + 1)) [(4, .int (y4 + 1)), (0, .ref (ad 0)), (1, .int y1), (2, .ref (ad 12)), (3, .int y3)] dX9_fillShares_69 4 rfl (by first | rfl | decide) (by decide) rfl ?_
        refine gz_goto K 17 dX9_fillShares_72 (by decide) ?_
        refine gz_sub [1, 2, 3, 4, 0] rfl ?_
        exact ih_17 σ y1 y3 (y4 + 1)  hp
      refine gz_iload_n K dX9_fillShares_17 3 rfl ?_
      refine gz_if_le K 75 dX9_fillShares_18 (by decide) (fun h => ?_) (fun h => ?_)
      · have hp := hp.1 h
        refine gz_sub [2] rfl ?_
        exact bb_75 σ  hp
      · have hp := hp.2 h
        refine gz_iload K dX9_fillShares_21 4 rfl ?_
        refine gz_bipush K (v := (24 : Int32)) dX9_fillShares_23 (by decide) ?_
        refine gz_icmp_ge K 75 dX9_fillShares_25 (by decide) (fun h => ?_) (fun h => ?_)
        · have hp := hp.1 h
          refine gz_sub [2] rfl ?_
          exact bb_75 σ  hp
        · have hp := hp.2 h
          refine gz_aload_n K dX9_fillShares_28 2 rfl ?_
          refine gz_iload K dX9_fillShares_29 4 rfl ?_
          refine gz_callV K hex (c_X2_sizeOfLevel K.2.2.2.2.2 K.2.2.1 hp) cf_X2_sizeOfLevel zq2_62 (by decide) (ce_12 _ _ _ _ _ _) rfl dX9_fillShares_31 rfl rfl (Nat.le_of_ble_eq_true rfl) ⟨Nat.le_of_ble_eq_true rfl, Nat.le_of_ble_eq_true rfl⟩ ⟨Nat.le_of_ble_eq_true rfl, Nat.le_of_ble_eq_true rfl⟩ (Nat.le_of_ble_eq_true rfl) (Nat.le_of_ble_eq_true rfl) (fun _ _ h => h.elim) (fun r31 τ hp => ?_)
          obtain ⟨rfl, hp⟩ := hp
          refine gz_norm (st' := [.int r31]) (cells' := 1) (slots' := 6) rfl rfl rfl ?_
          refine gz_istore K [(5, .int r31), (0, .ref (ad 0)), (1, .int y1), (2, .ref (ad 12)), (3, .int y3), (4, .int y4)] dX9_fillShares_34 (by decide) rfl ?_
          refine gz_iload_n K dX9_fillShares_36 2 rfl ?_
          refine gz_if_ne K 56 dX9_fillShares_37 (by decide) (fun h => ?_) (fun h => ?_)
          · have hp := hp.1 h
            refine gz_aload_n K dX9_fillShares_56 1 rfl ?_
            refine gz_get K (v := .ref (ad 42)) (by decide) (ce_0 _ _ _ _ _ _) rfl inz_X9 10 (by decide) zq1_212 rfl dX9_fillShares_57 ?_
            refine gz_iload K dX9_fillShares_60 5 rfl ?_
            refine gz_iload K dX9_fillShares_62 0 rfl ?_
            refine gz_i2d K dX9_fillShares_64 ?_
            refine gz_iload_n K dX9_fillShares_65 4 rfl ?_
            refine gz_i2d K dX9_fillShares_66 ?_
            obtain ⟨h, hp⟩ := hp
            refine gz_ddiv K dX9_fillShares_67 h ?_
            obtain ⟨h, hp⟩ := hp
            refine gz_dast K (x := (FP.ddiv (FP.i2d r31) (FP.i2d y3))) (by decide) (ce_42 ad ty) h dX9_fillShares_68 ?_
            refine gz_sub [1, 2, 3, 4, 5] rfl ?_
            exact bb_69 (sz_d σ 42 (y4).toNatClampNeg (FP.ddiv (FP.i2d r31) (FP.i2d y3))) y1 y3 y4  hp
          · have hp := hp.2 h
            refine gz_aload_n K dX9_fillShares_40 1 rfl ?_
            refine gz_get K (v := .ref (ad 41)) (by decide) (ce_0 _ _ _ _ _ _) rfl inz_X9 9 (by decide) zq1_211 rfl dX9_fillShares_41 ?_
            refine gz_iload K dX9_fillShares_44 5 rfl ?_
            refine gz_iload K dX9_fillShares_46 0 rfl ?_
            refine gz_i2f K dX9_fillShares_48 ?_
            refine gz_iload_n K dX9_fillShares_49 4 rfl ?_
            refine gz_i2f K dX9_fillShares_50 ?_
            obtain ⟨h, hp⟩ := hp
            refine gz_fdiv K dX9_fillShares_51 h ?_
            obtain ⟨h, hp⟩ := hp
            refine gz_fast K (x := (FP.fdiv (FP.i2f r31) (FP.i2f y3))) (by decide) (ce_41 ad ty) h dX9_fillShares_52 ?_
            refine gz_goto K 69 dX9_fillShares_53 (by decide) ?_
            refine gz_sub [1, 2, 3, 4, 5] rfl ?_
            exact bb_69 (sz_f σ 41 (y4).toNatClampNeg (FP.fdiv (FP.i2f r31) (FP.i2f y3))) y1 y3 y4  hp
  obtain ⟨n, hp⟩ := hp
  exact ll_17 n τ5 x1 r10 (0 : Int32)  hp
set_option maxRecDepth 100000 in
set_option maxHeartbeats 4000000 in
theorem c_X9_checkElement {l : Launch} {D : va_G} {ad : Nat → Nat} {ty : Nat → ClassId} (hl : l.stackTraces = false) (hj : ∀ i j, i < 68 → j < 68 → ad i = ad j → i = j) {σ : Dz} {x0 : Int32} {x1 : Int32} {post : Prop} {px : String → Prop} (hp : P_X9_checkElement x0 x1 post px) : Mz l D ad ty yX9_checkElement cX9_checkElement 2 none r_X9_checkElement nV0 σ [.int x0, .int x1] (fun _ τ => σ = τ ∧ post) (fun E τ => σ = τ ∧ px E) := by
  refine mz_of (by decide) hl hj (Nat.le_of_ble_eq_true rfl) ?_
  intro p e s m args below meth c K hex hr
  unfold P_X9_checkElement at hp
  show Gz p l e r_X9_checkElement s m args below meth c D ad ty 2 0 0 (Ez below D ad ty nV0 (fun _ τ => σ = τ ∧ post) (fun E τ => σ = τ ∧ px E) args s 2 12) σ 0 [(0, .int x0), (1, .int x1)] []
  refine gz_iload_n K dX9_checkElement_0 0 rfl ?_
  refine gz_callS K hex (c_X9_checkRow K.2.2.2.2.2 K.2.2.1 hp) cf_X9_checkRow zq4_216 dX9_checkElement_1 rfl rfl (Nat.le_of_ble_eq_true rfl) ⟨Nat.le_of_ble_eq_true rfl, Nat.le_of_ble_eq_true rfl⟩ ⟨Nat.le_of_ble_eq_true rfl, Nat.le_of_ble_eq_true rfl⟩ (Nat.le_of_ble_eq_true rfl) (Nat.le_of_ble_eq_true rfl) (fun _ _ h => ⟨h.1, h.2⟩) (fun _ τ hp => ?_)
  obtain ⟨rfl, hp⟩ := hp
  refine gz_norm (st' := []) (cells' := 1) (slots' := 6) rfl rfl rfl ?_
  refine gz_iload_n K dX9_checkElement_4 1 rfl ?_
  refine gz_if_lt K 14 dX9_checkElement_5 (by decide) (fun h => ?_) (fun h => ?_)
  · have hp := hp.1 h
    obtain ⟨sa, hsa⟩ := K.2.2.2.2.1.2.2.1 _ (List.mem_of_getElem? (l := zStr) (i := 19) rfl)
    exact gz_throw K hex true rfl xd_IndexOutOfBoundsException_0 xd_IndexOutOfBoundsException_1 xd_IndexOutOfBoundsException_2 xd_IndexOutOfBoundsException_5 (by decide) zq3_30 zq1_16 hsa xl_196 dX9_checkElement_14 dX9_checkElement_17 dX9_checkElement_18 dX9_checkElement_21 dX9_checkElement_24 (Nat.le_of_ble_eq_true rfl) (Nat.le_of_ble_eq_true rfl) (Nat.le_of_ble_eq_true rfl) (Nat.le_of_ble_eq_true rfl) ⟨rfl, hp⟩ (Nat.le_of_ble_eq_true rfl) (Nat.le_of_ble_eq_true rfl)
  · have hp := hp.2 h
    refine gz_iload_n K dX9_checkElement_8 1 rfl ?_
    refine gz_bipush K (v := (24 : Int32)) dX9_checkElement_9 (by decide) ?_
    refine gz_icmp_lt K 25 dX9_checkElement_11 (by decide) (fun h => ?_) (fun h => ?_)
    · have hp := hp.1 h
      exact gz_vret K hr ⟨rfl, hp⟩ dX9_checkElement_25 (Nat.le_of_ble_eq_true rfl) (Nat.le_of_ble_eq_true rfl)
    · have hp := hp.2 h
      obtain ⟨sa, hsa⟩ := K.2.2.2.2.1.2.2.1 _ (List.mem_of_getElem? (l := zStr) (i := 19) rfl)
      exact gz_throw K hex true rfl xd_IndexOutOfBoundsException_0 xd_IndexOutOfBoundsException_1 xd_IndexOutOfBoundsException_2 xd_IndexOutOfBoundsException_5 (by decide) zq3_30 zq1_16 hsa xl_196 dX9_checkElement_14 dX9_checkElement_17 dX9_checkElement_18 dX9_checkElement_21 dX9_checkElement_24 (Nat.le_of_ble_eq_true rfl) (Nat.le_of_ble_eq_true rfl) (Nat.le_of_ble_eq_true rfl) (Nat.le_of_ble_eq_true rfl) ⟨rfl, hp⟩ (Nat.le_of_ble_eq_true rfl) (Nat.le_of_ble_eq_true rfl)
set_option maxRecDepth 100000 in
set_option maxHeartbeats 4000000 in
theorem c_X9_scaleFloat {l : Launch} {D : va_G} {ad : Nat → Nat} {ty : Nat → ClassId} (hl : l.stackTraces = false) (hj : ∀ i j, i < 68 → j < 68 → ad i = ad j → i = j) {σ : Dz} {x1 : Int32} {x2 : Int32} {post : Int32 → Dz → Prop} {px : String → Dz → Prop} (hp : P_X9_scaleFloat σ x1 x2 post px) : Mz l D ad ty yX9_scaleFloat cX9_scaleFloat 5 (some .int) r_X9_scaleFloat nI0 σ [.ref (ad 0), .int x1, .int x2] post px := by
  refine mz_of (by decide) hl hj (Nat.le_of_ble_eq_true rfl) ?_
  intro p e s m args below meth c K hex hr
  unfold P_X9_scaleFloat at hp
  have bb_22 : ∀ (σ : Dz) (y1 : Int32) (y3 : UInt32) (z0 : UInt32) , B_X9_scaleFloat_22 post px  σ y1 y3 z0 → Gz p l e r_X9_scaleFloat s m args below meth c D ad ty 5 0 0 (Ez below D ad ty nI0 post px args s 1 6) σ 22 [(0, .ref (ad 0)), (1, .int y1), (3, .float y3)] [.float z0] := by
    intro σ y1 y3 z0 hp
    unfold B_X9_scaleFloat_22 at hp
    refine gz_fstore K [(4, .float z0), (0, .ref (ad 0)), (1, .int y1), (3, .float y3)] dX9_scaleFloat_22 (by decide) rfl ?_
    refine gz_fload K dX9_scaleFloat_24 0 rfl ?_
    refine gz_ldcf_w K zq4_239 dX9_scaleFloat_26 ?_
    refine gz_fcmp K dX9_scaleFloat_29 ?_
    refine gz_if_le K 44 dX9_scaleFloat_30 (by decide) (fun h => ?_) (fun h => ?_)
    · have hp := hp.1 h
      refine gz_aload_n K dX9_scaleFloat_44 1 rfl ?_
      refine gz_get K (v := .ref (ad 41)) (by decide) (ce_0 _ _ _ _ _ _) rfl inz_X9 9 (by decide) zq1_211 rfl dX9_scaleFloat_45 ?_
      refine gz_iload_n K dX9_scaleFloat_48 2 rfl ?_
      refine gz_fload_n K dX9_scaleFloat_49 3 rfl ?_
      obtain ⟨h, hp⟩ := hp
      refine gz_fast K (x := y3) (by decide) (ce_41 ad ty) h dX9_scaleFloat_50 ?_
      refine gz_fload_n K dX9_scaleFloat_51 3 rfl ?_
      refine gz_f2i K dX9_scaleFloat_52 ?_
      exact gz_iret K hr hp dX9_scaleFloat_53 (Nat.le_of_ble_eq_true rfl) (Nat.le_of_ble_eq_true rfl)
    · have hp := hp.2 h
      obtain ⟨sa, hsa⟩ := K.2.2.2.2.1.2.2.1 _ (List.mem_of_getElem? (l := zStr) (i := 21) rfl)
      exact gz_throw K hex true rfl xd_ArithmeticException_0 xd_ArithmeticException_1 xd_ArithmeticException_2 xd_ArithmeticException_5 (by decide) zq3_184 zq1_20 hsa xl_162 dX9_scaleFloat_33 dX9_scaleFloat_36 dX9_scaleFloat_37 dX9_scaleFloat_40 dX9_scaleFloat_43 (Nat.le_of_ble_eq_true rfl) (Nat.le_of_ble_eq_true rfl) (Nat.le_of_ble_eq_true rfl) (Nat.le_of_ble_eq_true rfl) hp (Nat.le_of_ble_eq_true rfl) (Nat.le_of_ble_eq_true rfl)
  show Gz p l e r_X9_scaleFloat s m args below meth c D ad ty 5 0 0 (Ez below D ad ty nI0 post px args s 1 6) σ 0 [(0, .ref (ad 0)), (1, .int x1), (2, .int x2)] []
  refine gz_aload_n K dX9_scaleFloat_0 0 rfl ?_
  refine gz_get K (v := .ref (ad 41)) (by decide) (ce_0 _ _ _ _ _ _) rfl inz_X9 9 (by decide) zq1_211 rfl dX9_scaleFloat_1 ?_
  refine gz_iload_n K dX9_scaleFloat_4 1 rfl ?_
  obtain ⟨h, hp⟩ := hp
  refine gz_fald K (by decide) (ce_41 _ _ _ _ _ _) h dX9_scaleFloat_5 ?_
  refine gz_iload_n K dX9_scaleFloat_6 2 rfl ?_
  refine gz_i2f K dX9_scaleFloat_7 ?_
  obtain ⟨h, hp⟩ := hp
  refine gz_fmul K dX9_scaleFloat_8 h ?_
  refine gz_fstore_n K [(3, .float (FP.fmul (gz_f σ 41 (x1).toNatClampNeg) (FP.i2f x2))), (0, .ref (ad 0)), (1, .int x1), (2, .int x2)] dX9_scaleFloat_9 (by decide) rfl ?_
  refine gz_fload_n K dX9_scaleFloat_10 0 rfl ?_
  refine gz_fconst0 K dX9_scaleFloat_11 ?_
  refine gz_fcmp K dX9_scaleFloat_12 ?_
  refine gz_if_ge K 21 dX9_scaleFloat_13 (by decide) (fun h => ?_) (fun h => ?_)
  · have hp := hp.1 h
    refine gz_fload_n K dX9_scaleFloat_21 0 rfl ?_
    refine gz_sub [1, 2, 0] rfl ?_
    exact bb_22 σ x1 (FP.fmul (gz_f σ 41 (x1).toNatClampNeg) (FP.i2f x2)) (FP.fmul (gz_f σ 41 (x1).toNatClampNeg) (FP.i2f x2))  hp
  · have hp := hp.2 h
    refine gz_fload_n K dX9_scaleFloat_16 0 rfl ?_
    refine gz_fneg K dX9_scaleFloat_17 ?_
    refine gz_goto K 22 dX9_scaleFloat_18 (by decide) ?_
    refine gz_sub [1, 2, 0] rfl ?_
    exact bb_22 σ x1 (FP.fmul (gz_f σ 41 (x1).toNatClampNeg) (FP.i2f x2)) (FP.fneg (FP.fmul (gz_f σ 41 (x1).toNatClampNeg) (FP.i2f x2)))  hp
set_option maxRecDepth 100000 in
set_option maxHeartbeats 4000000 in
theorem c_X9_scaleDouble {l : Launch} {D : va_G} {ad : Nat → Nat} {ty : Nat → ClassId} (hl : l.stackTraces = false) (hj : ∀ i j, i < 68 → j < 68 → ad i = ad j → i = j) {σ : Dz} {x1 : Int32} {x2 : Int32} {post : Int32 → Dz → Prop} {px : String → Dz → Prop} (hp : P_X9_scaleDouble σ x1 x2 post px) : Mz l D ad ty yX9_scaleDouble cX9_scaleDouble 7 (some .int) r_X9_scaleDouble nI0 σ [.ref (ad 0), .int x1, .int x2] post px := by
  refine mz_of (by decide) hl hj (Nat.le_of_ble_eq_true rfl) ?_
  intro p e s m args below meth c K hex hr
  unfold P_X9_scaleDouble at hp
  have bb_22 : ∀ (σ : Dz) (y1 : Int32) (y3 : UInt64) (z0 : UInt64) , B_X9_scaleDouble_22 post px  σ y1 y3 z0 → Gz p l e r_X9_scaleDouble s m args below meth c D ad ty 7 0 0 (Ez below D ad ty nI0 post px args s 1 6) σ 22 [(0, .ref (ad 0)), (1, .int y1), (3, .double y3)] [.double z0] := by
    intro σ y1 y3 z0 hp
    unfold B_X9_scaleDouble_22 at hp
    refine gz_dstore K [(5, .double z0), (0, .ref (ad 0)), (1, .int y1), (3, .double y3)] dX9_scaleDouble_22 (by decide) rfl ?_
    refine gz_dload K dX9_scaleDouble_24 0 rfl ?_
    refine gz_ldc2d K zq5_5 dX9_scaleDouble_26 ?_
    refine gz_dcmp K dX9_scaleDouble_29 ?_
    refine gz_if_le K 44 dX9_scaleDouble_30 (by decide) (fun h => ?_) (fun h => ?_)
    · have hp := hp.1 h
      refine gz_aload_n K dX9_scaleDouble_44 1 rfl ?_
      refine gz_get K (v := .ref (ad 42)) (by decide) (ce_0 _ _ _ _ _ _) rfl inz_X9 10 (by decide) zq1_212 rfl dX9_scaleDouble_45 ?_
      refine gz_iload_n K dX9_scaleDouble_48 2 rfl ?_
      refine gz_dload_n K dX9_scaleDouble_49 3 rfl ?_
      obtain ⟨h, hp⟩ := hp
      refine gz_dast K (x := y3) (by decide) (ce_42 ad ty) h dX9_scaleDouble_50 ?_
      refine gz_dload_n K dX9_scaleDouble_51 3 rfl ?_
      refine gz_d2i K dX9_scaleDouble_52 ?_
      exact gz_iret K hr hp dX9_scaleDouble_53 (Nat.le_of_ble_eq_true rfl) (Nat.le_of_ble_eq_true rfl)
    · have hp := hp.2 h
      obtain ⟨sa, hsa⟩ := K.2.2.2.2.1.2.2.1 _ (List.mem_of_getElem? (l := zStr) (i := 21) rfl)
      exact gz_throw K hex true rfl xd_ArithmeticException_0 xd_ArithmeticException_1 xd_ArithmeticException_2 xd_ArithmeticException_5 (by decide) zq3_184 zq1_20 hsa xl_162 dX9_scaleDouble_33 dX9_scaleDouble_36 dX9_scaleDouble_37 dX9_scaleDouble_40 dX9_scaleDouble_43 (Nat.le_of_ble_eq_true rfl) (Nat.le_of_ble_eq_true rfl) (Nat.le_of_ble_eq_true rfl) (Nat.le_of_ble_eq_true rfl) hp (Nat.le_of_ble_eq_true rfl) (Nat.le_of_ble_eq_true rfl)
  show Gz p l e r_X9_scaleDouble s m args below meth c D ad ty 7 0 0 (Ez below D ad ty nI0 post px args s 1 6) σ 0 [(0, .ref (ad 0)), (1, .int x1), (2, .int x2)] []
  refine gz_aload_n K dX9_scaleDouble_0 0 rfl ?_
  refine gz_get K (v := .ref (ad 42)) (by decide) (ce_0 _ _ _ _ _ _) rfl inz_X9 10 (by decide) zq1_212 rfl dX9_scaleDouble_1 ?_
  refine gz_iload_n K dX9_scaleDouble_4 1 rfl ?_
  obtain ⟨h, hp⟩ := hp
  refine gz_dald K (by decide) (ce_42 _ _ _ _ _ _) h dX9_scaleDouble_5 ?_
  refine gz_iload_n K dX9_scaleDouble_6 2 rfl ?_
  refine gz_i2d K dX9_scaleDouble_7 ?_
  obtain ⟨h, hp⟩ := hp
  refine gz_dmul K dX9_scaleDouble_8 h ?_
  refine gz_dstore_n K [(3, .double (FP.dmul (gz_d σ 42 (x1).toNatClampNeg) (FP.i2d x2))), (0, .ref (ad 0)), (1, .int x1), (2, .int x2)] dX9_scaleDouble_9 (by decide) rfl ?_
  refine gz_dload_n K dX9_scaleDouble_10 0 rfl ?_
  refine gz_dconst0 K dX9_scaleDouble_11 ?_
  refine gz_dcmp K dX9_scaleDouble_12 ?_
  refine gz_if_ge K 21 dX9_scaleDouble_13 (by decide) (fun h => ?_) (fun h => ?_)
  · have hp := hp.1 h
    refine gz_dload_n K dX9_scaleDouble_21 0 rfl ?_
    refine gz_sub [1, 2, 0] rfl ?_
    exact bb_22 σ x1 (FP.dmul (gz_d σ 42 (x1).toNatClampNeg) (FP.i2d x2)) (FP.dmul (gz_d σ 42 (x1).toNatClampNeg) (FP.i2d x2))  hp
  · have hp := hp.2 h
    refine gz_dload_n K dX9_scaleDouble_16 0 rfl ?_
    refine gz_dneg K dX9_scaleDouble_17 ?_
    refine gz_goto K 22 dX9_scaleDouble_18 (by decide) ?_
    refine gz_sub [1, 2, 0] rfl ?_
    exact bb_22 σ x1 (FP.dmul (gz_d σ 42 (x1).toNatClampNeg) (FP.i2d x2)) (FP.dneg (FP.dmul (gz_d σ 42 (x1).toNatClampNeg) (FP.i2d x2)))  hp
set_option maxRecDepth 100000 in
set_option maxHeartbeats 4000000 in
theorem c_X9_scale {l : Launch} {D : va_G} {ad : Nat → Nat} {ty : Nat → ClassId} (hl : l.stackTraces = false) (hj : ∀ i j, i < 68 → j < 68 → ad i = ad j → i = j) {σ : Dz} {x1 : Int32} {x2 : Int32} {x3 : Int32} {post : Int32 → Dz → Prop} {px : String → Dz → Prop} (hp : P_X9_scale σ x1 x2 x3 post px) : Mz l D ad ty yX9_scale cX9_scale 4 (some .int) r_X9_scale nI0 σ [.ref (ad 0), .int x1, .int x2, .int x3] post px := by
  refine mz_of (by decide) hl hj (Nat.le_of_ble_eq_true rfl) ?_
  intro p e s m args below meth c K hex hr
  unfold P_X9_scale at hp
  show Gz p l e r_X9_scale s m args below meth c D ad ty 4 0 0 (Ez below D ad ty nI0 post px args s 3 18) σ 0 [(0, .ref (ad 0)), (1, .int x1), (2, .int x2), (3, .int x3)] []
  refine gz_iload_n K dX9_scale_0 1 rfl ?_
  refine gz_iload_n K dX9_scale_1 2 rfl ?_
  refine gz_callS K hex (c_X9_checkElement K.2.2.2.2.2 K.2.2.1 hp) cf_X9_checkElement zq4_230 dX9_scale_2 rfl rfl (Nat.le_of_ble_eq_true rfl) ⟨Nat.le_of_ble_eq_true rfl, Nat.le_of_ble_eq_true rfl⟩ ⟨Nat.le_of_ble_eq_true rfl, Nat.le_of_ble_eq_true rfl⟩ (Nat.le_of_ble_eq_true rfl) (Nat.le_of_ble_eq_true rfl) (fun _ _ h => h.1 ▸ h.2) (fun _ τ hp => ?_)
  obtain ⟨rfl, hp⟩ := hp
  refine gz_norm (st' := []) (cells' := 2) (slots' := 12) rfl rfl rfl ?_
  refine gz_iload_n K dX9_scale_5 3 rfl ?_
  refine gz_sipush K (v := (-1000 : Int32)) dX9_scale_6 (by decide) ?_
  refine gz_icmp_lt K 19 dX9_scale_9 (by decide) (fun h => ?_) (fun h => ?_)
  · have hp := hp.1 h
    obtain ⟨sa, hsa⟩ := K.2.2.2.2.1.2.2.1 _ (List.mem_of_getElem? (l := zStr) (i := 20) rfl)
    exact gz_throw K hex true rfl xd_IllegalArgumentException_0 xd_IllegalArgumentException_1 xd_IllegalArgumentException_2 xd_IllegalArgumentException_5 (by decide) zq2_131 zq1_14 hsa xl_94 dX9_scale_19 dX9_scale_22 dX9_scale_23 dX9_scale_26 dX9_scale_29 (Nat.le_of_ble_eq_true rfl) (Nat.le_of_ble_eq_true rfl) (Nat.le_of_ble_eq_true rfl) (Nat.le_of_ble_eq_true rfl) hp (Nat.le_of_ble_eq_true rfl) (Nat.le_of_ble_eq_true rfl)
  · have hp := hp.2 h
    refine gz_iload_n K dX9_scale_12 3 rfl ?_
    refine gz_sipush K (v := (1000 : Int32)) dX9_scale_13 (by decide) ?_
    refine gz_icmp_le K 30 dX9_scale_16 (by decide) (fun h => ?_) (fun h => ?_)
    · have hp := hp.1 h
      refine gz_iload_n K dX9_scale_30 1 rfl ?_
      refine gz_if_ne K 43 dX9_scale_31 (by decide) (fun h => ?_) (fun h => ?_)
      · have hp := hp.1 h
        refine gz_aload_n K dX9_scale_43 0 rfl ?_
        refine gz_iload_n K dX9_scale_44 2 rfl ?_
        refine gz_iload_n K dX9_scale_45 3 rfl ?_
        refine gz_callV K hex (c_X9_scaleDouble K.2.2.2.2.2 K.2.2.1 hp) cf_X9_scaleDouble zq5_1 (by decide) (ce_0 _ _ _ _ _ _) rfl dX9_scale_46 rfl rfl (Nat.le_of_ble_eq_true rfl) ⟨Nat.le_of_ble_eq_true rfl, Nat.le_of_ble_eq_true rfl⟩ ⟨Nat.le_of_ble_eq_true rfl, Nat.le_of_ble_eq_true rfl⟩ (Nat.le_of_ble_eq_true rfl) (Nat.le_of_ble_eq_true rfl) (fun _ _ h => h) (fun r46 τ46 hp => ?_)
        refine gz_norm (st' := [.int r46]) (cells' := 3) (slots' := 18) rfl rfl rfl ?_
        exact gz_iret K hr hp dX9_scale_49 (Nat.le_of_ble_eq_true rfl) (Nat.le_of_ble_eq_true rfl)
      · have hp := hp.2 h
        refine gz_aload_n K dX9_scale_34 0 rfl ?_
        refine gz_iload_n K dX9_scale_35 2 rfl ?_
        refine gz_iload_n K dX9_scale_36 3 rfl ?_
        refine gz_callV K hex (c_X9_scaleFloat K.2.2.2.2.2 K.2.2.1 hp) cf_X9_scaleFloat zq4_235 (by decide) (ce_0 _ _ _ _ _ _) rfl dX9_scale_37 rfl rfl (Nat.le_of_ble_eq_true rfl) ⟨Nat.le_of_ble_eq_true rfl, Nat.le_of_ble_eq_true rfl⟩ ⟨Nat.le_of_ble_eq_true rfl, Nat.le_of_ble_eq_true rfl⟩ (Nat.le_of_ble_eq_true rfl) (Nat.le_of_ble_eq_true rfl) (fun _ _ h => h) (fun r37 τ37 hp => ?_)
        refine gz_norm (st' := [.int r37]) (cells' := 3) (slots' := 18) rfl rfl rfl ?_
        refine gz_goto K 49 dX9_scale_40 (by decide) ?_
        exact gz_iret K hr hp dX9_scale_49 (Nat.le_of_ble_eq_true rfl) (Nat.le_of_ble_eq_true rfl)
    · have hp := hp.2 h
      obtain ⟨sa, hsa⟩ := K.2.2.2.2.1.2.2.1 _ (List.mem_of_getElem? (l := zStr) (i := 20) rfl)
      exact gz_throw K hex true rfl xd_IllegalArgumentException_0 xd_IllegalArgumentException_1 xd_IllegalArgumentException_2 xd_IllegalArgumentException_5 (by decide) zq2_131 zq1_14 hsa xl_94 dX9_scale_19 dX9_scale_22 dX9_scale_23 dX9_scale_26 dX9_scale_29 (Nat.le_of_ble_eq_true rfl) (Nat.le_of_ble_eq_true rfl) (Nat.le_of_ble_eq_true rfl) (Nat.le_of_ble_eq_true rfl) hp (Nat.le_of_ble_eq_true rfl) (Nat.le_of_ble_eq_true rfl)
set_option maxRecDepth 100000 in
set_option maxHeartbeats 4000000 in
theorem c_X9_remainderOf {l : Launch} {D : va_G} {ad : Nat → Nat} {ty : Nat → ClassId} (hl : l.stackTraces = false) (hj : ∀ i j, i < 68 → j < 68 → ad i = ad j → i = j) {σ : Dz} {d0 : UInt64} {d2 : UInt64} {post : UInt64 → Prop} (hp : P_X9_remainderOf d0 d2 post) : Mz l D ad ty yX9_remainderOf cX9_remainderOf 10 (some .double) r_X9_remainderOf nD0 σ [.double d0, .double d2] (fun r τ => σ = τ ∧ post r) (fun _ _ => False) := by
  refine mz_of (by decide) hl hj (Nat.le_of_ble_eq_true rfl) ?_
  intro p e s m args below meth c K hex hr
  unfold P_X9_remainderOf at hp
  have bb_26 : ∀ (y0 : UInt64) (y4 : UInt64) (z0 : UInt64) , B_X9_remainderOf_26 post  y0 y4 z0 → Gz p l e r_X9_remainderOf s m args below meth c D ad ty 10 0 0 (Ez below D ad ty nD0 (fun r τ => σ = τ ∧ post r) (fun _ _ => False) args s 0 0) σ 26 [(0, .double y0), (4, .double y4)] [.double z0] := by
    intro y0 y4 z0 hp
    unfold B_X9_remainderOf_26 at hp
    refine gz_dstore K [(6, .double z0), (0, .double y0), (4, .double y4)] dX9_remainderOf_26 (by decide) rfl ?_
    refine gz_dload K dX9_remainderOf_28 2 rfl ?_
    refine gz_dload K dX9_remainderOf_30 0 rfl ?_
    refine gz_dcmp K dX9_remainderOf_32 ?_
    refine gz_if_ge K 38 dX9_remainderOf_33 (by decide) (fun h => ?_) (fun h => ?_)
    · have hp := hp.1 h
      refine gz_dload K dX9_remainderOf_38 2 rfl ?_
      refine gz_dload K dX9_remainderOf_40 2 rfl ?_
      refine gz_dload K dX9_remainderOf_42 0 rfl ?_
      obtain ⟨h, hp⟩ := hp
      refine gz_ddiv K dX9_remainderOf_44 h ?_
      refine gz_d2i K dX9_remainderOf_45 ?_
      refine gz_i2d K dX9_remainderOf_46 ?_
      refine gz_dload K dX9_remainderOf_47 0 rfl ?_
      obtain ⟨h, hp⟩ := hp
      refine gz_dmul K dX9_remainderOf_49 h ?_
      obtain ⟨h, hp⟩ := hp
      refine gz_dsub K dX9_remainderOf_50 h ?_
      refine gz_dstore K [(8, .double (FP.dsub y4 (FP.dmul (FP.i2d (FP.d2i (FP.ddiv y4 z0))) z0))), (6, .double z0), (0, .double y0), (4, .double y4)] dX9_remainderOf_51 (by decide) rfl ?_
      refine gz_dload_n K dX9_remainderOf_53 2 rfl ?_
      refine gz_dconst0 K dX9_remainderOf_54 ?_
      refine gz_dcmp K dX9_remainderOf_55 ?_
      refine gz_if_ge K 65 dX9_remainderOf_56 (by decide) (fun h => ?_) (fun h => ?_)
      · have hp := hp.1 h
        refine gz_dload K dX9_remainderOf_65 0 rfl ?_
        exact gz_dret K hr ⟨rfl, hp⟩ dX9_remainderOf_67 (Nat.le_of_ble_eq_true rfl) (Nat.le_of_ble_eq_true rfl)
      · have hp := hp.2 h
        refine gz_dload K dX9_remainderOf_59 0 rfl ?_
        refine gz_dneg K dX9_remainderOf_61 ?_
        refine gz_goto K 67 dX9_remainderOf_62 (by decide) ?_
        exact gz_dret K hr ⟨rfl, hp⟩ dX9_remainderOf_67 (Nat.le_of_ble_eq_true rfl) (Nat.le_of_ble_eq_true rfl)
    · have hp := hp.2 h
      refine gz_dload_n K dX9_remainderOf_36 1 rfl ?_
      exact gz_dret K hr ⟨rfl, hp⟩ dX9_remainderOf_37 (Nat.le_of_ble_eq_true rfl) (Nat.le_of_ble_eq_true rfl)
  have bb_12 : ∀ (y0 : UInt64) (y2 : UInt64) (z0 : UInt64) , B_X9_remainderOf_12 post  y0 y2 z0 → Gz p l e r_X9_remainderOf s m args below meth c D ad ty 10 0 0 (Ez below D ad ty nD0 (fun r τ => σ = τ ∧ post r) (fun _ _ => False) args s 0 0) σ 12 [(0, .double y0), (2, .double y2)] [.double z0] := by
    intro y0 y2 z0 hp
    unfold B_X9_remainderOf_12 at hp
    refine gz_dstore K [(4, .double z0), (0, .double y0), (2, .double y2)] dX9_remainderOf_12 (by decide) rfl ?_
    refine gz_dload_n K dX9_remainderOf_14 2 rfl ?_
    refine gz_dconst0 K dX9_remainderOf_15 ?_
    refine gz_dcmp K dX9_remainderOf_16 ?_
    refine gz_if_ge K 25 dX9_remainderOf_17 (by decide) (fun h => ?_) (fun h => ?_)
    · have hp := hp.1 h
      refine gz_dload_n K dX9_remainderOf_25 2 rfl ?_
      refine gz_sub [1, 0] rfl ?_
      exact bb_26 y0 z0 y2  hp
    · have hp := hp.2 h
      refine gz_dload_n K dX9_remainderOf_20 2 rfl ?_
      refine gz_dneg K dX9_remainderOf_21 ?_
      refine gz_goto K 26 dX9_remainderOf_22 (by decide) ?_
      refine gz_sub [1, 0] rfl ?_
      exact bb_26 y0 z0 (FP.dneg y2)  hp
  show Gz p l e r_X9_remainderOf s m args below meth c D ad ty 10 0 0 (Ez below D ad ty nD0 (fun r τ => σ = τ ∧ post r) (fun _ _ => False) args s 0 0) σ 0 [(0, .double d0), (2, .double d2)] []
  refine gz_dload_n K dX9_remainderOf_0 0 rfl ?_
  refine gz_dconst0 K dX9_remainderOf_1 ?_
  refine gz_dcmp K dX9_remainderOf_2 ?_
  refine gz_if_ge K 11 dX9_remainderOf_3 (by decide) (fun h => ?_) (fun h => ?_)
  · have hp := hp.1 h
    refine gz_dload_n K dX9_remainderOf_11 0 rfl ?_
    exact bb_12 d0 d2 d0  hp
  · have hp := hp.2 h
    refine gz_dload_n K dX9_remainderOf_6 0 rfl ?_
    refine gz_dneg K dX9_remainderOf_7 ?_
    refine gz_goto K 12 dX9_remainderOf_8 (by decide) ?_
    exact bb_12 d0 d2 (FP.dneg d0)  hp
set_option maxRecDepth 100000 in
set_option maxHeartbeats 4000000 in
theorem c_X9_remainder {l : Launch} {D : va_G} {ad : Nat → Nat} {ty : Nat → ClassId} (hl : l.stackTraces = false) (hj : ∀ i j, i < 68 → j < 68 → ad i = ad j → i = j) {σ : Dz} {x1 : Int32} {x2 : Int32} {x3 : Int32} {post : UInt64 → Prop} {px : String → Prop} (hp : P_X9_remainder σ x1 x2 x3 post px) : Mz l D ad ty yX9_remainder cX9_remainder 4 (some .double) r_X9_remainder nD0 σ [.ref (ad 0), .int x1, .int x2, .int x3] (fun r τ => σ = τ ∧ post r) (fun E τ => σ = τ ∧ px E) := by
  refine mz_of (by decide) hl hj (Nat.le_of_ble_eq_true rfl) ?_
  intro p e s m args below meth c K hex hr
  unfold P_X9_remainder at hp
  show Gz p l e r_X9_remainder s m args below meth c D ad ty 4 0 0 (Ez below D ad ty nD0 (fun r τ => σ = τ ∧ post r) (fun E τ => σ = τ ∧ px E) args s 3 18) σ 0 [(0, .ref (ad 0)), (1, .int x1), (2, .int x2), (3, .int x3)] []
  refine gz_iload_n K dX9_remainder_0 1 rfl ?_
  refine gz_iload_n K dX9_remainder_1 2 rfl ?_
  refine gz_callS K hex (c_X9_checkElement K.2.2.2.2.2 K.2.2.1 hp) cf_X9_checkElement zq4_230 dX9_remainder_2 rfl rfl (Nat.le_of_ble_eq_true rfl) ⟨Nat.le_of_ble_eq_true rfl, Nat.le_of_ble_eq_true rfl⟩ ⟨Nat.le_of_ble_eq_true rfl, Nat.le_of_ble_eq_true rfl⟩ (Nat.le_of_ble_eq_true rfl) (Nat.le_of_ble_eq_true rfl) (fun _ _ h => ⟨h.1, h.2⟩) (fun _ τ hp => ?_)
  obtain ⟨rfl, hp⟩ := hp
  refine gz_norm (st' := []) (cells' := 2) (slots' := 12) rfl rfl rfl ?_
  refine gz_iload_n K dX9_remainder_5 3 rfl ?_
  refine gz_if_ne K 20 dX9_remainder_6 (by decide) (fun h => ?_) (fun h => ?_)
  · have hp := hp.1 h
    refine gz_iload_n K dX9_remainder_20 1 rfl ?_
    refine gz_if_ne K 40 dX9_remainder_21 (by decide) (fun h => ?_) (fun h => ?_)
    · have hp := hp.1 h
      refine gz_aload_n K dX9_remainder_40 0 rfl ?_
      refine gz_get K (v := .ref (ad 42)) (by decide) (ce_0 _ _ _ _ _ _) rfl inz_X9 10 (by decide) zq1_212 rfl dX9_remainder_41 ?_
      refine gz_iload_n K dX9_remainder_44 2 rfl ?_
      obtain ⟨h, hp⟩ := hp
      refine gz_dald K (by decide) (ce_42 _ _ _ _ _ _) h dX9_remainder_45 ?_
      refine gz_iload_n K dX9_remainder_46 3 rfl ?_
      refine gz_i2d K dX9_remainder_47 ?_
      refine gz_callS K hex (c_X9_remainderOf K.2.2.2.2.2 K.2.2.1 hp) cf_X9_remainderOf zq5_14 dX9_remainder_48 rfl rfl (Nat.le_of_ble_eq_true rfl) ⟨Nat.le_of_ble_eq_true rfl, Nat.le_of_ble_eq_true rfl⟩ ⟨Nat.le_of_ble_eq_true rfl, Nat.le_of_ble_eq_true rfl⟩ (Nat.le_of_ble_eq_true rfl) (Nat.le_of_ble_eq_true rfl) (fun _ _ h => h.elim) (fun r48 τ hp => ?_)
      obtain ⟨rfl, hp⟩ := hp
      refine gz_norm (st' := [.double r48]) (cells' := 2) (slots' := 12) rfl rfl rfl ?_
      exact gz_dret K hr ⟨rfl, hp⟩ dX9_remainder_51 (Nat.le_of_ble_eq_true rfl) (Nat.le_of_ble_eq_true rfl)
    · have hp := hp.2 h
      refine gz_aload_n K dX9_remainder_24 0 rfl ?_
      refine gz_get K (v := .ref (ad 41)) (by decide) (ce_0 _ _ _ _ _ _) rfl inz_X9 9 (by decide) zq1_211 rfl dX9_remainder_25 ?_
      refine gz_iload_n K dX9_remainder_28 2 rfl ?_
      obtain ⟨h, hp⟩ := hp
      refine gz_fald K (by decide) (ce_41 _ _ _ _ _ _) h dX9_remainder_29 ?_
      obtain ⟨h, hp⟩ := hp
      refine gz_f2d K dX9_remainder_30 h ?_
      refine gz_iload_n K dX9_remainder_31 3 rfl ?_
      refine gz_i2f K dX9_remainder_32 ?_
      obtain ⟨h, hp⟩ := hp
      refine gz_f2d K dX9_remainder_33 h ?_
      refine gz_callS K hex (c_X9_remainderOf K.2.2.2.2.2 K.2.2.1 hp) cf_X9_remainderOf zq5_14 dX9_remainder_34 rfl rfl (Nat.le_of_ble_eq_true rfl) ⟨Nat.le_of_ble_eq_true rfl, Nat.le_of_ble_eq_true rfl⟩ ⟨Nat.le_of_ble_eq_true rfl, Nat.le_of_ble_eq_true rfl⟩ (Nat.le_of_ble_eq_true rfl) (Nat.le_of_ble_eq_true rfl) (fun _ _ h => h.elim) (fun r34 τ hp => ?_)
      obtain ⟨rfl, hp⟩ := hp
      refine gz_norm (st' := [.double r34]) (cells' := 2) (slots' := 12) rfl rfl rfl ?_
      refine gz_goto K 51 dX9_remainder_37 (by decide) ?_
      exact gz_dret K hr ⟨rfl, hp⟩ dX9_remainder_51 (Nat.le_of_ble_eq_true rfl) (Nat.le_of_ble_eq_true rfl)
  · have hp := hp.2 h
    obtain ⟨sa, hsa⟩ := K.2.2.2.2.1.2.2.1 _ (List.mem_of_getElem? (l := zStr) (i := 22) rfl)
    exact gz_throw K hex true rfl xd_ArithmeticException_0 xd_ArithmeticException_1 xd_ArithmeticException_2 xd_ArithmeticException_5 (by decide) zq3_184 zq1_20 hsa xl_162 dX9_remainder_9 dX9_remainder_12 dX9_remainder_13 dX9_remainder_16 dX9_remainder_19 (Nat.le_of_ble_eq_true rfl) (Nat.le_of_ble_eq_true rfl) (Nat.le_of_ble_eq_true rfl) (Nat.le_of_ble_eq_true rfl) ⟨rfl, hp⟩ (Nat.le_of_ble_eq_true rfl) (Nat.le_of_ble_eq_true rfl)
set_option maxRecDepth 100000 in
set_option maxHeartbeats 4000000 in
theorem c_X9_snapshot {l : Launch} {D : va_G} {ad : Nat → Nat} {ty : Nat → ClassId} (hl : l.stackTraces = false) (hj : ∀ i j, i < 68 → j < 68 → ad i = ad j → i = j) {σ : Dz} {post : Dz → Prop} (hp : P_X9_snapshot σ post) : Mz l D ad ty yX9_snapshot cX9_snapshot 1 none r_X9_snapshot nV0 σ [.ref (ad 0)] (fun _ τ => post τ) (fun _ _ => False) := by
  refine mz_of (by decide) hl hj (Nat.le_of_ble_eq_true rfl) ?_
  intro p e s m args below meth c K hex hr
  unfold P_X9_snapshot at hp
  show Gz p l e r_X9_snapshot s m args below meth c D ad ty 1 0 0 (Ez below D ad ty nV0 (fun _ τ => post τ) (fun _ _ => False) args s 0 0) σ 0 [(0, .ref (ad 0))] []
  refine gz_aload_n K dX9_snapshot_0 0 rfl ?_
  refine gz_get K (v := .ref (ad 28)) (by decide) (ce_0 _ _ _ _ _ _) rfl inz_X9 7 (by decide) zq1_209 rfl dX9_snapshot_1 ?_
  refine gz_aload_n K dX9_snapshot_4 0 rfl ?_
  refine gz_get K (v := .ref (ad 17)) (by decide) (ce_0 _ _ _ _ _ _) rfl inz_X9 6 (by decide) zq1_208 rfl dX9_snapshot_5 ?_
  refine gz_callV K hex (c_X4_copyFrom K.2.2.2.2.2 K.2.2.1 (by unfold isS; decide) (by unfold isS; decide) hp) cf_X4_copyFrom zq2_95 (by decide) (ce_28 _ _ _ _ _ _) rfl dX9_snapshot_8 rfl rfl (Nat.le_of_ble_eq_true rfl) ⟨Nat.le_of_ble_eq_true rfl, Nat.le_of_ble_eq_true rfl⟩ ⟨Nat.le_of_ble_eq_true rfl, Nat.le_of_ble_eq_true rfl⟩ (Nat.le_of_ble_eq_true rfl) (Nat.le_of_ble_eq_true rfl) (fun _ _ h => h.elim) (fun _ τ8 hp => ?_)
  refine gz_norm (st' := []) (cells' := 0) (slots' := 0) rfl rfl rfl ?_
  refine gz_aload_n K dX9_snapshot_11 0 rfl ?_
  refine gz_iconst K (v := (1 : Int32)) dX9_snapshot_12 (by decide) ?_
  refine gz_put K (x := (1 : Int32)) (by decide) (ce_0 _ _ _ _ _ _) rfl inz_X9 tyX9 tyX9_ok nmX9 13 (by decide) zq1_215 rfl (tyX9_ok _ (by decide)) rfl rfl (Nat.le_of_ble_eq_true rfl) peX9_13 dX9_snapshot_13 ?_
  exact gz_vret K hr hp dX9_snapshot_16 (Nat.le_of_ble_eq_true rfl) (Nat.le_of_ble_eq_true rfl)
set_option maxRecDepth 100000 in
set_option maxHeartbeats 4000000 in
theorem c_X9_restore {l : Launch} {D : va_G} {ad : Nat → Nat} {ty : Nat → ClassId} (hl : l.stackTraces = false) (hj : ∀ i j, i < 68 → j < 68 → ad i = ad j → i = j) {σ : Dz} {post : Dz → Prop} {px : String → Dz → Prop} (hp : P_X9_restore σ post px) : Mz l D ad ty yX9_restore cX9_restore 1 none r_X9_restore nV0 σ [.ref (ad 0)] (fun _ τ => post τ) px := by
  refine mz_of (by decide) hl hj (Nat.le_of_ble_eq_true rfl) ?_
  intro p e s m args below meth c K hex hr
  unfold P_X9_restore at hp
  show Gz p l e r_X9_restore s m args below meth c D ad ty 1 0 0 (Ez below D ad ty nV0 (fun _ τ => post τ) px args s 1 6) σ 0 [(0, .ref (ad 0))] []
  refine gz_aload_n K dX9_restore_0 0 rfl ?_
  refine gz_get K (v := .int (gz_i σ 0 13)) (by decide) (ce_0 _ _ _ _ _ _) rfl inz_X9 13 (by decide) zq1_215 rfl dX9_restore_1 ?_
  refine gz_if_ne K 18 dX9_restore_4 (by decide) (fun h => ?_) (fun h => ?_)
  · have hp := hp.1 h
    refine gz_aload_n K dX9_restore_18 0 rfl ?_
    refine gz_get K (v := .ref (ad 17)) (by decide) (ce_0 _ _ _ _ _ _) rfl inz_X9 6 (by decide) zq1_208 rfl dX9_restore_19 ?_
    refine gz_aload_n K dX9_restore_22 0 rfl ?_
    refine gz_get K (v := .ref (ad 28)) (by decide) (ce_0 _ _ _ _ _ _) rfl inz_X9 7 (by decide) zq1_209 rfl dX9_restore_23 ?_
    refine gz_callV K hex (c_X4_copyFrom K.2.2.2.2.2 K.2.2.1 (by unfold isS; decide) (by unfold isS; decide) hp) cf_X4_copyFrom zq2_95 (by decide) (ce_17 _ _ _ _ _ _) rfl dX9_restore_26 rfl rfl (Nat.le_of_ble_eq_true rfl) ⟨Nat.le_of_ble_eq_true rfl, Nat.le_of_ble_eq_true rfl⟩ ⟨Nat.le_of_ble_eq_true rfl, Nat.le_of_ble_eq_true rfl⟩ (Nat.le_of_ble_eq_true rfl) (Nat.le_of_ble_eq_true rfl) (fun _ _ h => h.elim) (fun _ τ26 hp => ?_)
    refine gz_norm (st' := []) (cells' := 0) (slots' := 0) rfl rfl rfl ?_
    refine gz_aload_n K dX9_restore_29 0 rfl ?_
    refine gz_iconst K (v := (0 : Int32)) dX9_restore_30 (by decide) ?_
    refine gz_put K (x := (0 : Int32)) (by decide) (ce_0 _ _ _ _ _ _) rfl inz_X9 tyX9 tyX9_ok nmX9 14 (by decide) zq1_216 rfl (tyX9_ok _ (by decide)) rfl rfl (Nat.le_of_ble_eq_true rfl) peX9_14 dX9_restore_31 ?_
    exact gz_vret K hr hp dX9_restore_34 (Nat.le_of_ble_eq_true rfl) (Nat.le_of_ble_eq_true rfl)
  · have hp := hp.2 h
    obtain ⟨sa, hsa⟩ := K.2.2.2.2.1.2.2.1 _ (List.mem_of_getElem? (l := zStr) (i := 23) rfl)
    exact gz_throw K hex true rfl xd_IllegalStateException_0 xd_IllegalStateException_1 xd_IllegalStateException_2 xd_IllegalStateException_5 (by decide) zq2_216 zq1_15 hsa xl_110 dX9_restore_7 dX9_restore_10 dX9_restore_11 dX9_restore_14 dX9_restore_17 (Nat.le_of_ble_eq_true rfl) (Nat.le_of_ble_eq_true rfl) (Nat.le_of_ble_eq_true rfl) (Nat.le_of_ble_eq_true rfl) hp (Nat.le_of_ble_eq_true rfl) (Nat.le_of_ble_eq_true rfl)
