/-! walks. Written by wip/whole/genall.py -/
set_option maxRecDepth 100000 in
set_option maxHeartbeats 4000000 in
theorem c_L_reset {l : Launch} {D : va_G} {ad : Nat → Nat} {ty : Nat → ClassId} (hl : l.stackTraces = false) (hj : ∀ i j, i < 68 → j < 68 → ad i = ad j → i = j) {σ : Dz} {x1 : Int32} {post : Int32 → Dz → Prop} (hp : P_L_reset σ x1 post) : MzW l D ad ty yL_reset cL_reset 4 (some .int) [(0, 9, 12, 13)] r_L_reset nI0 σ [.ref (ad 0), .int x1, .ref (ad 66)] post (fun _ _ => False) := by
  refine mzw_of (by decide) hl hj (Nat.le_of_ble_eq_true rfl) ?_
  intro p e s m args below meth c K htab hr
  unfold P_L_reset at hp
  show Gz p l e r_L_reset s m args below meth c D ad ty 4 0 0 (Ez below D ad ty nI0 post (fun _ _ => False) args s 1 6) σ 0 [(0, .ref (ad 0)), (1, .int x1), (2, .ref (ad 66))] []
  refine gz_aload_n K dL_reset_0 2 rfl ?_
  refine gz_iconst K (v := (0 : Int32)) dL_reset_1 (by decide) ?_
  refine gz_aload_n K dL_reset_2 0 rfl ?_
  refine gz_iload_n K dL_reset_3 1 rfl ?_
  refine gz_callVc K (c_X9_reset K.2.2.2.2.2 K.2.2.1 hp) cf_X9_reset zq2_127 (by decide) (ce_0 _ _ _ _ _ _) rfl dL_reset_4 rfl rfl (Nat.le_of_ble_eq_true rfl) ⟨Nat.le_of_ble_eq_true rfl, Nat.le_of_ble_eq_true rfl⟩ ⟨Nat.le_of_ble_eq_true rfl, Nat.le_of_ble_eq_true rfl⟩ (fun E τ h => ?_) (fun r4 τ4 hp => ?_)
  · have h := h
    rcases h with ⟨rfl, hp⟩
    · refine cz_catch K [] ⟨0, 9, 12, 13⟩ [] (htab.trans rfl) (fun z hz => absurd hz List.not_mem_nil) (by decide) (by decide) zq2_126 (List.mem_of_getElem? (i := 0) rfl) (fun q => ?_)
      refine gz_astore_n K [(3, .ref q), (0, .ref (ad 0)), (1, .int x1), (2, .ref (ad 66))] dL_reset_12 (by decide) rfl ?_
      refine gz_iconst K (v := (1 : Int32)) dL_reset_13 (by decide) ?_
      exact gz_iret K hr hp dL_reset_14 (Nat.le_of_ble_eq_true rfl) (Nat.le_of_ble_eq_true rfl)
  refine gz_norm (st' := [.int r4, .int (0 : Int32), .ref (ad 66)]) (cells' := 1) (slots' := 6) rfl rfl rfl ?_
  refine gz_i2l K dL_reset_7 ?_
  refine gz_last K (x := (r4).toInt64) (by decide) (ce_66 ad ty) (by unfold vp_in; decide) dL_reset_8 ?_
  refine gz_goto K 15 dL_reset_9 (by decide) ?_
  refine gz_iconst K (v := (0 : Int32)) dL_reset_15 (by decide) ?_
  exact gz_iret K hr hp dL_reset_16 (Nat.le_of_ble_eq_true rfl) (Nat.le_of_ble_eq_true rfl)
set_option maxRecDepth 100000 in
set_option maxHeartbeats 4000000 in
theorem c_L_append {l : Launch} {D : va_G} {ad : Nat → Nat} {ty : Nat → ClassId} (hl : l.stackTraces = false) (hj : ∀ i j, i < 68 → j < 68 → ad i = ad j → i = j) {σ : Dz} {x1 : Int32} {post : Int32 → Dz → Prop} (hp : P_L_append σ x1 post) : MzW l D ad ty yL_append cL_append 4 (some .int) [(0, 9, 12, 13), (0, 9, 15, 19)] r_L_append nI0 σ [.ref (ad 0), .int x1, .ref (ad 66)] post (fun _ _ => False) := by
  refine mzw_of (by decide) hl hj (Nat.le_of_ble_eq_true rfl) ?_
  intro p e s m args below meth c K htab hr
  unfold P_L_append at hp
  show Gz p l e r_L_append s m args below meth c D ad ty 4 0 0 (Ez below D ad ty nI0 post (fun _ _ => False) args s 1 6) σ 0 [(0, .ref (ad 0)), (1, .int x1), (2, .ref (ad 66))] []
  refine gz_aload_n K dL_append_0 2 rfl ?_
  refine gz_iconst K (v := (0 : Int32)) dL_append_1 (by decide) ?_
  refine gz_aload_n K dL_append_2 0 rfl ?_
  refine gz_iload_n K dL_append_3 1 rfl ?_
  refine gz_callVc K (c_X9_append K.2.2.2.2.2 K.2.2.1 hp) cf_X9_append zq2_207 (by decide) (ce_0 _ _ _ _ _ _) rfl dL_append_4 rfl rfl (Nat.le_of_ble_eq_true rfl) ⟨Nat.le_of_ble_eq_true rfl, Nat.le_of_ble_eq_true rfl⟩ ⟨Nat.le_of_ble_eq_true rfl, Nat.le_of_ble_eq_true rfl⟩ (fun E τ h => ?_) (fun r4 τ4 hp => ?_)
  · have h := h
    rcases h with ⟨rfl, hp⟩ | ⟨rfl, hp⟩
    · refine cz_catch K [] ⟨0, 9, 12, 13⟩ [⟨0, 9, 15, 19⟩] (htab.trans rfl) (fun z hz => absurd hz List.not_mem_nil) (by decide) (by decide) zq2_126 (List.mem_of_getElem? (i := 0) rfl) (fun q => ?_)
      refine gz_astore_n K [(3, .ref q), (0, .ref (ad 0)), (1, .int x1), (2, .ref (ad 66))] dL_append_12 (by decide) rfl ?_
      refine gz_iconst K (v := (1 : Int32)) dL_append_13 (by decide) ?_
      exact gz_iret K hr hp dL_append_14 (Nat.le_of_ble_eq_true rfl) (Nat.le_of_ble_eq_true rfl)
    · refine cz_catch K [⟨0, 9, 12, 13⟩] ⟨0, 9, 15, 19⟩ [] (htab.trans rfl) (List.forall_mem_cons.mpr ⟨⟨by decide, "java/lang/IllegalArgumentException", zq2_126, List.mem_of_getElem? (i := 0) rfl⟩, fun z hz => absurd hz List.not_mem_nil⟩) (by decide) (by decide) zq2_206 (List.mem_of_getElem? (i := 1) rfl) (fun q => ?_)
      refine gz_astore_n K [(3, .ref q), (0, .ref (ad 0)), (1, .int x1), (2, .ref (ad 66))] dL_append_15 (by decide) rfl ?_
      refine gz_iconst K (v := (2 : Int32)) dL_append_16 (by decide) ?_
      exact gz_iret K hr hp dL_append_17 (Nat.le_of_ble_eq_true rfl) (Nat.le_of_ble_eq_true rfl)
  refine gz_norm (st' := [.int r4, .int (0 : Int32), .ref (ad 66)]) (cells' := 1) (slots' := 6) rfl rfl rfl ?_
  refine gz_i2l K dL_append_7 ?_
  refine gz_last K (x := (r4).toInt64) (by decide) (ce_66 ad ty) (by unfold vp_in; decide) dL_append_8 ?_
  refine gz_goto K 18 dL_append_9 (by decide) ?_
  refine gz_iconst K (v := (0 : Int32)) dL_append_18 (by decide) ?_
  exact gz_iret K hr hp dL_append_19 (Nat.le_of_ble_eq_true rfl) (Nat.le_of_ble_eq_true rfl)
set_option maxRecDepth 100000 in
set_option maxHeartbeats 4000000 in
theorem c_L_define {l : Launch} {D : va_G} {ad : Nat → Nat} {ty : Nat → ClassId} (hl : l.stackTraces = false) (hj : ∀ i j, i < 68 → j < 68 → ad i = ad j → i = j) {σ : Dz} {x1 : Int32} {post : Int32 → Dz → Prop} (hp : P_L_define σ x1 post) : MzW l D ad ty yL_define cL_define 4 (some .int) [(0, 9, 12, 24), (0, 9, 15, 13)] r_L_define nI0 σ [.ref (ad 0), .int x1, .ref (ad 66)] post (fun _ _ => False) := by
  refine mzw_of (by decide) hl hj (Nat.le_of_ble_eq_true rfl) ?_
  intro p e s m args below meth c K htab hr
  unfold P_L_define at hp
  show Gz p l e r_L_define s m args below meth c D ad ty 4 0 0 (Ez below D ad ty nI0 post (fun _ _ => False) args s 2 12) σ 0 [(0, .ref (ad 0)), (1, .int x1), (2, .ref (ad 66))] []
  refine gz_aload_n K dL_define_0 2 rfl ?_
  refine gz_iconst K (v := (0 : Int32)) dL_define_1 (by decide) ?_
  refine gz_aload_n K dL_define_2 0 rfl ?_
  refine gz_iload_n K dL_define_3 1 rfl ?_
  refine gz_callVc K (c_X9_define K.2.2.2.2.2 K.2.2.1 hp) cf_X9_define zq3_23 (by decide) (ce_0 _ _ _ _ _ _) rfl dL_define_4 rfl rfl (Nat.le_of_ble_eq_true rfl) ⟨Nat.le_of_ble_eq_true rfl, Nat.le_of_ble_eq_true rfl⟩ ⟨Nat.le_of_ble_eq_true rfl, Nat.le_of_ble_eq_true rfl⟩ (fun E τ h => ?_) (fun r4 τ4 hp => ?_)
  · have h := h
    rcases h with ⟨rfl, hp⟩ | ⟨rfl, hp⟩
    · refine cz_catch K [] ⟨0, 9, 12, 24⟩ [⟨0, 9, 15, 13⟩] (htab.trans rfl) (fun z hz => absurd hz List.not_mem_nil) (by decide) (by decide) zq2_239 (List.mem_of_getElem? (i := 2) rfl) (fun q => ?_)
      refine gz_astore_n K [(3, .ref q), (0, .ref (ad 0)), (1, .int x1), (2, .ref (ad 66))] dL_define_12 (by decide) rfl ?_
      refine gz_iconst K (v := (1 : Int32)) dL_define_13 (by decide) ?_
      exact gz_iret K hr hp dL_define_14 (Nat.le_of_ble_eq_true rfl) (Nat.le_of_ble_eq_true rfl)
    · refine cz_catch K [⟨0, 9, 12, 24⟩] ⟨0, 9, 15, 13⟩ [] (htab.trans rfl) (List.forall_mem_cons.mpr ⟨⟨by decide, "java/lang/IndexOutOfBoundsException", zq2_239, List.mem_of_getElem? (i := 8) rfl⟩, fun z hz => absurd hz List.not_mem_nil⟩) (by decide) (by decide) zq2_126 (List.mem_of_getElem? (i := 0) rfl) (fun q => ?_)
      refine gz_astore_n K [(3, .ref q), (0, .ref (ad 0)), (1, .int x1), (2, .ref (ad 66))] dL_define_15 (by decide) rfl ?_
      refine gz_iconst K (v := (2 : Int32)) dL_define_16 (by decide) ?_
      exact gz_iret K hr hp dL_define_17 (Nat.le_of_ble_eq_true rfl) (Nat.le_of_ble_eq_true rfl)
  refine gz_norm (st' := [.int r4, .int (0 : Int32), .ref (ad 66)]) (cells' := 2) (slots' := 12) rfl rfl rfl ?_
  refine gz_i2l K dL_define_7 ?_
  refine gz_last K (x := (r4).toInt64) (by decide) (ce_66 ad ty) (by unfold vp_in; decide) dL_define_8 ?_
  refine gz_goto K 18 dL_define_9 (by decide) ?_
  refine gz_iconst K (v := (0 : Int32)) dL_define_18 (by decide) ?_
  exact gz_iret K hr hp dL_define_19 (Nat.le_of_ble_eq_true rfl) (Nat.le_of_ble_eq_true rfl)
set_option maxRecDepth 100000 in
set_option maxHeartbeats 4000000 in
theorem c_L_store {l : Launch} {D : va_G} {ad : Nat → Nat} {ty : Nat → ClassId} (hl : l.stackTraces = false) (hj : ∀ i j, i < 68 → j < 68 → ad i = ad j → i = j) {σ : Dz} {x1 : Int32} {post : Int32 → Dz → Prop} (hp : P_L_store σ x1 post) : MzW l D ad ty yL_store cL_store 4 (some .int) [(0, 9, 12, 24), (0, 9, 15, 13), (0, 9, 18, 19), (0, 9, 21, 29)] r_L_store nI0 σ [.ref (ad 0), .int x1, .ref (ad 66)] post (fun _ _ => False) := by
  refine mzw_of (by decide) hl hj (Nat.le_of_ble_eq_true rfl) ?_
  intro p e s m args below meth c K htab hr
  unfold P_L_store at hp
  show Gz p l e r_L_store s m args below meth c D ad ty 4 0 0 (Ez below D ad ty nI0 post (fun _ _ => False) args s 2 12) σ 0 [(0, .ref (ad 0)), (1, .int x1), (2, .ref (ad 66))] []
  refine gz_aload_n K dL_store_0 2 rfl ?_
  refine gz_iconst K (v := (0 : Int32)) dL_store_1 (by decide) ?_
  refine gz_aload_n K dL_store_2 0 rfl ?_
  refine gz_iload_n K dL_store_3 1 rfl ?_
  refine gz_callVc K (c_X9_store K.2.2.2.2.2 K.2.2.1 hp) cf_X9_store zq3_100 (by decide) (ce_0 _ _ _ _ _ _) rfl dL_store_4 rfl rfl (Nat.le_of_ble_eq_true rfl) ⟨Nat.le_of_ble_eq_true rfl, Nat.le_of_ble_eq_true rfl⟩ ⟨Nat.le_of_ble_eq_true rfl, Nat.le_of_ble_eq_true rfl⟩ (fun E τ h => ?_) (fun r4 τ4 hp => ?_)
  · have h := h
    rcases h with ⟨rfl, hp⟩ | ⟨rfl, hp⟩ | ⟨rfl, hp⟩ | ⟨rfl, hp⟩
    · refine cz_catch K [] ⟨0, 9, 12, 24⟩ [⟨0, 9, 15, 13⟩, ⟨0, 9, 18, 19⟩, ⟨0, 9, 21, 29⟩] (htab.trans rfl) (fun z hz => absurd hz List.not_mem_nil) (by decide) (by decide) zq2_239 (List.mem_of_getElem? (i := 2) rfl) (fun q => ?_)
      refine gz_astore_n K [(3, .ref q), (0, .ref (ad 0)), (1, .int x1), (2, .ref (ad 66))] dL_store_12 (by decide) rfl ?_
      refine gz_iconst K (v := (1 : Int32)) dL_store_13 (by decide) ?_
      exact gz_iret K hr hp dL_store_14 (Nat.le_of_ble_eq_true rfl) (Nat.le_of_ble_eq_true rfl)
    · refine cz_catch K [⟨0, 9, 12, 24⟩] ⟨0, 9, 15, 13⟩ [⟨0, 9, 18, 19⟩, ⟨0, 9, 21, 29⟩] (htab.trans rfl) (List.forall_mem_cons.mpr ⟨⟨by decide, "java/lang/IndexOutOfBoundsException", zq2_239, List.mem_of_getElem? (i := 8) rfl⟩, fun z hz => absurd hz List.not_mem_nil⟩) (by decide) (by decide) zq2_126 (List.mem_of_getElem? (i := 0) rfl) (fun q => ?_)
      refine gz_astore_n K [(3, .ref q), (0, .ref (ad 0)), (1, .int x1), (2, .ref (ad 66))] dL_store_15 (by decide) rfl ?_
      refine gz_iconst K (v := (2 : Int32)) dL_store_16 (by decide) ?_
      exact gz_iret K hr hp dL_store_17 (Nat.le_of_ble_eq_true rfl) (Nat.le_of_ble_eq_true rfl)
    · refine cz_catch K [⟨0, 9, 12, 24⟩, ⟨0, 9, 15, 13⟩] ⟨0, 9, 18, 19⟩ [⟨0, 9, 21, 29⟩] (htab.trans rfl) (List.forall_mem_cons.mpr ⟨⟨by decide, "java/lang/IndexOutOfBoundsException", zq2_239, List.mem_of_getElem? (i := 9) rfl⟩, List.forall_mem_cons.mpr ⟨⟨by decide, "java/lang/IllegalArgumentException", zq2_126, List.mem_of_getElem? (i := 0) rfl⟩, fun z hz => absurd hz List.not_mem_nil⟩⟩) (by decide) (by decide) zq2_206 (List.mem_of_getElem? (i := 1) rfl) (fun q => ?_)
      refine gz_astore_n K [(3, .ref q), (0, .ref (ad 0)), (1, .int x1), (2, .ref (ad 66))] dL_store_18 (by decide) rfl ?_
      refine gz_iconst K (v := (3 : Int32)) dL_store_19 (by decide) ?_
      exact gz_iret K hr hp dL_store_20 (Nat.le_of_ble_eq_true rfl) (Nat.le_of_ble_eq_true rfl)
    · refine cz_catch K [⟨0, 9, 12, 24⟩, ⟨0, 9, 15, 13⟩, ⟨0, 9, 18, 19⟩] ⟨0, 9, 21, 29⟩ [] (htab.trans rfl) (List.forall_mem_cons.mpr ⟨⟨by decide, "java/lang/IndexOutOfBoundsException", zq2_239, List.mem_of_getElem? (i := 10) rfl⟩, List.forall_mem_cons.mpr ⟨⟨by decide, "java/lang/IllegalArgumentException", zq2_126, List.mem_of_getElem? (i := 2) rfl⟩, List.forall_mem_cons.mpr ⟨⟨by decide, "java/lang/IllegalStateException", zq2_206, List.mem_of_getElem? (i := 6) rfl⟩, fun z hz => absurd hz List.not_mem_nil⟩⟩⟩) (by decide) (by decide) zq3_86 (List.mem_of_getElem? (i := 3) rfl) (fun q => ?_)
      refine gz_astore_n K [(3, .ref q), (0, .ref (ad 0)), (1, .int x1), (2, .ref (ad 66))] dL_store_21 (by decide) rfl ?_
      refine gz_iconst K (v := (4 : Int32)) dL_store_22 (by decide) ?_
      exact gz_iret K hr hp dL_store_23 (Nat.le_of_ble_eq_true rfl) (Nat.le_of_ble_eq_true rfl)
  refine gz_norm (st' := [.int r4, .int (0 : Int32), .ref (ad 66)]) (cells' := 2) (slots' := 12) rfl rfl rfl ?_
  refine gz_i2l K dL_store_7 ?_
  refine gz_last K (x := (r4).toInt64) (by decide) (ce_66 ad ty) (by unfold vp_in; decide) dL_store_8 ?_
  refine gz_goto K 24 dL_store_9 (by decide) ?_
  refine gz_iconst K (v := (0 : Int32)) dL_store_24 (by decide) ?_
  exact gz_iret K hr hp dL_store_25 (Nat.le_of_ble_eq_true rfl) (Nat.le_of_ble_eq_true rfl)
set_option maxRecDepth 100000 in
set_option maxHeartbeats 4000000 in
theorem c_L_errorPosition {l : Launch} {D : va_G} {ad : Nat → Nat} {ty : Nat → ClassId} (hl : l.stackTraces = false) (hj : ∀ i j, i < 68 → j < 68 → ad i = ad j → i = j) {σ : Dz} {post : Int32 → Dz → Prop} (hp : P_L_errorPosition σ post) : MzW l D ad ty yL_errorPosition cL_errorPosition 3 (some .int) [(0, 8, 11, 35)] r_L_errorPosition nI0 σ [.ref (ad 0), .ref (ad 66)] post (fun _ _ => False) := by
  refine mzw_of (by decide) hl hj (Nat.le_of_ble_eq_true rfl) ?_
  intro p e s m args below meth c K htab hr
  unfold P_L_errorPosition at hp
  show Gz p l e r_L_errorPosition s m args below meth c D ad ty 3 0 0 (Ez below D ad ty nI0 post (fun _ _ => False) args s 1 6) σ 0 [(0, .ref (ad 0)), (1, .ref (ad 66))] []
  refine gz_aload_n K dL_errorPosition_0 1 rfl ?_
  refine gz_iconst K (v := (0 : Int32)) dL_errorPosition_1 (by decide) ?_
  refine gz_aload_n K dL_errorPosition_2 0 rfl ?_
  refine gz_callVc K (c_X9_errorPosition K.2.2.2.2.2 K.2.2.1 hp) cf_X9_errorPosition zq3_201 (by decide) (ce_0 _ _ _ _ _ _) rfl dL_errorPosition_3 rfl rfl (Nat.le_of_ble_eq_true rfl) ⟨Nat.le_of_ble_eq_true rfl, Nat.le_of_ble_eq_true rfl⟩ ⟨Nat.le_of_ble_eq_true rfl, Nat.le_of_ble_eq_true rfl⟩ (fun E τ h => ?_) (fun r3 τ hp => ?_)
  · obtain ⟨rfl, h⟩ := h
    rcases h with ⟨rfl, hp⟩
    · refine cz_catch K [] ⟨0, 8, 11, 35⟩ [] (htab.trans rfl) (fun z hz => absurd hz List.not_mem_nil) (by decide) (by decide) zq3_200 (List.mem_of_getElem? (i := 4) rfl) (fun q => ?_)
      refine gz_astore_n K [(2, .ref q), (0, .ref (ad 0)), (1, .ref (ad 66))] dL_errorPosition_11 (by decide) rfl ?_
      refine gz_iconst K (v := (1 : Int32)) dL_errorPosition_12 (by decide) ?_
      exact gz_iret K hr hp dL_errorPosition_13 (Nat.le_of_ble_eq_true rfl) (Nat.le_of_ble_eq_true rfl)
  obtain ⟨rfl, hp⟩ := hp
  refine gz_norm (st' := [.int r3, .int (0 : Int32), .ref (ad 66)]) (cells' := 1) (slots' := 6) rfl rfl rfl ?_
  refine gz_i2l K dL_errorPosition_6 ?_
  refine gz_last K (x := (r3).toInt64) (by decide) (ce_66 ad ty) (by unfold vp_in; decide) dL_errorPosition_7 ?_
  refine gz_goto K 14 dL_errorPosition_8 (by decide) ?_
  refine gz_iconst K (v := (0 : Int32)) dL_errorPosition_14 (by decide) ?_
  exact gz_iret K hr hp dL_errorPosition_15 (Nat.le_of_ble_eq_true rfl) (Nat.le_of_ble_eq_true rfl)
set_option maxRecDepth 100000 in
set_option maxHeartbeats 4000000 in
theorem c_L_target {l : Launch} {D : va_G} {ad : Nat → Nat} {ty : Nat → ClassId} (hl : l.stackTraces = false) (hj : ∀ i j, i < 68 → j < 68 → ad i = ad j → i = j) {σ : Dz} {x1 : Int32} {x2 : Int32} {post : Int32 → Dz → Prop} (hp : P_L_target σ x1 x2 post) : MzW l D ad ty yL_target cL_target 5 (some .int) [(0, 10, 13, 24), (0, 10, 17, 35)] r_L_target nI0 σ [.ref (ad 0), .int x1, .int x2, .ref (ad 66)] post (fun _ _ => False) := by
  refine mzw_of (by decide) hl hj (Nat.le_of_ble_eq_true rfl) ?_
  intro p e s m args below meth c K htab hr
  unfold P_L_target at hp
  show Gz p l e r_L_target s m args below meth c D ad ty 5 0 0 (Ez below D ad ty nI0 post (fun _ _ => False) args s 3 18) σ 0 [(0, .ref (ad 0)), (1, .int x1), (2, .int x2), (3, .ref (ad 66))] []
  refine gz_aload_n K dL_target_0 3 rfl ?_
  refine gz_iconst K (v := (0 : Int32)) dL_target_1 (by decide) ?_
  refine gz_aload_n K dL_target_2 0 rfl ?_
  refine gz_iload_n K dL_target_3 1 rfl ?_
  refine gz_iload_n K dL_target_4 2 rfl ?_
  refine gz_callVc K (c_X9_target K.2.2.2.2.2 K.2.2.1 hp) cf_X9_target zq3_224 (by decide) (ce_0 _ _ _ _ _ _) rfl dL_target_5 rfl rfl (Nat.le_of_ble_eq_true rfl) ⟨Nat.le_of_ble_eq_true rfl, Nat.le_of_ble_eq_true rfl⟩ ⟨Nat.le_of_ble_eq_true rfl, Nat.le_of_ble_eq_true rfl⟩ (fun E τ h => ?_) (fun r5 τ hp => ?_)
  · obtain ⟨rfl, h⟩ := h
    rcases h with ⟨rfl, hp⟩ | ⟨rfl, hp⟩
    · refine cz_catch K [] ⟨0, 10, 13, 24⟩ [⟨0, 10, 17, 35⟩] (htab.trans rfl) (fun z hz => absurd hz List.not_mem_nil) (by decide) (by decide) zq2_239 (List.mem_of_getElem? (i := 2) rfl) (fun q => ?_)
      refine gz_astore K [(4, .ref q), (0, .ref (ad 0)), (1, .int x1), (2, .int x2), (3, .ref (ad 66))] dL_target_13 (by decide) rfl ?_
      refine gz_iconst K (v := (1 : Int32)) dL_target_15 (by decide) ?_
      exact gz_iret K hr hp dL_target_16 (Nat.le_of_ble_eq_true rfl) (Nat.le_of_ble_eq_true rfl)
    · refine cz_catch K [⟨0, 10, 13, 24⟩] ⟨0, 10, 17, 35⟩ [] (htab.trans rfl) (List.forall_mem_cons.mpr ⟨⟨by decide, "java/lang/IndexOutOfBoundsException", zq2_239, List.mem_of_getElem? (i := 11) rfl⟩, fun z hz => absurd hz List.not_mem_nil⟩) (by decide) (by decide) zq3_200 (List.mem_of_getElem? (i := 4) rfl) (fun q => ?_)
      refine gz_astore K [(4, .ref q), (0, .ref (ad 0)), (1, .int x1), (2, .int x2), (3, .ref (ad 66))] dL_target_17 (by decide) rfl ?_
      refine gz_iconst K (v := (2 : Int32)) dL_target_19 (by decide) ?_
      exact gz_iret K hr hp dL_target_20 (Nat.le_of_ble_eq_true rfl) (Nat.le_of_ble_eq_true rfl)
  obtain ⟨rfl, hp⟩ := hp
  refine gz_norm (st' := [.int r5, .int (0 : Int32), .ref (ad 66)]) (cells' := 3) (slots' := 18) rfl rfl rfl ?_
  refine gz_i2l K dL_target_8 ?_
  refine gz_last K (x := (r5).toInt64) (by decide) (ce_66 ad ty) (by unfold vp_in; decide) dL_target_9 ?_
  refine gz_goto K 21 dL_target_10 (by decide) ?_
  refine gz_iconst K (v := (0 : Int32)) dL_target_21 (by decide) ?_
  exact gz_iret K hr hp dL_target_22 (Nat.le_of_ble_eq_true rfl) (Nat.le_of_ble_eq_true rfl)
set_option maxRecDepth 100000 in
set_option maxHeartbeats 4000000 in
theorem c_L_wordLength {l : Launch} {D : va_G} {ad : Nat → Nat} {ty : Nat → ClassId} (hl : l.stackTraces = false) (hj : ∀ i j, i < 68 → j < 68 → ad i = ad j → i = j) {σ : Dz} {x1 : Int32} {post : Int32 → Dz → Prop} (hp : P_L_wordLength σ x1 post) : MzW l D ad ty yL_wordLength cL_wordLength 4 (some .int) [(0, 9, 12, 24)] r_L_wordLength nI0 σ [.ref (ad 0), .int x1, .ref (ad 66)] post (fun _ _ => False) := by
  refine mzw_of (by decide) hl hj (Nat.le_of_ble_eq_true rfl) ?_
  intro p e s m args below meth c K htab hr
  unfold P_L_wordLength at hp
  show Gz p l e r_L_wordLength s m args below meth c D ad ty 4 0 0 (Ez below D ad ty nI0 post (fun _ _ => False) args s 1 6) σ 0 [(0, .ref (ad 0)), (1, .int x1), (2, .ref (ad 66))] []
  refine gz_aload_n K dL_wordLength_0 2 rfl ?_
  refine gz_iconst K (v := (0 : Int32)) dL_wordLength_1 (by decide) ?_
  refine gz_aload_n K dL_wordLength_2 0 rfl ?_
  refine gz_iload_n K dL_wordLength_3 1 rfl ?_
  refine gz_callVc K (c_X9_wordLength K.2.2.2.2.2 K.2.2.1 hp) cf_X9_wordLength zq4_0 (by decide) (ce_0 _ _ _ _ _ _) rfl dL_wordLength_4 rfl rfl (Nat.le_of_ble_eq_true rfl) ⟨Nat.le_of_ble_eq_true rfl, Nat.le_of_ble_eq_true rfl⟩ ⟨Nat.le_of_ble_eq_true rfl, Nat.le_of_ble_eq_true rfl⟩ (fun E τ h => ?_) (fun r4 τ hp => ?_)
  · obtain ⟨rfl, h⟩ := h
    rcases h with ⟨rfl, hp⟩
    · refine cz_catch K [] ⟨0, 9, 12, 24⟩ [] (htab.trans rfl) (fun z hz => absurd hz List.not_mem_nil) (by decide) (by decide) zq2_239 (List.mem_of_getElem? (i := 2) rfl) (fun q => ?_)
      refine gz_astore_n K [(3, .ref q), (0, .ref (ad 0)), (1, .int x1), (2, .ref (ad 66))] dL_wordLength_12 (by decide) rfl ?_
      refine gz_iconst K (v := (1 : Int32)) dL_wordLength_13 (by decide) ?_
      exact gz_iret K hr hp dL_wordLength_14 (Nat.le_of_ble_eq_true rfl) (Nat.le_of_ble_eq_true rfl)
  obtain ⟨rfl, hp⟩ := hp
  refine gz_norm (st' := [.int r4, .int (0 : Int32), .ref (ad 66)]) (cells' := 1) (slots' := 6) rfl rfl rfl ?_
  refine gz_i2l K dL_wordLength_7 ?_
  refine gz_last K (x := (r4).toInt64) (by decide) (ce_66 ad ty) (by unfold vp_in; decide) dL_wordLength_8 ?_
  refine gz_goto K 15 dL_wordLength_9 (by decide) ?_
  refine gz_iconst K (v := (0 : Int32)) dL_wordLength_15 (by decide) ?_
  exact gz_iret K hr hp dL_wordLength_16 (Nat.le_of_ble_eq_true rfl) (Nat.le_of_ble_eq_true rfl)
set_option maxRecDepth 100000 in
set_option maxHeartbeats 4000000 in
theorem c_L_letter {l : Launch} {D : va_G} {ad : Nat → Nat} {ty : Nat → ClassId} (hl : l.stackTraces = false) (hj : ∀ i j, i < 68 → j < 68 → ad i = ad j → i = j) {σ : Dz} {x1 : Int32} {x2 : Int32} {post : Int32 → Dz → Prop} (hp : P_L_letter σ x1 x2 post) : MzW l D ad ty yL_letter cL_letter 5 (some .int) [(0, 10, 13, 24)] r_L_letter nI0 σ [.ref (ad 0), .int x1, .int x2, .ref (ad 66)] post (fun _ _ => False) := by
  refine mzw_of (by decide) hl hj (Nat.le_of_ble_eq_true rfl) ?_
  intro p e s m args below meth c K htab hr
  unfold P_L_letter at hp
  show Gz p l e r_L_letter s m args below meth c D ad ty 5 0 0 (Ez below D ad ty nI0 post (fun _ _ => False) args s 2 12) σ 0 [(0, .ref (ad 0)), (1, .int x1), (2, .int x2), (3, .ref (ad 66))] []
  refine gz_aload_n K dL_letter_0 3 rfl ?_
  refine gz_iconst K (v := (0 : Int32)) dL_letter_1 (by decide) ?_
  refine gz_aload_n K dL_letter_2 0 rfl ?_
  refine gz_iload_n K dL_letter_3 1 rfl ?_
  refine gz_iload_n K dL_letter_4 2 rfl ?_
  refine gz_callVc K (c_X9_letter K.2.2.2.2.2 K.2.2.1 hp) cf_X9_letter zq4_7 (by decide) (ce_0 _ _ _ _ _ _) rfl dL_letter_5 rfl rfl (Nat.le_of_ble_eq_true rfl) ⟨Nat.le_of_ble_eq_true rfl, Nat.le_of_ble_eq_true rfl⟩ ⟨Nat.le_of_ble_eq_true rfl, Nat.le_of_ble_eq_true rfl⟩ (fun E τ h => ?_) (fun r5 τ hp => ?_)
  · obtain ⟨rfl, h⟩ := h
    rcases h with ⟨rfl, hp⟩
    · refine cz_catch K [] ⟨0, 10, 13, 24⟩ [] (htab.trans rfl) (fun z hz => absurd hz List.not_mem_nil) (by decide) (by decide) zq2_239 (List.mem_of_getElem? (i := 2) rfl) (fun q => ?_)
      refine gz_astore K [(4, .ref q), (0, .ref (ad 0)), (1, .int x1), (2, .int x2), (3, .ref (ad 66))] dL_letter_13 (by decide) rfl ?_
      refine gz_iconst K (v := (1 : Int32)) dL_letter_15 (by decide) ?_
      exact gz_iret K hr hp dL_letter_16 (Nat.le_of_ble_eq_true rfl) (Nat.le_of_ble_eq_true rfl)
  obtain ⟨rfl, hp⟩ := hp
  refine gz_norm (st' := [.int r5, .int (0 : Int32), .ref (ad 66)]) (cells' := 2) (slots' := 12) rfl rfl rfl ?_
  refine gz_i2l K dL_letter_8 ?_
  refine gz_last K (x := (r5).toInt64) (by decide) (ce_66 ad ty) (by unfold vp_in; decide) dL_letter_9 ?_
  refine gz_goto K 17 dL_letter_10 (by decide) ?_
  refine gz_iconst K (v := (0 : Int32)) dL_letter_17 (by decide) ?_
  exact gz_iret K hr hp dL_letter_18 (Nat.le_of_ble_eq_true rfl) (Nat.le_of_ble_eq_true rfl)
set_option maxRecDepth 100000 in
set_option maxHeartbeats 4000000 in
theorem c_L_invert {l : Launch} {D : va_G} {ad : Nat → Nat} {ty : Nat → ClassId} (hl : l.stackTraces = false) (hj : ∀ i j, i < 68 → j < 68 → ad i = ad j → i = j) {σ : Dz} {x1 : Int32} {x2 : Int32} {post : Int32 → Dz → Prop} (hp : P_L_invert σ x1 x2 post) : MzW l D ad ty yL_invert cL_invert 5 (some .int) [(0, 10, 13, 24)] r_L_invert nI0 σ [.ref (ad 0), .int x1, .int x2, .ref (ad 66)] post (fun _ _ => False) := by
  refine mzw_of (by decide) hl hj (Nat.le_of_ble_eq_true rfl) ?_
  intro p e s m args below meth c K htab hr
  unfold P_L_invert at hp
  show Gz p l e r_L_invert s m args below meth c D ad ty 5 0 0 (Ez below D ad ty nI0 post (fun _ _ => False) args s 2 12) σ 0 [(0, .ref (ad 0)), (1, .int x1), (2, .int x2), (3, .ref (ad 66))] []
  refine gz_aload_n K dL_invert_0 3 rfl ?_
  refine gz_iconst K (v := (0 : Int32)) dL_invert_1 (by decide) ?_
  refine gz_aload_n K dL_invert_2 0 rfl ?_
  refine gz_iload_n K dL_invert_3 1 rfl ?_
  refine gz_iload_n K dL_invert_4 2 rfl ?_
  refine gz_callVc K (c_X9_invert K.2.2.2.2.2 K.2.2.1 hp) cf_X9_invert zq4_16 (by decide) (ce_0 _ _ _ _ _ _) rfl dL_invert_5 rfl rfl (Nat.le_of_ble_eq_true rfl) ⟨Nat.le_of_ble_eq_true rfl, Nat.le_of_ble_eq_true rfl⟩ ⟨Nat.le_of_ble_eq_true rfl, Nat.le_of_ble_eq_true rfl⟩ (fun E τ h => ?_) (fun r5 τ5 hp => ?_)
  · have h := h
    rcases h with ⟨rfl, hp⟩
    · refine cz_catch K [] ⟨0, 10, 13, 24⟩ [] (htab.trans rfl) (fun z hz => absurd hz List.not_mem_nil) (by decide) (by decide) zq2_239 (List.mem_of_getElem? (i := 2) rfl) (fun q => ?_)
      refine gz_astore K [(4, .ref q), (0, .ref (ad 0)), (1, .int x1), (2, .int x2), (3, .ref (ad 66))] dL_invert_13 (by decide) rfl ?_
      refine gz_iconst K (v := (1 : Int32)) dL_invert_15 (by decide) ?_
      exact gz_iret K hr hp dL_invert_16 (Nat.le_of_ble_eq_true rfl) (Nat.le_of_ble_eq_true rfl)
  refine gz_norm (st' := [.int r5, .int (0 : Int32), .ref (ad 66)]) (cells' := 2) (slots' := 12) rfl rfl rfl ?_
  refine gz_i2l K dL_invert_8 ?_
  refine gz_last K (x := (r5).toInt64) (by decide) (ce_66 ad ty) (by unfold vp_in; decide) dL_invert_9 ?_
  refine gz_goto K 17 dL_invert_10 (by decide) ?_
  refine gz_iconst K (v := (0 : Int32)) dL_invert_17 (by decide) ?_
  exact gz_iret K hr hp dL_invert_18 (Nat.le_of_ble_eq_true rfl) (Nat.le_of_ble_eq_true rfl)
set_option maxRecDepth 100000 in
set_option maxHeartbeats 4000000 in
theorem c_L_conjugate {l : Launch} {D : va_G} {ad : Nat → Nat} {ty : Nat → ClassId} (hl : l.stackTraces = false) (hj : ∀ i j, i < 68 → j < 68 → ad i = ad j → i = j) {σ : Dz} {x1 : Int32} {x2 : Int32} {x3 : Int32} {post : Int32 → Dz → Prop} (hp : P_L_conjugate σ x1 x2 x3 post) : MzW l D ad ty yL_conjugate cL_conjugate 6 (some .int) [(0, 12, 15, 24), (0, 12, 19, 29)] r_L_conjugate nI0 σ [.ref (ad 0), .int x1, .int x2, .int x3, .ref (ad 66)] post (fun _ _ => False) := by
  refine mzw_of (by decide) hl hj (Nat.le_of_ble_eq_true rfl) ?_
  intro p e s m args below meth c K htab hr
  unfold P_L_conjugate at hp
  show Gz p l e r_L_conjugate s m args below meth c D ad ty 6 0 0 (Ez below D ad ty nI0 post (fun _ _ => False) args s 4 24) σ 0 [(0, .ref (ad 0)), (1, .int x1), (2, .int x2), (3, .int x3), (4, .ref (ad 66))] []
  refine gz_aload K dL_conjugate_0 4 rfl ?_
  refine gz_iconst K (v := (0 : Int32)) dL_conjugate_2 (by decide) ?_
  refine gz_aload_n K dL_conjugate_3 0 rfl ?_
  refine gz_iload_n K dL_conjugate_4 1 rfl ?_
  refine gz_iload_n K dL_conjugate_5 2 rfl ?_
  refine gz_iload_n K dL_conjugate_6 3 rfl ?_
  refine gz_callVc K (c_X9_conjugate K.2.2.2.2.2 K.2.2.1 hp) cf_X9_conjugate zq4_28 (by decide) (ce_0 _ _ _ _ _ _) rfl dL_conjugate_7 rfl rfl (Nat.le_of_ble_eq_true rfl) ⟨Nat.le_of_ble_eq_true rfl, Nat.le_of_ble_eq_true rfl⟩ ⟨Nat.le_of_ble_eq_true rfl, Nat.le_of_ble_eq_true rfl⟩ (fun E τ h => ?_) (fun r7 τ7 hp => ?_)
  · have h := h
    rcases h with ⟨rfl, hp⟩ | ⟨rfl, hp⟩
    · refine cz_catch K [] ⟨0, 12, 15, 24⟩ [⟨0, 12, 19, 29⟩] (htab.trans rfl) (fun z hz => absurd hz List.not_mem_nil) (by decide) (by decide) zq2_239 (List.mem_of_getElem? (i := 2) rfl) (fun q => ?_)
      refine gz_astore K [(5, .ref q), (0, .ref (ad 0)), (1, .int x1), (2, .int x2), (3, .int x3), (4, .ref (ad 66))] dL_conjugate_15 (by decide) rfl ?_
      refine gz_iconst K (v := (1 : Int32)) dL_conjugate_17 (by decide) ?_
      exact gz_iret K hr hp dL_conjugate_18 (Nat.le_of_ble_eq_true rfl) (Nat.le_of_ble_eq_true rfl)
    · refine cz_catch K [⟨0, 12, 15, 24⟩] ⟨0, 12, 19, 29⟩ [] (htab.trans rfl) (List.forall_mem_cons.mpr ⟨⟨by decide, "java/lang/IndexOutOfBoundsException", zq2_239, List.mem_of_getElem? (i := 10) rfl⟩, fun z hz => absurd hz List.not_mem_nil⟩) (by decide) (by decide) zq3_86 (List.mem_of_getElem? (i := 3) rfl) (fun q => ?_)
      refine gz_astore K [(5, .ref q), (0, .ref (ad 0)), (1, .int x1), (2, .int x2), (3, .int x3), (4, .ref (ad 66))] dL_conjugate_19 (by decide) rfl ?_
      refine gz_iconst K (v := (2 : Int32)) dL_conjugate_21 (by decide) ?_
      exact gz_iret K hr hp dL_conjugate_22 (Nat.le_of_ble_eq_true rfl) (Nat.le_of_ble_eq_true rfl)
  refine gz_norm (st' := [.int r7, .int (0 : Int32), .ref (ad 66)]) (cells' := 4) (slots' := 24) rfl rfl rfl ?_
  refine gz_i2l K dL_conjugate_10 ?_
  refine gz_last K (x := (r7).toInt64) (by decide) (ce_66 ad ty) (by unfold vp_in; decide) dL_conjugate_11 ?_
  refine gz_goto K 23 dL_conjugate_12 (by decide) ?_
  refine gz_iconst K (v := (0 : Int32)) dL_conjugate_23 (by decide) ?_
  exact gz_iret K hr hp dL_conjugate_24 (Nat.le_of_ble_eq_true rfl) (Nat.le_of_ble_eq_true rfl)
set_option maxRecDepth 100000 in
set_option maxHeartbeats 4000000 in
theorem c_L_commutator {l : Launch} {D : va_G} {ad : Nat → Nat} {ty : Nat → ClassId} (hl : l.stackTraces = false) (hj : ∀ i j, i < 68 → j < 68 → ad i = ad j → i = j) {σ : Dz} {x1 : Int32} {x2 : Int32} {x3 : Int32} {post : Int32 → Dz → Prop} (hp : P_L_commutator σ x1 x2 x3 post) : MzW l D ad ty yL_commutator cL_commutator 6 (some .int) [(0, 12, 15, 24), (0, 12, 19, 29)] r_L_commutator nI0 σ [.ref (ad 0), .int x1, .int x2, .int x3, .ref (ad 66)] post (fun _ _ => False) := by
  refine mzw_of (by decide) hl hj (Nat.le_of_ble_eq_true rfl) ?_
  intro p e s m args below meth c K htab hr
  unfold P_L_commutator at hp
  show Gz p l e r_L_commutator s m args below meth c D ad ty 6 0 0 (Ez below D ad ty nI0 post (fun _ _ => False) args s 4 24) σ 0 [(0, .ref (ad 0)), (1, .int x1), (2, .int x2), (3, .int x3), (4, .ref (ad 66))] []
  refine gz_aload K dL_commutator_0 4 rfl ?_
  refine gz_iconst K (v := (0 : Int32)) dL_commutator_2 (by decide) ?_
  refine gz_aload_n K dL_commutator_3 0 rfl ?_
  refine gz_iload_n K dL_commutator_4 1 rfl ?_
  refine gz_iload_n K dL_commutator_5 2 rfl ?_
  refine gz_iload_n K dL_commutator_6 3 rfl ?_
  refine gz_callVc K (c_X9_commutator K.2.2.2.2.2 K.2.2.1 hp) cf_X9_commutator zq4_37 (by decide) (ce_0 _ _ _ _ _ _) rfl dL_commutator_7 rfl rfl (Nat.le_of_ble_eq_true rfl) ⟨Nat.le_of_ble_eq_true rfl, Nat.le_of_ble_eq_true rfl⟩ ⟨Nat.le_of_ble_eq_true rfl, Nat.le_of_ble_eq_true rfl⟩ (fun E τ h => ?_) (fun r7 τ7 hp => ?_)
  · have h := h
    rcases h with ⟨rfl, hp⟩ | ⟨rfl, hp⟩
    · refine cz_catch K [] ⟨0, 12, 15, 24⟩ [⟨0, 12, 19, 29⟩] (htab.trans rfl) (fun z hz => absurd hz List.not_mem_nil) (by decide) (by decide) zq2_239 (List.mem_of_getElem? (i := 2) rfl) (fun q => ?_)
      refine gz_astore K [(5, .ref q), (0, .ref (ad 0)), (1, .int x1), (2, .int x2), (3, .int x3), (4, .ref (ad 66))] dL_commutator_15 (by decide) rfl ?_
      refine gz_iconst K (v := (1 : Int32)) dL_commutator_17 (by decide) ?_
      exact gz_iret K hr hp dL_commutator_18 (Nat.le_of_ble_eq_true rfl) (Nat.le_of_ble_eq_true rfl)
    · refine cz_catch K [⟨0, 12, 15, 24⟩] ⟨0, 12, 19, 29⟩ [] (htab.trans rfl) (List.forall_mem_cons.mpr ⟨⟨by decide, "java/lang/IndexOutOfBoundsException", zq2_239, List.mem_of_getElem? (i := 10) rfl⟩, fun z hz => absurd hz List.not_mem_nil⟩) (by decide) (by decide) zq3_86 (List.mem_of_getElem? (i := 3) rfl) (fun q => ?_)
      refine gz_astore K [(5, .ref q), (0, .ref (ad 0)), (1, .int x1), (2, .int x2), (3, .int x3), (4, .ref (ad 66))] dL_commutator_19 (by decide) rfl ?_
      refine gz_iconst K (v := (2 : Int32)) dL_commutator_21 (by decide) ?_
      exact gz_iret K hr hp dL_commutator_22 (Nat.le_of_ble_eq_true rfl) (Nat.le_of_ble_eq_true rfl)
  refine gz_norm (st' := [.int r7, .int (0 : Int32), .ref (ad 66)]) (cells' := 4) (slots' := 24) rfl rfl rfl ?_
  refine gz_i2l K dL_commutator_10 ?_
  refine gz_last K (x := (r7).toInt64) (by decide) (ce_66 ad ty) (by unfold vp_in; decide) dL_commutator_11 ?_
  refine gz_goto K 23 dL_commutator_12 (by decide) ?_
  refine gz_iconst K (v := (0 : Int32)) dL_commutator_23 (by decide) ?_
  exact gz_iret K hr hp dL_commutator_24 (Nat.le_of_ble_eq_true rfl) (Nat.le_of_ble_eq_true rfl)
set_option maxRecDepth 100000 in
set_option maxHeartbeats 4000000 in
theorem c_L_order {l : Launch} {D : va_G} {ad : Nat → Nat} {ty : Nat → ClassId} (hl : l.stackTraces = false) (hj : ∀ i j, i < 68 → j < 68 → ad i = ad j → i = j) {σ : Dz} {x1 : Int32} {post : Int32 → Dz → Prop} (hp : P_L_order σ x1 post) : MzW l D ad ty yL_order cL_order 4 (some .int) [(0, 9, 12, 24)] r_L_order nI0 σ [.ref (ad 0), .int x1, .ref (ad 66)] post (fun _ _ => False) := by
  refine mzw_of (by decide) hl hj (Nat.le_of_ble_eq_true rfl) ?_
  intro p e s m args below meth c K htab hr
  unfold P_L_order at hp
  show Gz p l e r_L_order s m args below meth c D ad ty 4 0 0 (Ez below D ad ty nI0 post (fun _ _ => False) args s 1 6) σ 0 [(0, .ref (ad 0)), (1, .int x1), (2, .ref (ad 66))] []
  refine gz_aload_n K dL_order_0 2 rfl ?_
  refine gz_iconst K (v := (0 : Int32)) dL_order_1 (by decide) ?_
  refine gz_aload_n K dL_order_2 0 rfl ?_
  refine gz_iload_n K dL_order_3 1 rfl ?_
  refine gz_callVc K (c_X9_order K.2.2.2.2.2 K.2.2.1 hp) cf_X9_order zq4_45 (by decide) (ce_0 _ _ _ _ _ _) rfl dL_order_4 rfl rfl (Nat.le_of_ble_eq_true rfl) ⟨Nat.le_of_ble_eq_true rfl, Nat.le_of_ble_eq_true rfl⟩ ⟨Nat.le_of_ble_eq_true rfl, Nat.le_of_ble_eq_true rfl⟩ (fun E τ h => ?_) (fun r4 τ hp => ?_)
  · obtain ⟨rfl, h⟩ := h
    rcases h with ⟨rfl, hp⟩
    · refine cz_catch K [] ⟨0, 9, 12, 24⟩ [] (htab.trans rfl) (fun z hz => absurd hz List.not_mem_nil) (by decide) (by decide) zq2_239 (List.mem_of_getElem? (i := 2) rfl) (fun q => ?_)
      refine gz_astore_n K [(3, .ref q), (0, .ref (ad 0)), (1, .int x1), (2, .ref (ad 66))] dL_order_12 (by decide) rfl ?_
      refine gz_iconst K (v := (1 : Int32)) dL_order_13 (by decide) ?_
      exact gz_iret K hr hp dL_order_14 (Nat.le_of_ble_eq_true rfl) (Nat.le_of_ble_eq_true rfl)
  obtain ⟨rfl, hp⟩ := hp
  refine gz_norm (st' := [.int r4, .int (0 : Int32), .ref (ad 66)]) (cells' := 1) (slots' := 6) rfl rfl rfl ?_
  refine gz_i2l K dL_order_7 ?_
  refine gz_last K (x := (r4).toInt64) (by decide) (ce_66 ad ty) (by unfold vp_in; decide) dL_order_8 ?_
  refine gz_goto K 15 dL_order_9 (by decide) ?_
  refine gz_iconst K (v := (0 : Int32)) dL_order_15 (by decide) ?_
  exact gz_iret K hr hp dL_order_16 (Nat.le_of_ble_eq_true rfl) (Nat.le_of_ble_eq_true rfl)
set_option maxRecDepth 100000 in
set_option maxHeartbeats 4000000 in
theorem c_L_isOdd {l : Launch} {D : va_G} {ad : Nat → Nat} {ty : Nat → ClassId} (hl : l.stackTraces = false) (hj : ∀ i j, i < 68 → j < 68 → ad i = ad j → i = j) {σ : Dz} {x1 : Int32} {post : Int32 → Dz → Prop} (hp : P_L_isOdd σ x1 post) : MzW l D ad ty yL_isOdd cL_isOdd 4 (some .int) [(0, 16, 19, 24)] r_L_isOdd nI0 σ [.ref (ad 0), .int x1, .ref (ad 66)] post (fun _ _ => False) := by
  refine mzw_of (by decide) hl hj (Nat.le_of_ble_eq_true rfl) ?_
  intro p e s m args below meth c K htab hr
  unfold P_L_isOdd at hp
  show Gz p l e r_L_isOdd s m args below meth c D ad ty 4 0 0 (Ez below D ad ty nI0 post (fun _ _ => False) args s 1 6) σ 0 [(0, .ref (ad 0)), (1, .int x1), (2, .ref (ad 66))] []
  refine gz_aload_n K dL_isOdd_0 2 rfl ?_
  refine gz_iconst K (v := (0 : Int32)) dL_isOdd_1 (by decide) ?_
  refine gz_aload_n K dL_isOdd_2 0 rfl ?_
  refine gz_iload_n K dL_isOdd_3 1 rfl ?_
  refine gz_callVc K (c_X9_isOdd K.2.2.2.2.2 K.2.2.1 hp) cf_X9_isOdd zq4_66 (by decide) (ce_0 _ _ _ _ _ _) rfl dL_isOdd_4 rfl rfl (Nat.le_of_ble_eq_true rfl) ⟨Nat.le_of_ble_eq_true rfl, Nat.le_of_ble_eq_true rfl⟩ ⟨Nat.le_of_ble_eq_true rfl, Nat.le_of_ble_eq_true rfl⟩ (fun E τ h => ?_) (fun r4 τ hp => ?_)
  · obtain ⟨rfl, h⟩ := h
    rcases h with ⟨rfl, hp⟩
    · refine cz_catch K [] ⟨0, 16, 19, 24⟩ [] (htab.trans rfl) (fun z hz => absurd hz List.not_mem_nil) (by decide) (by decide) zq2_239 (List.mem_of_getElem? (i := 2) rfl) (fun q => ?_)
      refine gz_astore_n K [(3, .ref q), (0, .ref (ad 0)), (1, .int x1), (2, .ref (ad 66))] dL_isOdd_19 (by decide) rfl ?_
      refine gz_iconst K (v := (1 : Int32)) dL_isOdd_20 (by decide) ?_
      exact gz_iret K hr hp dL_isOdd_21 (Nat.le_of_ble_eq_true rfl) (Nat.le_of_ble_eq_true rfl)
  obtain ⟨rfl, hp⟩ := hp
  refine gz_norm (st' := [.int r4, .int (0 : Int32), .ref (ad 66)]) (cells' := 1) (slots' := 6) rfl rfl rfl ?_
  refine gz_if_eq K 14 dL_isOdd_7 (by decide) (fun h => ?_) (fun h => ?_)
  · have hp := hp.1 h
    refine gz_lconst K (v := 0) dL_isOdd_14 (by decide) ?_
    refine gz_last K (x := (0 : Int64)) (by decide) (ce_66 ad ty) (by unfold vp_in; decide) dL_isOdd_15 ?_
    refine gz_goto K 22 dL_isOdd_16 (by decide) ?_
    refine gz_iconst K (v := (0 : Int32)) dL_isOdd_22 (by decide) ?_
    exact gz_iret K hr hp dL_isOdd_23 (Nat.le_of_ble_eq_true rfl) (Nat.le_of_ble_eq_true rfl)
  · have hp := hp.2 h
    refine gz_lconst K (v := 1) dL_isOdd_10 (by decide) ?_
    refine gz_goto K 15 dL_isOdd_11 (by decide) ?_
    refine gz_last K (x := (1 : Int64)) (by decide) (ce_66 ad ty) (by unfold vp_in; decide) dL_isOdd_15 ?_
    refine gz_goto K 22 dL_isOdd_16 (by decide) ?_
    refine gz_iconst K (v := (0 : Int32)) dL_isOdd_22 (by decide) ?_
    exact gz_iret K hr hp dL_isOdd_23 (Nat.le_of_ble_eq_true rfl) (Nat.le_of_ble_eq_true rfl)
set_option maxRecDepth 100000 in
set_option maxHeartbeats 4000000 in
theorem c_L_cycleLength {l : Launch} {D : va_G} {ad : Nat → Nat} {ty : Nat → ClassId} (hl : l.stackTraces = false) (hj : ∀ i j, i < 68 → j < 68 → ad i = ad j → i = j) {σ : Dz} {x1 : Int32} {x2 : Int32} {post : Int32 → Dz → Prop} (hp : P_L_cycleLength σ x1 x2 post) : MzW l D ad ty yL_cycleLength cL_cycleLength 5 (some .int) [(0, 10, 13, 24)] r_L_cycleLength nI0 σ [.ref (ad 0), .int x1, .int x2, .ref (ad 66)] post (fun _ _ => False) := by
  refine mzw_of (by decide) hl hj (Nat.le_of_ble_eq_true rfl) ?_
  intro p e s m args below meth c K htab hr
  unfold P_L_cycleLength at hp
  show Gz p l e r_L_cycleLength s m args below meth c D ad ty 5 0 0 (Ez below D ad ty nI0 post (fun _ _ => False) args s 2 12) σ 0 [(0, .ref (ad 0)), (1, .int x1), (2, .int x2), (3, .ref (ad 66))] []
  refine gz_aload_n K dL_cycleLength_0 3 rfl ?_
  refine gz_iconst K (v := (0 : Int32)) dL_cycleLength_1 (by decide) ?_
  refine gz_aload_n K dL_cycleLength_2 0 rfl ?_
  refine gz_iload_n K dL_cycleLength_3 1 rfl ?_
  refine gz_iload_n K dL_cycleLength_4 2 rfl ?_
  refine gz_callVc K (c_X9_cycleLength K.2.2.2.2.2 K.2.2.1 hp) cf_X9_cycleLength zq4_76 (by decide) (ce_0 _ _ _ _ _ _) rfl dL_cycleLength_5 rfl rfl (Nat.le_of_ble_eq_true rfl) ⟨Nat.le_of_ble_eq_true rfl, Nat.le_of_ble_eq_true rfl⟩ ⟨Nat.le_of_ble_eq_true rfl, Nat.le_of_ble_eq_true rfl⟩ (fun E τ h => ?_) (fun r5 τ hp => ?_)
  · obtain ⟨rfl, h⟩ := h
    rcases h with ⟨rfl, hp⟩
    · refine cz_catch K [] ⟨0, 10, 13, 24⟩ [] (htab.trans rfl) (fun z hz => absurd hz List.not_mem_nil) (by decide) (by decide) zq2_239 (List.mem_of_getElem? (i := 2) rfl) (fun q => ?_)
      refine gz_astore K [(4, .ref q), (0, .ref (ad 0)), (1, .int x1), (2, .int x2), (3, .ref (ad 66))] dL_cycleLength_13 (by decide) rfl ?_
      refine gz_iconst K (v := (1 : Int32)) dL_cycleLength_15 (by decide) ?_
      exact gz_iret K hr hp dL_cycleLength_16 (Nat.le_of_ble_eq_true rfl) (Nat.le_of_ble_eq_true rfl)
  obtain ⟨rfl, hp⟩ := hp
  refine gz_norm (st' := [.int r5, .int (0 : Int32), .ref (ad 66)]) (cells' := 2) (slots' := 12) rfl rfl rfl ?_
  refine gz_i2l K dL_cycleLength_8 ?_
  refine gz_last K (x := (r5).toInt64) (by decide) (ce_66 ad ty) (by unfold vp_in; decide) dL_cycleLength_9 ?_
  refine gz_goto K 17 dL_cycleLength_10 (by decide) ?_
  refine gz_iconst K (v := (0 : Int32)) dL_cycleLength_17 (by decide) ?_
  exact gz_iret K hr hp dL_cycleLength_18 (Nat.le_of_ble_eq_true rfl) (Nat.le_of_ble_eq_true rfl)
set_option maxRecDepth 100000 in
set_option maxHeartbeats 4000000 in
theorem c_L_isSame {l : Launch} {D : va_G} {ad : Nat → Nat} {ty : Nat → ClassId} (hl : l.stackTraces = false) (hj : ∀ i j, i < 68 → j < 68 → ad i = ad j → i = j) {σ : Dz} {x1 : Int32} {x2 : Int32} {post : Int32 → Dz → Prop} (hp : P_L_isSame σ x1 x2 post) : MzW l D ad ty yL_isSame cL_isSame 5 (some .int) [(0, 17, 20, 24)] r_L_isSame nI0 σ [.ref (ad 0), .int x1, .int x2, .ref (ad 66)] post (fun _ _ => False) := by
  refine mzw_of (by decide) hl hj (Nat.le_of_ble_eq_true rfl) ?_
  intro p e s m args below meth c K htab hr
  unfold P_L_isSame at hp
  show Gz p l e r_L_isSame s m args below meth c D ad ty 5 0 0 (Ez below D ad ty nI0 post (fun _ _ => False) args s 2 12) σ 0 [(0, .ref (ad 0)), (1, .int x1), (2, .int x2), (3, .ref (ad 66))] []
  refine gz_aload_n K dL_isSame_0 3 rfl ?_
  refine gz_iconst K (v := (0 : Int32)) dL_isSame_1 (by decide) ?_
  refine gz_aload_n K dL_isSame_2 0 rfl ?_
  refine gz_iload_n K dL_isSame_3 1 rfl ?_
  refine gz_iload_n K dL_isSame_4 2 rfl ?_
  refine gz_callVc K (c_X9_isSame K.2.2.2.2.2 K.2.2.1 hp) cf_X9_isSame zq4_86 (by decide) (ce_0 _ _ _ _ _ _) rfl dL_isSame_5 rfl rfl (Nat.le_of_ble_eq_true rfl) ⟨Nat.le_of_ble_eq_true rfl, Nat.le_of_ble_eq_true rfl⟩ ⟨Nat.le_of_ble_eq_true rfl, Nat.le_of_ble_eq_true rfl⟩ (fun E τ h => ?_) (fun r5 τ hp => ?_)
  · obtain ⟨rfl, h⟩ := h
    rcases h with ⟨rfl, hp⟩
    · refine cz_catch K [] ⟨0, 17, 20, 24⟩ [] (htab.trans rfl) (fun z hz => absurd hz List.not_mem_nil) (by decide) (by decide) zq2_239 (List.mem_of_getElem? (i := 2) rfl) (fun q => ?_)
      refine gz_astore K [(4, .ref q), (0, .ref (ad 0)), (1, .int x1), (2, .int x2), (3, .ref (ad 66))] dL_isSame_20 (by decide) rfl ?_
      refine gz_iconst K (v := (1 : Int32)) dL_isSame_22 (by decide) ?_
      exact gz_iret K hr hp dL_isSame_23 (Nat.le_of_ble_eq_true rfl) (Nat.le_of_ble_eq_true rfl)
  obtain ⟨rfl, hp⟩ := hp
  refine gz_norm (st' := [.int r5, .int (0 : Int32), .ref (ad 66)]) (cells' := 2) (slots' := 12) rfl rfl rfl ?_
  refine gz_if_eq K 15 dL_isSame_8 (by decide) (fun h => ?_) (fun h => ?_)
  · have hp := hp.1 h
    refine gz_lconst K (v := 0) dL_isSame_15 (by decide) ?_
    refine gz_last K (x := (0 : Int64)) (by decide) (ce_66 ad ty) (by unfold vp_in; decide) dL_isSame_16 ?_
    refine gz_goto K 24 dL_isSame_17 (by decide) ?_
    refine gz_iconst K (v := (0 : Int32)) dL_isSame_24 (by decide) ?_
    exact gz_iret K hr hp dL_isSame_25 (Nat.le_of_ble_eq_true rfl) (Nat.le_of_ble_eq_true rfl)
  · have hp := hp.2 h
    refine gz_lconst K (v := 1) dL_isSame_11 (by decide) ?_
    refine gz_goto K 16 dL_isSame_12 (by decide) ?_
    refine gz_last K (x := (1 : Int64)) (by decide) (ce_66 ad ty) (by unfold vp_in; decide) dL_isSame_16 ?_
    refine gz_goto K 24 dL_isSame_17 (by decide) ?_
    refine gz_iconst K (v := (0 : Int32)) dL_isSame_24 (by decide) ?_
    exact gz_iret K hr hp dL_isSame_25 (Nat.le_of_ble_eq_true rfl) (Nat.le_of_ble_eq_true rfl)
set_option maxRecDepth 100000 in
set_option maxHeartbeats 4000000 in
theorem c_L_perform {l : Launch} {D : va_G} {ad : Nat → Nat} {ty : Nat → ClassId} (hl : l.stackTraces = false) (hj : ∀ i j, i < 68 → j < 68 → ad i = ad j → i = j) {σ : Dz} {x1 : Int32} {x2 : Int32} {post : Int32 → Dz → Prop} (hp : P_L_perform σ x1 x2 post) : MzW l D ad ty yL_perform cL_perform 5 (some .int) [(0, 10, 13, 24), (0, 10, 17, 13)] r_L_perform nI0 σ [.ref (ad 0), .int x1, .int x2, .ref (ad 66)] post (fun _ _ => False) := by
  refine mzw_of (by decide) hl hj (Nat.le_of_ble_eq_true rfl) ?_
  intro p e s m args below meth c K htab hr
  unfold P_L_perform at hp
  show Gz p l e r_L_perform s m args below meth c D ad ty 5 0 0 (Ez below D ad ty nI0 post (fun _ _ => False) args s 2 12) σ 0 [(0, .ref (ad 0)), (1, .int x1), (2, .int x2), (3, .ref (ad 66))] []
  refine gz_aload_n K dL_perform_0 3 rfl ?_
  refine gz_iconst K (v := (0 : Int32)) dL_perform_1 (by decide) ?_
  refine gz_aload_n K dL_perform_2 0 rfl ?_
  refine gz_iload_n K dL_perform_3 1 rfl ?_
  refine gz_iload_n K dL_perform_4 2 rfl ?_
  refine gz_callVc K (c_X9_perform K.2.2.2.2.2 K.2.2.1 hp) cf_X9_perform zq4_93 (by decide) (ce_0 _ _ _ _ _ _) rfl dL_perform_5 rfl rfl (Nat.le_of_ble_eq_true rfl) ⟨Nat.le_of_ble_eq_true rfl, Nat.le_of_ble_eq_true rfl⟩ ⟨Nat.le_of_ble_eq_true rfl, Nat.le_of_ble_eq_true rfl⟩ (fun E τ h => ?_) (fun r5 τ5 hp => ?_)
  · have h := h
    rcases h with ⟨rfl, hp⟩ | ⟨rfl, hp⟩
    · refine cz_catch K [] ⟨0, 10, 13, 24⟩ [⟨0, 10, 17, 13⟩] (htab.trans rfl) (fun z hz => absurd hz List.not_mem_nil) (by decide) (by decide) zq2_239 (List.mem_of_getElem? (i := 2) rfl) (fun q => ?_)
      refine gz_astore K [(4, .ref q), (0, .ref (ad 0)), (1, .int x1), (2, .int x2), (3, .ref (ad 66))] dL_perform_13 (by decide) rfl ?_
      refine gz_iconst K (v := (1 : Int32)) dL_perform_15 (by decide) ?_
      exact gz_iret K hr hp dL_perform_16 (Nat.le_of_ble_eq_true rfl) (Nat.le_of_ble_eq_true rfl)
    · refine cz_catch K [⟨0, 10, 13, 24⟩] ⟨0, 10, 17, 13⟩ [] (htab.trans rfl) (List.forall_mem_cons.mpr ⟨⟨by decide, "java/lang/IndexOutOfBoundsException", zq2_239, List.mem_of_getElem? (i := 8) rfl⟩, fun z hz => absurd hz List.not_mem_nil⟩) (by decide) (by decide) zq2_126 (List.mem_of_getElem? (i := 0) rfl) (fun q => ?_)
      refine gz_astore K [(4, .ref q), (0, .ref (ad 0)), (1, .int x1), (2, .int x2), (3, .ref (ad 66))] dL_perform_17 (by decide) rfl ?_
      refine gz_iconst K (v := (2 : Int32)) dL_perform_19 (by decide) ?_
      exact gz_iret K hr hp dL_perform_20 (Nat.le_of_ble_eq_true rfl) (Nat.le_of_ble_eq_true rfl)
  refine gz_norm (st' := [.int r5, .int (0 : Int32), .ref (ad 66)]) (cells' := 2) (slots' := 12) rfl rfl rfl ?_
  refine gz_i2l K dL_perform_8 ?_
  refine gz_last K (x := (r5).toInt64) (by decide) (ce_66 ad ty) (by unfold vp_in; decide) dL_perform_9 ?_
  refine gz_goto K 21 dL_perform_10 (by decide) ?_
  refine gz_iconst K (v := (0 : Int32)) dL_perform_21 (by decide) ?_
  exact gz_iret K hr hp dL_perform_22 (Nat.le_of_ble_eq_true rfl) (Nat.le_of_ble_eq_true rfl)
set_option maxRecDepth 100000 in
set_option maxHeartbeats 4000000 in
theorem c_L_exchange {l : Launch} {D : va_G} {ad : Nat → Nat} {ty : Nat → ClassId} (hl : l.stackTraces = false) (hj : ∀ i j, i < 68 → j < 68 → ad i = ad j → i = j) {σ : Dz} {x1 : Int32} {x2 : Int32} {post : Int32 → Dz → Prop} (hp : P_L_exchange σ x1 x2 post) : MzW l D ad ty yL_exchange cL_exchange 5 (some .int) [(0, 10, 13, 24)] r_L_exchange nI0 σ [.ref (ad 0), .int x1, .int x2, .ref (ad 66)] post (fun _ _ => False) := by
  refine mzw_of (by decide) hl hj (Nat.le_of_ble_eq_true rfl) ?_
  intro p e s m args below meth c K htab hr
  unfold P_L_exchange at hp
  show Gz p l e r_L_exchange s m args below meth c D ad ty 5 0 0 (Ez below D ad ty nI0 post (fun _ _ => False) args s 2 12) σ 0 [(0, .ref (ad 0)), (1, .int x1), (2, .int x2), (3, .ref (ad 66))] []
  refine gz_aload_n K dL_exchange_0 3 rfl ?_
  refine gz_iconst K (v := (0 : Int32)) dL_exchange_1 (by decide) ?_
  refine gz_aload_n K dL_exchange_2 0 rfl ?_
  refine gz_iload_n K dL_exchange_3 1 rfl ?_
  refine gz_iload_n K dL_exchange_4 2 rfl ?_
  refine gz_callVc K (c_X9_exchange K.2.2.2.2.2 K.2.2.1 hp) cf_X9_exchange zq4_114 (by decide) (ce_0 _ _ _ _ _ _) rfl dL_exchange_5 rfl rfl (Nat.le_of_ble_eq_true rfl) ⟨Nat.le_of_ble_eq_true rfl, Nat.le_of_ble_eq_true rfl⟩ ⟨Nat.le_of_ble_eq_true rfl, Nat.le_of_ble_eq_true rfl⟩ (fun E τ h => ?_) (fun r5 τ5 hp => ?_)
  · have h := h
    rcases h with ⟨rfl, hp⟩
    · refine cz_catch K [] ⟨0, 10, 13, 24⟩ [] (htab.trans rfl) (fun z hz => absurd hz List.not_mem_nil) (by decide) (by decide) zq2_239 (List.mem_of_getElem? (i := 2) rfl) (fun q => ?_)
      refine gz_astore K [(4, .ref q), (0, .ref (ad 0)), (1, .int x1), (2, .int x2), (3, .ref (ad 66))] dL_exchange_13 (by decide) rfl ?_
      refine gz_iconst K (v := (1 : Int32)) dL_exchange_15 (by decide) ?_
      exact gz_iret K hr hp dL_exchange_16 (Nat.le_of_ble_eq_true rfl) (Nat.le_of_ble_eq_true rfl)
  refine gz_norm (st' := [.int r5, .int (0 : Int32), .ref (ad 66)]) (cells' := 2) (slots' := 12) rfl rfl rfl ?_
  refine gz_i2l K dL_exchange_8 ?_
  refine gz_last K (x := (r5).toInt64) (by decide) (ce_66 ad ty) (by unfold vp_in; decide) dL_exchange_9 ?_
  refine gz_goto K 17 dL_exchange_10 (by decide) ?_
  refine gz_iconst K (v := (0 : Int32)) dL_exchange_17 (by decide) ?_
  exact gz_iret K hr hp dL_exchange_18 (Nat.le_of_ble_eq_true rfl) (Nat.le_of_ble_eq_true rfl)
set_option maxRecDepth 100000 in
set_option maxHeartbeats 4000000 in
theorem c_L_token {l : Launch} {D : va_G} {ad : Nat → Nat} {ty : Nat → ClassId} (hl : l.stackTraces = false) (hj : ∀ i j, i < 68 → j < 68 → ad i = ad j → i = j) {σ : Dz} {x1 : Int32} {post : Int32 → Dz → Prop} (hp : P_L_token σ x1 post) : MzW l D ad ty yL_token cL_token 4 (some .int) [(0, 9, 12, 24)] r_L_token nI0 σ [.ref (ad 0), .int x1, .ref (ad 66)] post (fun _ _ => False) := by
  refine mzw_of (by decide) hl hj (Nat.le_of_ble_eq_true rfl) ?_
  intro p e s m args below meth c K htab hr
  unfold P_L_token at hp
  show Gz p l e r_L_token s m args below meth c D ad ty 4 0 0 (Ez below D ad ty nI0 post (fun _ _ => False) args s 1 6) σ 0 [(0, .ref (ad 0)), (1, .int x1), (2, .ref (ad 66))] []
  refine gz_aload_n K dL_token_0 2 rfl ?_
  refine gz_iconst K (v := (0 : Int32)) dL_token_1 (by decide) ?_
  refine gz_aload_n K dL_token_2 0 rfl ?_
  refine gz_iload_n K dL_token_3 1 rfl ?_
  refine gz_callVc K (c_X9_token K.2.2.2.2.2 K.2.2.1 hp) cf_X9_token zq4_126 (by decide) (ce_0 _ _ _ _ _ _) rfl dL_token_4 rfl rfl (Nat.le_of_ble_eq_true rfl) ⟨Nat.le_of_ble_eq_true rfl, Nat.le_of_ble_eq_true rfl⟩ ⟨Nat.le_of_ble_eq_true rfl, Nat.le_of_ble_eq_true rfl⟩ (fun E τ h => ?_) (fun r4 τ hp => ?_)
  · obtain ⟨rfl, h⟩ := h
    rcases h with ⟨rfl, hp⟩
    · refine cz_catch K [] ⟨0, 9, 12, 24⟩ [] (htab.trans rfl) (fun z hz => absurd hz List.not_mem_nil) (by decide) (by decide) zq2_239 (List.mem_of_getElem? (i := 2) rfl) (fun q => ?_)
      refine gz_astore_n K [(3, .ref q), (0, .ref (ad 0)), (1, .int x1), (2, .ref (ad 66))] dL_token_12 (by decide) rfl ?_
      refine gz_iconst K (v := (1 : Int32)) dL_token_13 (by decide) ?_
      exact gz_iret K hr hp dL_token_14 (Nat.le_of_ble_eq_true rfl) (Nat.le_of_ble_eq_true rfl)
  obtain ⟨rfl, hp⟩ := hp
  refine gz_norm (st' := [.int r4, .int (0 : Int32), .ref (ad 66)]) (cells' := 1) (slots' := 6) rfl rfl rfl ?_
  refine gz_i2l K dL_token_7 ?_
  refine gz_last K (x := (r4).toInt64) (by decide) (ce_66 ad ty) (by unfold vp_in; decide) dL_token_8 ?_
  refine gz_goto K 15 dL_token_9 (by decide) ?_
  refine gz_iconst K (v := (0 : Int32)) dL_token_15 (by decide) ?_
  exact gz_iret K hr hp dL_token_16 (Nat.le_of_ble_eq_true rfl) (Nat.le_of_ble_eq_true rfl)
set_option maxRecDepth 100000 in
set_option maxHeartbeats 4000000 in
theorem c_L_depth {l : Launch} {D : va_G} {ad : Nat → Nat} {ty : Nat → ClassId} (hl : l.stackTraces = false) (hj : ∀ i j, i < 68 → j < 68 → ad i = ad j → i = j) {σ : Dz} {post : Int32 → Dz → Prop} (hp : P_L_depth σ post) : MzW l D ad ty yL_depth cL_depth 3 (some .int) [(0, 8, 11, 35)] r_L_depth nI0 σ [.ref (ad 0), .ref (ad 66)] post (fun _ _ => False) := by
  refine mzw_of (by decide) hl hj (Nat.le_of_ble_eq_true rfl) ?_
  intro p e s m args below meth c K htab hr
  unfold P_L_depth at hp
  show Gz p l e r_L_depth s m args below meth c D ad ty 3 0 0 (Ez below D ad ty nI0 post (fun _ _ => False) args s 1 6) σ 0 [(0, .ref (ad 0)), (1, .ref (ad 66))] []
  refine gz_aload_n K dL_depth_0 1 rfl ?_
  refine gz_iconst K (v := (0 : Int32)) dL_depth_1 (by decide) ?_
  refine gz_aload_n K dL_depth_2 0 rfl ?_
  refine gz_callVc K (c_X9_depth K.2.2.2.2.2 K.2.2.1 hp) cf_X9_depth zq4_133 (by decide) (ce_0 _ _ _ _ _ _) rfl dL_depth_3 rfl rfl (Nat.le_of_ble_eq_true rfl) ⟨Nat.le_of_ble_eq_true rfl, Nat.le_of_ble_eq_true rfl⟩ ⟨Nat.le_of_ble_eq_true rfl, Nat.le_of_ble_eq_true rfl⟩ (fun E τ h => ?_) (fun r3 τ3 hp => ?_)
  · have h := h
    rcases h with ⟨rfl, hp⟩
    · refine cz_catch K [] ⟨0, 8, 11, 35⟩ [] (htab.trans rfl) (fun z hz => absurd hz List.not_mem_nil) (by decide) (by decide) zq3_200 (List.mem_of_getElem? (i := 4) rfl) (fun q => ?_)
      refine gz_astore_n K [(2, .ref q), (0, .ref (ad 0)), (1, .ref (ad 66))] dL_depth_11 (by decide) rfl ?_
      refine gz_iconst K (v := (1 : Int32)) dL_depth_12 (by decide) ?_
      exact gz_iret K hr hp dL_depth_13 (Nat.le_of_ble_eq_true rfl) (Nat.le_of_ble_eq_true rfl)
  refine gz_norm (st' := [.int r3, .int (0 : Int32), .ref (ad 66)]) (cells' := 1) (slots' := 6) rfl rfl rfl ?_
  refine gz_i2l K dL_depth_6 ?_
  refine gz_last K (x := (r3).toInt64) (by decide) (ce_66 ad ty) (by unfold vp_in; decide) dL_depth_7 ?_
  refine gz_goto K 14 dL_depth_8 (by decide) ?_
  refine gz_iconst K (v := (0 : Int32)) dL_depth_14 (by decide) ?_
  exact gz_iret K hr hp dL_depth_15 (Nat.le_of_ble_eq_true rfl) (Nat.le_of_ble_eq_true rfl)
set_option maxRecDepth 100000 in
set_option maxHeartbeats 4000000 in
theorem c_L_solve {l : Launch} {D : va_G} {ad : Nat → Nat} {ty : Nat → ClassId} (hl : l.stackTraces = false) (hj : ∀ i j, i < 68 → j < 68 → ad i = ad j → i = j) {σ : Dz} {x1 : Int32} {post : Int32 → Dz → Prop} (hp : P_L_solve σ x1 post) : MzW l D ad ty yL_solve cL_solve 4 (some .int) [(0, 9, 12, 24), (0, 9, 15, 35)] r_L_solve nI0 σ [.ref (ad 0), .int x1, .ref (ad 66)] post (fun _ _ => False) := by
  refine mzw_of (by decide) hl hj (Nat.le_of_ble_eq_true rfl) ?_
  intro p e s m args below meth c K htab hr
  unfold P_L_solve at hp
  show Gz p l e r_L_solve s m args below meth c D ad ty 4 0 0 (Ez below D ad ty nI0 post (fun _ _ => False) args s 2 12) σ 0 [(0, .ref (ad 0)), (1, .int x1), (2, .ref (ad 66))] []
  refine gz_aload_n K dL_solve_0 2 rfl ?_
  refine gz_iconst K (v := (0 : Int32)) dL_solve_1 (by decide) ?_
  refine gz_aload_n K dL_solve_2 0 rfl ?_
  refine gz_iload_n K dL_solve_3 1 rfl ?_
  refine gz_callVc K (c_X9_solve K.2.2.2.2.2 K.2.2.1 hp) cf_X9_solve zq4_149 (by decide) (ce_0 _ _ _ _ _ _) rfl dL_solve_4 rfl rfl (Nat.le_of_ble_eq_true rfl) ⟨Nat.le_of_ble_eq_true rfl, Nat.le_of_ble_eq_true rfl⟩ ⟨Nat.le_of_ble_eq_true rfl, Nat.le_of_ble_eq_true rfl⟩ (fun E τ h => ?_) (fun r4 τ4 hp => ?_)
  · have h := h
    rcases h with ⟨rfl, hp⟩ | ⟨rfl, hp⟩
    · refine cz_catch K [] ⟨0, 9, 12, 24⟩ [⟨0, 9, 15, 35⟩] (htab.trans rfl) (fun z hz => absurd hz List.not_mem_nil) (by decide) (by decide) zq2_239 (List.mem_of_getElem? (i := 2) rfl) (fun q => ?_)
      refine gz_astore_n K [(3, .ref q), (0, .ref (ad 0)), (1, .int x1), (2, .ref (ad 66))] dL_solve_12 (by decide) rfl ?_
      refine gz_iconst K (v := (1 : Int32)) dL_solve_13 (by decide) ?_
      exact gz_iret K hr hp dL_solve_14 (Nat.le_of_ble_eq_true rfl) (Nat.le_of_ble_eq_true rfl)
    · refine cz_catch K [⟨0, 9, 12, 24⟩] ⟨0, 9, 15, 35⟩ [] (htab.trans rfl) (List.forall_mem_cons.mpr ⟨⟨by decide, "java/lang/IndexOutOfBoundsException", zq2_239, List.mem_of_getElem? (i := 11) rfl⟩, fun z hz => absurd hz List.not_mem_nil⟩) (by decide) (by decide) zq3_200 (List.mem_of_getElem? (i := 4) rfl) (fun q => ?_)
      refine gz_astore_n K [(3, .ref q), (0, .ref (ad 0)), (1, .int x1), (2, .ref (ad 66))] dL_solve_15 (by decide) rfl ?_
      refine gz_iconst K (v := (2 : Int32)) dL_solve_16 (by decide) ?_
      exact gz_iret K hr hp dL_solve_17 (Nat.le_of_ble_eq_true rfl) (Nat.le_of_ble_eq_true rfl)
  refine gz_norm (st' := [.int r4, .int (0 : Int32), .ref (ad 66)]) (cells' := 2) (slots' := 12) rfl rfl rfl ?_
  refine gz_i2l K dL_solve_7 ?_
  refine gz_last K (x := (r4).toInt64) (by decide) (ce_66 ad ty) (by unfold vp_in; decide) dL_solve_8 ?_
  refine gz_goto K 18 dL_solve_9 (by decide) ?_
  refine gz_iconst K (v := (0 : Int32)) dL_solve_18 (by decide) ?_
  exact gz_iret K hr hp dL_solve_19 (Nat.le_of_ble_eq_true rfl) (Nat.le_of_ble_eq_true rfl)
set_option maxRecDepth 100000 in
set_option maxHeartbeats 4000000 in
theorem c_L_orbit {l : Launch} {D : va_G} {ad : Nat → Nat} {ty : Nat → ClassId} (hl : l.stackTraces = false) (hj : ∀ i j, i < 68 → j < 68 → ad i = ad j → i = j) {σ : Dz} {x1 : Int32} {post : Int32 → Dz → Prop} (hp : P_L_orbit σ x1 post) : MzW l D ad ty yL_orbit cL_orbit 4 (some .int) [(0, 9, 12, 24)] r_L_orbit nI0 σ [.ref (ad 0), .int x1, .ref (ad 66)] post (fun _ _ => False) := by
  refine mzw_of (by decide) hl hj (Nat.le_of_ble_eq_true rfl) ?_
  intro p e s m args below meth c K htab hr
  unfold P_L_orbit at hp
  show Gz p l e r_L_orbit s m args below meth c D ad ty 4 0 0 (Ez below D ad ty nI0 post (fun _ _ => False) args s 1 6) σ 0 [(0, .ref (ad 0)), (1, .int x1), (2, .ref (ad 66))] []
  refine gz_aload_n K dL_orbit_0 2 rfl ?_
  refine gz_iconst K (v := (0 : Int32)) dL_orbit_1 (by decide) ?_
  refine gz_aload_n K dL_orbit_2 0 rfl ?_
  refine gz_iload_n K dL_orbit_3 1 rfl ?_
  refine gz_callVc K (c_X9_orbit K.2.2.2.2.2 K.2.2.1 hp) cf_X9_orbit zq4_161 (by decide) (ce_0 _ _ _ _ _ _) rfl dL_orbit_4 rfl rfl (Nat.le_of_ble_eq_true rfl) ⟨Nat.le_of_ble_eq_true rfl, Nat.le_of_ble_eq_true rfl⟩ ⟨Nat.le_of_ble_eq_true rfl, Nat.le_of_ble_eq_true rfl⟩ (fun E τ h => ?_) (fun r4 τ hp => ?_)
  · obtain ⟨rfl, h⟩ := h
    rcases h with ⟨rfl, hp⟩
    · refine cz_catch K [] ⟨0, 9, 12, 24⟩ [] (htab.trans rfl) (fun z hz => absurd hz List.not_mem_nil) (by decide) (by decide) zq2_239 (List.mem_of_getElem? (i := 2) rfl) (fun q => ?_)
      refine gz_astore_n K [(3, .ref q), (0, .ref (ad 0)), (1, .int x1), (2, .ref (ad 66))] dL_orbit_12 (by decide) rfl ?_
      refine gz_iconst K (v := (1 : Int32)) dL_orbit_13 (by decide) ?_
      exact gz_iret K hr hp dL_orbit_14 (Nat.le_of_ble_eq_true rfl) (Nat.le_of_ble_eq_true rfl)
  obtain ⟨rfl, hp⟩ := hp
  refine gz_norm (st' := [.int r4, .int (0 : Int32), .ref (ad 66)]) (cells' := 1) (slots' := 6) rfl rfl rfl ?_
  refine gz_i2l K dL_orbit_7 ?_
  refine gz_last K (x := (r4).toInt64) (by decide) (ce_66 ad ty) (by unfold vp_in; decide) dL_orbit_8 ?_
  refine gz_goto K 15 dL_orbit_9 (by decide) ?_
  refine gz_iconst K (v := (0 : Int32)) dL_orbit_15 (by decide) ?_
  exact gz_iret K hr hp dL_orbit_16 (Nat.le_of_ble_eq_true rfl) (Nat.le_of_ble_eq_true rfl)
set_option maxRecDepth 100000 in
set_option maxHeartbeats 4000000 in
theorem c_L_findCommutator {l : Launch} {D : va_G} {ad : Nat → Nat} {ty : Nat → ClassId} (hl : l.stackTraces = false) (hj : ∀ i j, i < 68 → j < 68 → ad i = ad j → i = j) {σ : Dz} {x1 : Int32} {x2 : Int32} {post : Int32 → Dz → Prop} (hp : P_L_findCommutator σ x1 x2 post) : MzW l D ad ty yL_findCommutator cL_findCommutator 5 (some .int) [(0, 10, 13, 24), (0, 10, 17, 35)] r_L_findCommutator nI0 σ [.ref (ad 0), .int x1, .int x2, .ref (ad 66)] post (fun _ _ => False) := by
  refine mzw_of (by decide) hl hj (Nat.le_of_ble_eq_true rfl) ?_
  intro p e s m args below meth c K htab hr
  unfold P_L_findCommutator at hp
  show Gz p l e r_L_findCommutator s m args below meth c D ad ty 5 0 0 (Ez below D ad ty nI0 post (fun _ _ => False) args s 2 12) σ 0 [(0, .ref (ad 0)), (1, .int x1), (2, .int x2), (3, .ref (ad 66))] []
  refine gz_aload_n K dL_findCommutator_0 3 rfl ?_
  refine gz_iconst K (v := (0 : Int32)) dL_findCommutator_1 (by decide) ?_
  refine gz_aload_n K dL_findCommutator_2 0 rfl ?_
  refine gz_iload_n K dL_findCommutator_3 1 rfl ?_
  refine gz_iload_n K dL_findCommutator_4 2 rfl ?_
  refine gz_callVc K (c_X9_findCommutator K.2.2.2.2.2 K.2.2.1 hp) cf_X9_findCommutator zq4_173 (by decide) (ce_0 _ _ _ _ _ _) rfl dL_findCommutator_5 rfl rfl (Nat.le_of_ble_eq_true rfl) ⟨Nat.le_of_ble_eq_true rfl, Nat.le_of_ble_eq_true rfl⟩ ⟨Nat.le_of_ble_eq_true rfl, Nat.le_of_ble_eq_true rfl⟩ (fun E τ h => ?_) (fun r5 τ5 hp => ?_)
  · have h := h
    rcases h with ⟨rfl, hp⟩ | ⟨rfl, hp⟩
    · refine cz_catch K [] ⟨0, 10, 13, 24⟩ [⟨0, 10, 17, 35⟩] (htab.trans rfl) (fun z hz => absurd hz List.not_mem_nil) (by decide) (by decide) zq2_239 (List.mem_of_getElem? (i := 2) rfl) (fun q => ?_)
      refine gz_astore K [(4, .ref q), (0, .ref (ad 0)), (1, .int x1), (2, .int x2), (3, .ref (ad 66))] dL_findCommutator_13 (by decide) rfl ?_
      refine gz_iconst K (v := (1 : Int32)) dL_findCommutator_15 (by decide) ?_
      exact gz_iret K hr hp dL_findCommutator_16 (Nat.le_of_ble_eq_true rfl) (Nat.le_of_ble_eq_true rfl)
    · refine cz_catch K [⟨0, 10, 13, 24⟩] ⟨0, 10, 17, 35⟩ [] (htab.trans rfl) (List.forall_mem_cons.mpr ⟨⟨by decide, "java/lang/IndexOutOfBoundsException", zq2_239, List.mem_of_getElem? (i := 11) rfl⟩, fun z hz => absurd hz List.not_mem_nil⟩) (by decide) (by decide) zq3_200 (List.mem_of_getElem? (i := 4) rfl) (fun q => ?_)
      refine gz_astore K [(4, .ref q), (0, .ref (ad 0)), (1, .int x1), (2, .int x2), (3, .ref (ad 66))] dL_findCommutator_17 (by decide) rfl ?_
      refine gz_iconst K (v := (2 : Int32)) dL_findCommutator_19 (by decide) ?_
      exact gz_iret K hr hp dL_findCommutator_20 (Nat.le_of_ble_eq_true rfl) (Nat.le_of_ble_eq_true rfl)
  refine gz_norm (st' := [.int r5, .int (0 : Int32), .ref (ad 66)]) (cells' := 2) (slots' := 12) rfl rfl rfl ?_
  refine gz_i2l K dL_findCommutator_8 ?_
  refine gz_last K (x := (r5).toInt64) (by decide) (ce_66 ad ty) (by unfold vp_in; decide) dL_findCommutator_9 ?_
  refine gz_goto K 21 dL_findCommutator_10 (by decide) ?_
  refine gz_iconst K (v := (0 : Int32)) dL_findCommutator_21 (by decide) ?_
  exact gz_iret K hr hp dL_findCommutator_22 (Nat.le_of_ble_eq_true rfl) (Nat.le_of_ble_eq_true rfl)
set_option maxRecDepth 100000 in
set_option maxHeartbeats 4000000 in
theorem c_L_fillShares {l : Launch} {D : va_G} {ad : Nat → Nat} {ty : Nat → ClassId} (hl : l.stackTraces = false) (hj : ∀ i j, i < 68 → j < 68 → ad i = ad j → i = j) {σ : Dz} {x1 : Int32} {post : Int32 → Dz → Prop} (hp : P_L_fillShares σ x1 post) : MzW l D ad ty yL_fillShares cL_fillShares 4 (some .int) [(0, 9, 12, 24)] r_L_fillShares nI0 σ [.ref (ad 0), .int x1, .ref (ad 66)] post (fun _ _ => False) := by
  refine mzw_of (by decide) hl hj (Nat.le_of_ble_eq_true rfl) ?_
  intro p e s m args below meth c K htab hr
  unfold P_L_fillShares at hp
  show Gz p l e r_L_fillShares s m args below meth c D ad ty 4 0 0 (Ez below D ad ty nI0 post (fun _ _ => False) args s 1 6) σ 0 [(0, .ref (ad 0)), (1, .int x1), (2, .ref (ad 66))] []
  refine gz_aload_n K dL_fillShares_0 2 rfl ?_
  refine gz_iconst K (v := (0 : Int32)) dL_fillShares_1 (by decide) ?_
  refine gz_aload_n K dL_fillShares_2 0 rfl ?_
  refine gz_iload_n K dL_fillShares_3 1 rfl ?_
  refine gz_callVc K (c_X9_fillShares K.2.2.2.2.2 K.2.2.1 hp) cf_X9_fillShares zq4_212 (by decide) (ce_0 _ _ _ _ _ _) rfl dL_fillShares_4 rfl rfl (Nat.le_of_ble_eq_true rfl) ⟨Nat.le_of_ble_eq_true rfl, Nat.le_of_ble_eq_true rfl⟩ ⟨Nat.le_of_ble_eq_true rfl, Nat.le_of_ble_eq_true rfl⟩ (fun E τ h => ?_) (fun r4 τ4 hp => ?_)
  · have h := h
    rcases h with ⟨rfl, hp⟩
    · refine cz_catch K [] ⟨0, 9, 12, 24⟩ [] (htab.trans rfl) (fun z hz => absurd hz List.not_mem_nil) (by decide) (by decide) zq2_239 (List.mem_of_getElem? (i := 2) rfl) (fun q => ?_)
      refine gz_astore_n K [(3, .ref q), (0, .ref (ad 0)), (1, .int x1), (2, .ref (ad 66))] dL_fillShares_12 (by decide) rfl ?_
      refine gz_iconst K (v := (1 : Int32)) dL_fillShares_13 (by decide) ?_
      exact gz_iret K hr hp dL_fillShares_14 (Nat.le_of_ble_eq_true rfl) (Nat.le_of_ble_eq_true rfl)
  refine gz_norm (st' := [.int r4, .int (0 : Int32), .ref (ad 66)]) (cells' := 1) (slots' := 6) rfl rfl rfl ?_
  refine gz_i2l K dL_fillShares_7 ?_
  refine gz_last K (x := (r4).toInt64) (by decide) (ce_66 ad ty) (by unfold vp_in; decide) dL_fillShares_8 ?_
  refine gz_goto K 15 dL_fillShares_9 (by decide) ?_
  refine gz_iconst K (v := (0 : Int32)) dL_fillShares_15 (by decide) ?_
  exact gz_iret K hr hp dL_fillShares_16 (Nat.le_of_ble_eq_true rfl) (Nat.le_of_ble_eq_true rfl)
set_option maxRecDepth 100000 in
set_option maxHeartbeats 4000000 in
theorem c_L_scale {l : Launch} {D : va_G} {ad : Nat → Nat} {ty : Nat → ClassId} (hl : l.stackTraces = false) (hj : ∀ i j, i < 68 → j < 68 → ad i = ad j → i = j) {σ : Dz} {x1 : Int32} {x2 : Int32} {x3 : Int32} {post : Int32 → Dz → Prop} (hp : P_L_scale σ x1 x2 x3 post) : MzW l D ad ty yL_scale cL_scale 6 (some .int) [(0, 12, 15, 24), (0, 12, 19, 13), (0, 12, 23, 29)] r_L_scale nI0 σ [.ref (ad 0), .int x1, .int x2, .int x3, .ref (ad 66)] post (fun _ _ => False) := by
  refine mzw_of (by decide) hl hj (Nat.le_of_ble_eq_true rfl) ?_
  intro p e s m args below meth c K htab hr
  unfold P_L_scale at hp
  show Gz p l e r_L_scale s m args below meth c D ad ty 6 0 0 (Ez below D ad ty nI0 post (fun _ _ => False) args s 3 18) σ 0 [(0, .ref (ad 0)), (1, .int x1), (2, .int x2), (3, .int x3), (4, .ref (ad 66))] []
  refine gz_aload K dL_scale_0 4 rfl ?_
  refine gz_iconst K (v := (0 : Int32)) dL_scale_2 (by decide) ?_
  refine gz_aload_n K dL_scale_3 0 rfl ?_
  refine gz_iload_n K dL_scale_4 1 rfl ?_
  refine gz_iload_n K dL_scale_5 2 rfl ?_
  refine gz_iload_n K dL_scale_6 3 rfl ?_
  refine gz_callVc K (c_X9_scale K.2.2.2.2.2 K.2.2.1 hp) cf_X9_scale zq4_226 (by decide) (ce_0 _ _ _ _ _ _) rfl dL_scale_7 rfl rfl (Nat.le_of_ble_eq_true rfl) ⟨Nat.le_of_ble_eq_true rfl, Nat.le_of_ble_eq_true rfl⟩ ⟨Nat.le_of_ble_eq_true rfl, Nat.le_of_ble_eq_true rfl⟩ (fun E τ h => ?_) (fun r7 τ7 hp => ?_)
  · have h := h
    rcases h with ⟨rfl, hp⟩ | ⟨rfl, hp⟩ | ⟨rfl, hp⟩
    · refine cz_catch K [] ⟨0, 12, 15, 24⟩ [⟨0, 12, 19, 13⟩, ⟨0, 12, 23, 29⟩] (htab.trans rfl) (fun z hz => absurd hz List.not_mem_nil) (by decide) (by decide) zq2_239 (List.mem_of_getElem? (i := 2) rfl) (fun q => ?_)
      refine gz_astore K [(5, .ref q), (0, .ref (ad 0)), (1, .int x1), (2, .int x2), (3, .int x3), (4, .ref (ad 66))] dL_scale_15 (by decide) rfl ?_
      refine gz_iconst K (v := (1 : Int32)) dL_scale_17 (by decide) ?_
      exact gz_iret K hr hp dL_scale_18 (Nat.le_of_ble_eq_true rfl) (Nat.le_of_ble_eq_true rfl)
    · refine cz_catch K [⟨0, 12, 15, 24⟩] ⟨0, 12, 19, 13⟩ [⟨0, 12, 23, 29⟩] (htab.trans rfl) (List.forall_mem_cons.mpr ⟨⟨by decide, "java/lang/IndexOutOfBoundsException", zq2_239, List.mem_of_getElem? (i := 8) rfl⟩, fun z hz => absurd hz List.not_mem_nil⟩) (by decide) (by decide) zq2_126 (List.mem_of_getElem? (i := 0) rfl) (fun q => ?_)
      refine gz_astore K [(5, .ref q), (0, .ref (ad 0)), (1, .int x1), (2, .int x2), (3, .int x3), (4, .ref (ad 66))] dL_scale_19 (by decide) rfl ?_
      refine gz_iconst K (v := (2 : Int32)) dL_scale_21 (by decide) ?_
      exact gz_iret K hr hp dL_scale_22 (Nat.le_of_ble_eq_true rfl) (Nat.le_of_ble_eq_true rfl)
    · refine cz_catch K [⟨0, 12, 15, 24⟩, ⟨0, 12, 19, 13⟩] ⟨0, 12, 23, 29⟩ [] (htab.trans rfl) (List.forall_mem_cons.mpr ⟨⟨by decide, "java/lang/IndexOutOfBoundsException", zq2_239, List.mem_of_getElem? (i := 10) rfl⟩, List.forall_mem_cons.mpr ⟨⟨by decide, "java/lang/IllegalArgumentException", zq2_126, List.mem_of_getElem? (i := 2) rfl⟩, fun z hz => absurd hz List.not_mem_nil⟩⟩) (by decide) (by decide) zq3_86 (List.mem_of_getElem? (i := 3) rfl) (fun q => ?_)
      refine gz_astore K [(5, .ref q), (0, .ref (ad 0)), (1, .int x1), (2, .int x2), (3, .int x3), (4, .ref (ad 66))] dL_scale_23 (by decide) rfl ?_
      refine gz_iconst K (v := (3 : Int32)) dL_scale_25 (by decide) ?_
      exact gz_iret K hr hp dL_scale_26 (Nat.le_of_ble_eq_true rfl) (Nat.le_of_ble_eq_true rfl)
  refine gz_norm (st' := [.int r7, .int (0 : Int32), .ref (ad 66)]) (cells' := 3) (slots' := 18) rfl rfl rfl ?_
  refine gz_i2l K dL_scale_10 ?_
  refine gz_last K (x := (r7).toInt64) (by decide) (ce_66 ad ty) (by unfold vp_in; decide) dL_scale_11 ?_
  refine gz_goto K 27 dL_scale_12 (by decide) ?_
  refine gz_iconst K (v := (0 : Int32)) dL_scale_27 (by decide) ?_
  exact gz_iret K hr hp dL_scale_28 (Nat.le_of_ble_eq_true rfl) (Nat.le_of_ble_eq_true rfl)
set_option maxRecDepth 100000 in
set_option maxHeartbeats 4000000 in
theorem c_L_remainder {l : Launch} {D : va_G} {ad : Nat → Nat} {ty : Nat → ClassId} (hl : l.stackTraces = false) (hj : ∀ i j, i < 68 → j < 68 → ad i = ad j → i = j) {σ : Dz} {x1 : Int32} {x2 : Int32} {x3 : Int32} {post : Int32 → Dz → Prop} (hp : P_L_remainder σ x1 x2 x3 post) : MzW l D ad ty yL_remainder cL_remainder 6 (some .int) [(0, 11, 14, 24), (0, 11, 18, 29)] r_L_remainder nI0 σ [.ref (ad 0), .int x1, .int x2, .int x3, .ref (ad 67)] post (fun _ _ => False) := by
  refine mzw_of (by decide) hl hj (Nat.le_of_ble_eq_true rfl) ?_
  intro p e s m args below meth c K htab hr
  unfold P_L_remainder at hp
  show Gz p l e r_L_remainder s m args below meth c D ad ty 6 0 0 (Ez below D ad ty nI0 post (fun _ _ => False) args s 3 18) σ 0 [(0, .ref (ad 0)), (1, .int x1), (2, .int x2), (3, .int x3), (4, .ref (ad 67))] []
  refine gz_aload K dL_remainder_0 4 rfl ?_
  refine gz_iconst K (v := (0 : Int32)) dL_remainder_2 (by decide) ?_
  refine gz_aload_n K dL_remainder_3 0 rfl ?_
  refine gz_iload_n K dL_remainder_4 1 rfl ?_
  refine gz_iload_n K dL_remainder_5 2 rfl ?_
  refine gz_iload_n K dL_remainder_6 3 rfl ?_
  refine gz_callVc K (c_X9_remainder K.2.2.2.2.2 K.2.2.1 hp) cf_X9_remainder zq5_9 (by decide) (ce_0 _ _ _ _ _ _) rfl dL_remainder_7 rfl rfl (Nat.le_of_ble_eq_true rfl) ⟨Nat.le_of_ble_eq_true rfl, Nat.le_of_ble_eq_true rfl⟩ ⟨Nat.le_of_ble_eq_true rfl, Nat.le_of_ble_eq_true rfl⟩ (fun E τ h => ?_) (fun r7 τ hp => ?_)
  · obtain ⟨rfl, h⟩ := h
    rcases h with ⟨rfl, hp⟩ | ⟨rfl, hp⟩
    · refine cz_catch K [] ⟨0, 11, 14, 24⟩ [⟨0, 11, 18, 29⟩] (htab.trans rfl) (fun z hz => absurd hz List.not_mem_nil) (by decide) (by decide) zq2_239 (List.mem_of_getElem? (i := 2) rfl) (fun q => ?_)
      refine gz_astore K [(5, .ref q), (0, .ref (ad 0)), (1, .int x1), (2, .int x2), (3, .int x3), (4, .ref (ad 67))] dL_remainder_14 (by decide) rfl ?_
      refine gz_iconst K (v := (1 : Int32)) dL_remainder_16 (by decide) ?_
      exact gz_iret K hr hp dL_remainder_17 (Nat.le_of_ble_eq_true rfl) (Nat.le_of_ble_eq_true rfl)
    · refine cz_catch K [⟨0, 11, 14, 24⟩] ⟨0, 11, 18, 29⟩ [] (htab.trans rfl) (List.forall_mem_cons.mpr ⟨⟨by decide, "java/lang/IndexOutOfBoundsException", zq2_239, List.mem_of_getElem? (i := 10) rfl⟩, fun z hz => absurd hz List.not_mem_nil⟩) (by decide) (by decide) zq3_86 (List.mem_of_getElem? (i := 3) rfl) (fun q => ?_)
      refine gz_astore K [(5, .ref q), (0, .ref (ad 0)), (1, .int x1), (2, .int x2), (3, .int x3), (4, .ref (ad 67))] dL_remainder_18 (by decide) rfl ?_
      refine gz_iconst K (v := (2 : Int32)) dL_remainder_20 (by decide) ?_
      exact gz_iret K hr hp dL_remainder_21 (Nat.le_of_ble_eq_true rfl) (Nat.le_of_ble_eq_true rfl)
  obtain ⟨rfl, hp⟩ := hp
  refine gz_norm (st' := [.double r7, .int (0 : Int32), .ref (ad 67)]) (cells' := 3) (slots' := 18) rfl rfl rfl ?_
  refine gz_dast K (x := r7) (by decide) (ce_67 ad ty) (by unfold vp_in; decide) dL_remainder_10 ?_
  refine gz_goto K 22 dL_remainder_11 (by decide) ?_
  refine gz_iconst K (v := (0 : Int32)) dL_remainder_22 (by decide) ?_
  exact gz_iret K hr hp dL_remainder_23 (Nat.le_of_ble_eq_true rfl) (Nat.le_of_ble_eq_true rfl)
set_option maxRecDepth 100000 in
set_option maxHeartbeats 4000000 in
theorem c_L_restore {l : Launch} {D : va_G} {ad : Nat → Nat} {ty : Nat → ClassId} (hl : l.stackTraces = false) (hj : ∀ i j, i < 68 → j < 68 → ad i = ad j → i = j) {σ : Dz} {post : Int32 → Dz → Prop} (hp : P_L_restore σ post) : MzW l D ad ty yL_restore cL_restore 2 (some .int) [(0, 4, 7, 19)] r_L_restore nI0 σ [.ref (ad 0)] post (fun _ _ => False) := by
  refine mzw_of (by decide) hl hj (Nat.le_of_ble_eq_true rfl) ?_
  intro p e s m args below meth c K htab hr
  unfold P_L_restore at hp
  show Gz p l e r_L_restore s m args below meth c D ad ty 2 0 0 (Ez below D ad ty nI0 post (fun _ _ => False) args s 1 6) σ 0 [(0, .ref (ad 0))] []
  refine gz_aload_n K dL_restore_0 0 rfl ?_
  refine gz_callVc K (c_X9_restore K.2.2.2.2.2 K.2.2.1 hp) cf_X9_restore zq5_20 (by decide) (ce_0 _ _ _ _ _ _) rfl dL_restore_1 rfl rfl (Nat.le_of_ble_eq_true rfl) ⟨Nat.le_of_ble_eq_true rfl, Nat.le_of_ble_eq_true rfl⟩ ⟨Nat.le_of_ble_eq_true rfl, Nat.le_of_ble_eq_true rfl⟩ (fun E τ h => ?_) (fun _ τ1 hp => ?_)
  · have h := h
    rcases h with ⟨rfl, hp⟩
    · refine cz_catch K [] ⟨0, 4, 7, 19⟩ [] (htab.trans rfl) (fun z hz => absurd hz List.not_mem_nil) (by decide) (by decide) zq2_206 (List.mem_of_getElem? (i := 1) rfl) (fun q => ?_)
      refine gz_astore_n K [(1, .ref q), (0, .ref (ad 0))] dL_restore_7 (by decide) rfl ?_
      refine gz_iconst K (v := (1 : Int32)) dL_restore_8 (by decide) ?_
      exact gz_iret K hr hp dL_restore_9 (Nat.le_of_ble_eq_true rfl) (Nat.le_of_ble_eq_true rfl)
  refine gz_norm (st' := []) (cells' := 1) (slots' := 6) rfl rfl rfl ?_
  refine gz_goto K 10 dL_restore_4 (by decide) ?_
  refine gz_iconst K (v := (0 : Int32)) dL_restore_10 (by decide) ?_
  exact gz_iret K hr hp dL_restore_11 (Nat.le_of_ble_eq_true rfl) (Nat.le_of_ble_eq_true rfl)
