/-! the walk of the law. Written by wip/whole/genall.py -/
set_option maxRecDepth 100000 in
set_option maxHeartbeats 4000000 in
theorem law_188 {p : Program} {l : Launch} {e : Env} {s : State} {m : MethodId} {below : List Frame} {meth : Method} {c : Code} {D : va_G} {ad : Nat → Nat} {ty : Nat → ClassId} {b L : Nat} {xs : Nat → Int32} (K : Kz p l s m #[.ref b] meth c D ad ty code 10 RL) (hr : meth.sig.returnType = ret) (had : ∀ k, k < 68 → s.heap.size ≤ ad k) (hX : va_X b L xs s s.heap) (hbl : b < s.heap.size) (hbA : ¬ Az ad s.heap.size b) {rc : Dz → Int32 → Prop} {C S : Nat} (hC : C + 20 ≤ 603072) (hS : S + 200 ≤ 7149674) (ih : ∀ σ y5, rc σ y5 → Gz p l e room_1 s m #[.ref b] below meth c D ad ty 10 (C + 20) (S + 200) (lw_Z below #[.ref b] s) σ 28 [(0, .ref b), (1, .ref (ad 0)), (2, .ref (ad 43)), (3, .ref (ad 66)), (4, .ref (ad 67)), (5, .int y5)] []) {σ : Dz} {y5 : Int32} (hp : B_L_law_188 L xs rc σ y5) : Gz p l e room_1 s m #[.ref b] below meth c D ad ty 10 C S (lw_Z below #[.ref b] s) σ 188 [(0, .ref b), (1, .ref (ad 0)), (2, .ref (ad 43)), (3, .ref (ad 66)), (4, .ref (ad 67)), (5, .int y5)] [] := by
  unfold B_L_law_188 at hp
  refine gz_norm (st' := []) (cells' := C + 0) (slots' := S + 0) rfl rfl rfl ?_
  refine gz_aload_n K dL_law_188 1 rfl ?_
  refine gz_aload_n K dL_law_189 0 rfl ?_
  refine gz_iload K dL_law_190 5 rfl ?_
  refine gz_iconst K (v := (1 : Int32)) dL_law_192 (by decide) ?_
  refine gz_iadd K dL_law_193 ?_
  obtain ⟨h, hp⟩ := hp
  refine gz_sld K hX hbl hbA h dL_law_194 ?_
  refine gz_aload_n K dL_law_195 3 rfl ?_
  refine gz_callWq K (c_L_reset K.2.2.2.2.2 K.2.2.1 hp) cf_L_reset zq2_123 dL_law_196 rfl rfl (Nat.le_of_ble_eq_true rfl) ⟨Nat.le_of_ble_eq_true rfl, Nat.le_of_ble_eq_true rfl⟩ ⟨show C + 0 + 1 ≤ 603072 by omega, show S + 0 + 6 ≤ 7149674 by omega⟩ (fun r196 τ196 hp => ?_)
  refine gz_norm (st' := [.int r196]) (cells' := C + 1) (slots' := S + 6) rfl (show C + 0 + 1 = C + 1 by omega) (show S + 0 + 6 = S + 6 by omega) ?_
  refine gz_istore K [(6, .int r196), (0, .ref b), (1, .ref (ad 0)), (2, .ref (ad 43)), (3, .ref (ad 66)), (4, .ref (ad 67)), (5, .int y5)] dL_law_199 (by decide) rfl ?_
  refine gz_aload_n K dL_law_201 3 rfl ?_
  refine gz_aload_n K dL_law_202 1 rfl ?_
  refine gz_iload K dL_law_203 6 rfl ?_
  refine gz_iconst K (v := (1 : Int32)) dL_law_205 (by decide) ?_
  refine gz_iadd K dL_law_206 ?_
  obtain ⟨h, hp⟩ := hp
  refine gz_sld K hX hbl hbA h dL_law_207 ?_
  refine gz_callVc K (c_X10_reset K.2.2.2.2.2 K.2.2.1 hp) cf_X10_reset zq5_142 (by decide) (ce_43 _ _ _ _ _ _) rfl dL_law_208 rfl rfl (Nat.le_of_ble_eq_true rfl) ⟨Nat.le_of_ble_eq_true rfl, Nat.le_of_ble_eq_true rfl⟩ ⟨show C + 1 + 0 ≤ 603072 by omega, show S + 6 + 0 ≤ 7149674 by omega⟩ (fun _ _ h => h.elim) (fun r208 τ208 hp => ?_)
  refine gz_norm (st' := [.int r208]) (cells' := C + 1) (slots' := S + 6) rfl (show C + 1 + 0 = C + 1 by omega) (show S + 6 + 0 = S + 6 by omega) ?_
  refine gz_istore K [(7, .int r208), (6, .int r196), (0, .ref b), (1, .ref (ad 0)), (2, .ref (ad 43)), (3, .ref (ad 66)), (4, .ref (ad 67)), (5, .int y5)] dL_law_211 (by decide) rfl ?_
  refine gz_aload_n K dL_law_213 4 rfl ?_
  refine gz_callVc K (c_X10_thrown K.2.2.2.2.2 K.2.2.1 hp) cf_X10_thrown zq5_138 (by decide) (ce_43 _ _ _ _ _ _) rfl dL_law_214 rfl rfl (Nat.le_of_ble_eq_true rfl) ⟨Nat.le_of_ble_eq_true rfl, Nat.le_of_ble_eq_true rfl⟩ ⟨show C + 1 + 0 ≤ 603072 by omega, show S + 6 + 0 ≤ 7149674 by omega⟩ (fun _ _ h => h.elim) (fun r214 τ hp => ?_)
  obtain ⟨rfl, hp⟩ := hp
  refine gz_norm (st' := [.int r214]) (cells' := C + 1) (slots' := S + 6) rfl (show C + 1 + 0 = C + 1 by omega) (show S + 6 + 0 = S + 6 by omega) ?_
  refine gz_iload K dL_law_217 1 rfl ?_
  refine gz_icmp_eq K 224 dL_law_219 (by decide) (fun h => ?_) (fun h => ?_)
  · have hp := hp.1 h
    refine gz_iload K dL_law_224 1 rfl ?_
    refine gz_if_ne K 241 dL_law_226 (by decide) (fun h => ?_) (fun h => ?_)
    · have hp := hp.1 h
      refine gz_goto K 1933 dL_law_241 (by decide) ?_
      refine gz_iinc K (v := (y5 + (4))) [(5, .int (y5 + (4))), (7, .int r208), (6, .int r196), (0, .ref b), (1, .ref (ad 0)), (2, .ref (ad 43)), (3, .ref (ad 66)), (4, .ref (ad 67))] dL_law_1933 7 rfl rfl (by decide) rfl ?_
      refine gz_goto K 28 dL_law_1936 (by decide) ?_
      refine gz_widen (k := C + 20) (n := S + 200) (show C + 1 ≤ C + 20 by omega) (show S + 6 ≤ S + 200 by omega) ?_
      refine gz_sub [3, 4, 5, 6, 7, 0] rfl ?_
      exact ih τ208 (y5 + (4)) hp
    · have hp := hp.2 h
      refine gz_aload_n K dL_law_229 5 rfl ?_
      refine gz_iconst K (v := (0 : Int32)) dL_law_230 (by decide) ?_
      refine gz_lald K (by decide) (ce_66 _ _ _ _ _ _) (by unfold vp_in; decide) dL_law_231 ?_
      refine gz_iload K dL_law_232 0 rfl ?_
      refine gz_i2l K dL_law_234 ?_
      refine gz_lcmp K dL_law_235 ?_
      refine gz_if_eq K 241 dL_law_236 (by decide) (fun h => ?_) (fun h => ?_)
      · have hp := hp.1 h
        refine gz_goto K 1933 dL_law_241 (by decide) ?_
        refine gz_iinc K (v := (y5 + (4))) [(5, .int (y5 + (4))), (7, .int r208), (6, .int r196), (0, .ref b), (1, .ref (ad 0)), (2, .ref (ad 43)), (3, .ref (ad 66)), (4, .ref (ad 67))] dL_law_1933 7 rfl rfl (by decide) rfl ?_
        refine gz_goto K 28 dL_law_1936 (by decide) ?_
        refine gz_widen (k := C + 20) (n := S + 200) (show C + 1 ≤ C + 20 by omega) (show S + 6 ≤ S + 200 by omega) ?_
        refine gz_sub [3, 4, 5, 6, 7, 0] rfl ?_
        exact ih τ208 (y5 + (4)) hp
      · have hp := hp.2 h
        refine gz_iconst K (v := (0 : Int32)) dL_law_239 (by decide) ?_
        exact False.elim hp
  · have hp := hp.2 h
    refine gz_iconst K (v := (0 : Int32)) dL_law_222 (by decide) ?_
    exact False.elim hp
set_option maxRecDepth 100000 in
set_option maxHeartbeats 4000000 in
theorem law_244 {p : Program} {l : Launch} {e : Env} {s : State} {m : MethodId} {below : List Frame} {meth : Method} {c : Code} {D : va_G} {ad : Nat → Nat} {ty : Nat → ClassId} {b L : Nat} {xs : Nat → Int32} (K : Kz p l s m #[.ref b] meth c D ad ty code 10 RL) (hr : meth.sig.returnType = ret) (had : ∀ k, k < 68 → s.heap.size ≤ ad k) (hX : va_X b L xs s s.heap) (hbl : b < s.heap.size) (hbA : ¬ Az ad s.heap.size b) {rc : Dz → Int32 → Prop} {C S : Nat} (hC : C + 20 ≤ 603072) (hS : S + 200 ≤ 7149674) (ih : ∀ σ y5, rc σ y5 → Gz p l e room_1 s m #[.ref b] below meth c D ad ty 10 (C + 20) (S + 200) (lw_Z below #[.ref b] s) σ 28 [(0, .ref b), (1, .ref (ad 0)), (2, .ref (ad 43)), (3, .ref (ad 66)), (4, .ref (ad 67)), (5, .int y5)] []) {σ : Dz} {y5 : Int32} (hp : B_L_law_244 L xs rc σ y5) : Gz p l e room_1 s m #[.ref b] below meth c D ad ty 10 C S (lw_Z below #[.ref b] s) σ 244 [(0, .ref b), (1, .ref (ad 0)), (2, .ref (ad 43)), (3, .ref (ad 66)), (4, .ref (ad 67)), (5, .int y5)] [] := by
  unfold B_L_law_244 at hp
  refine gz_norm (st' := []) (cells' := C + 0) (slots' := S + 0) rfl rfl rfl ?_
  refine gz_aload_n K dL_law_244 1 rfl ?_
  refine gz_callVc K (c_X9_positions K.2.2.2.2.2 K.2.2.1 hp) cf_X9_positions zq2_10 (by decide) (ce_0 _ _ _ _ _ _) rfl dL_law_245 rfl rfl (Nat.le_of_ble_eq_true rfl) ⟨Nat.le_of_ble_eq_true rfl, Nat.le_of_ble_eq_true rfl⟩ ⟨show C + 0 + 0 ≤ 603072 by omega, show S + 0 + 0 ≤ 7149674 by omega⟩ (fun _ _ h => h.elim) (fun r245 τ hp => ?_)
  obtain ⟨rfl, hp⟩ := hp
  refine gz_norm (st' := [.int r245]) (cells' := C + 0) (slots' := S + 0) rfl (show C + 0 + 0 = C + 0 by omega) (show S + 0 + 0 = S + 0 by omega) ?_
  refine gz_aload_n K dL_law_248 2 rfl ?_
  refine gz_callVc K (c_X10_positions K.2.2.2.2.2 K.2.2.1 hp) cf_X10_positions zq5_157 (by decide) (ce_43 _ _ _ _ _ _) rfl dL_law_249 rfl rfl (Nat.le_of_ble_eq_true rfl) ⟨Nat.le_of_ble_eq_true rfl, Nat.le_of_ble_eq_true rfl⟩ ⟨show C + 0 + 0 ≤ 603072 by omega, show S + 0 + 0 ≤ 7149674 by omega⟩ (fun _ _ h => h.elim) (fun r249 τ249 hp => ?_)
  refine gz_norm (st' := [.int r249, .int r245]) (cells' := C + 0) (slots' := S + 0) rfl (show C + 0 + 0 = C + 0 by omega) (show S + 0 + 0 = S + 0 by omega) ?_
  refine gz_icmp_eq K 1933 dL_law_252 (by decide) (fun h => ?_) (fun h => ?_)
  · have hp := hp.1 h
    refine gz_iinc K (v := (y5 + (4))) [(5, .int (y5 + (4))), (0, .ref b), (1, .ref (ad 0)), (2, .ref (ad 43)), (3, .ref (ad 66)), (4, .ref (ad 67))] dL_law_1933 5 rfl rfl (by decide) rfl ?_
    refine gz_goto K 28 dL_law_1936 (by decide) ?_
    refine gz_widen (k := C + 20) (n := S + 200) (show C + 0 ≤ C + 20 by omega) (show S + 0 ≤ S + 200 by omega) ?_
    refine gz_sub [1, 2, 3, 4, 5, 0] rfl ?_
    exact ih τ249 (y5 + (4)) hp
  · have hp := hp.2 h
    refine gz_iconst K (v := (0 : Int32)) dL_law_255 (by decide) ?_
    exact False.elim hp
set_option maxRecDepth 100000 in
set_option maxHeartbeats 4000000 in
theorem law_257 {p : Program} {l : Launch} {e : Env} {s : State} {m : MethodId} {below : List Frame} {meth : Method} {c : Code} {D : va_G} {ad : Nat → Nat} {ty : Nat → ClassId} {b L : Nat} {xs : Nat → Int32} (K : Kz p l s m #[.ref b] meth c D ad ty code 10 RL) (hr : meth.sig.returnType = ret) (had : ∀ k, k < 68 → s.heap.size ≤ ad k) (hX : va_X b L xs s s.heap) (hbl : b < s.heap.size) (hbA : ¬ Az ad s.heap.size b) {rc : Dz → Int32 → Prop} {C S : Nat} (hC : C + 20 ≤ 603072) (hS : S + 200 ≤ 7149674) (ih : ∀ σ y5, rc σ y5 → Gz p l e room_1 s m #[.ref b] below meth c D ad ty 10 (C + 20) (S + 200) (lw_Z below #[.ref b] s) σ 28 [(0, .ref b), (1, .ref (ad 0)), (2, .ref (ad 43)), (3, .ref (ad 66)), (4, .ref (ad 67)), (5, .int y5)] []) {σ : Dz} {y5 : Int32} (hp : B_L_law_257 L xs rc σ y5) : Gz p l e room_1 s m #[.ref b] below meth c D ad ty 10 C S (lw_Z below #[.ref b] s) σ 257 [(0, .ref b), (1, .ref (ad 0)), (2, .ref (ad 43)), (3, .ref (ad 66)), (4, .ref (ad 67)), (5, .int y5)] [] := by
  unfold B_L_law_257 at hp
  refine gz_norm (st' := []) (cells' := C + 0) (slots' := S + 0) rfl rfl rfl ?_
  refine gz_aload_n K dL_law_257 1 rfl ?_
  refine gz_aload_n K dL_law_258 0 rfl ?_
  refine gz_iload K dL_law_259 5 rfl ?_
  refine gz_iconst K (v := (1 : Int32)) dL_law_261 (by decide) ?_
  refine gz_iadd K dL_law_262 ?_
  obtain ⟨h, hp⟩ := hp
  refine gz_sld K hX hbl hbA h dL_law_263 ?_
  refine gz_i2c K dL_law_264 ?_
  refine gz_aload_n K dL_law_265 3 rfl ?_
  refine gz_callWq K (c_L_append K.2.2.2.2.2 K.2.2.1 hp) cf_L_append zq2_203 dL_law_266 rfl rfl (Nat.le_of_ble_eq_true rfl) ⟨Nat.le_of_ble_eq_true rfl, Nat.le_of_ble_eq_true rfl⟩ ⟨show C + 0 + 1 ≤ 603072 by omega, show S + 0 + 6 ≤ 7149674 by omega⟩ (fun r266 τ266 hp => ?_)
  refine gz_norm (st' := [.int r266]) (cells' := C + 1) (slots' := S + 6) rfl (show C + 0 + 1 = C + 1 by omega) (show S + 0 + 6 = S + 6 by omega) ?_
  refine gz_istore K [(6, .int r266), (0, .ref b), (1, .ref (ad 0)), (2, .ref (ad 43)), (3, .ref (ad 66)), (4, .ref (ad 67)), (5, .int y5)] dL_law_269 (by decide) rfl ?_
  refine gz_aload_n K dL_law_271 3 rfl ?_
  refine gz_aload_n K dL_law_272 1 rfl ?_
  refine gz_iload K dL_law_273 6 rfl ?_
  refine gz_iconst K (v := (1 : Int32)) dL_law_275 (by decide) ?_
  refine gz_iadd K dL_law_276 ?_
  obtain ⟨h, hp⟩ := hp
  refine gz_sld K hX hbl hbA h dL_law_277 ?_
  refine gz_i2c K dL_law_278 ?_
  refine gz_callVc K (c_X10_append K.2.2.2.2.2 K.2.2.1 hp) cf_X10_append zq5_161 (by decide) (ce_43 _ _ _ _ _ _) rfl dL_law_279 rfl rfl (Nat.le_of_ble_eq_true rfl) ⟨Nat.le_of_ble_eq_true rfl, Nat.le_of_ble_eq_true rfl⟩ ⟨show C + 1 + 0 ≤ 603072 by omega, show S + 6 + 0 ≤ 7149674 by omega⟩ (fun _ _ h => h.elim) (fun r279 τ279 hp => ?_)
  refine gz_norm (st' := [.int r279]) (cells' := C + 1) (slots' := S + 6) rfl (show C + 1 + 0 = C + 1 by omega) (show S + 6 + 0 = S + 6 by omega) ?_
  refine gz_istore K [(7, .int r279), (6, .int r266), (0, .ref b), (1, .ref (ad 0)), (2, .ref (ad 43)), (3, .ref (ad 66)), (4, .ref (ad 67)), (5, .int y5)] dL_law_282 (by decide) rfl ?_
  refine gz_aload_n K dL_law_284 4 rfl ?_
  refine gz_callVc K (c_X10_thrown K.2.2.2.2.2 K.2.2.1 hp) cf_X10_thrown zq5_138 (by decide) (ce_43 _ _ _ _ _ _) rfl dL_law_285 rfl rfl (Nat.le_of_ble_eq_true rfl) ⟨Nat.le_of_ble_eq_true rfl, Nat.le_of_ble_eq_true rfl⟩ ⟨show C + 1 + 0 ≤ 603072 by omega, show S + 6 + 0 ≤ 7149674 by omega⟩ (fun _ _ h => h.elim) (fun r285 τ hp => ?_)
  obtain ⟨rfl, hp⟩ := hp
  refine gz_norm (st' := [.int r285]) (cells' := C + 1) (slots' := S + 6) rfl (show C + 1 + 0 = C + 1 by omega) (show S + 6 + 0 = S + 6 by omega) ?_
  refine gz_iload K dL_law_288 1 rfl ?_
  refine gz_icmp_eq K 295 dL_law_290 (by decide) (fun h => ?_) (fun h => ?_)
  · have hp := hp.1 h
    refine gz_iload K dL_law_295 1 rfl ?_
    refine gz_if_ne K 312 dL_law_297 (by decide) (fun h => ?_) (fun h => ?_)
    · have hp := hp.1 h
      refine gz_goto K 1933 dL_law_312 (by decide) ?_
      refine gz_iinc K (v := (y5 + (4))) [(5, .int (y5 + (4))), (7, .int r279), (6, .int r266), (0, .ref b), (1, .ref (ad 0)), (2, .ref (ad 43)), (3, .ref (ad 66)), (4, .ref (ad 67))] dL_law_1933 7 rfl rfl (by decide) rfl ?_
      refine gz_goto K 28 dL_law_1936 (by decide) ?_
      refine gz_widen (k := C + 20) (n := S + 200) (show C + 1 ≤ C + 20 by omega) (show S + 6 ≤ S + 200 by omega) ?_
      refine gz_sub [3, 4, 5, 6, 7, 0] rfl ?_
      exact ih τ279 (y5 + (4)) hp
    · have hp := hp.2 h
      refine gz_aload_n K dL_law_300 5 rfl ?_
      refine gz_iconst K (v := (0 : Int32)) dL_law_301 (by decide) ?_
      refine gz_lald K (by decide) (ce_66 _ _ _ _ _ _) (by unfold vp_in; decide) dL_law_302 ?_
      refine gz_iload K dL_law_303 0 rfl ?_
      refine gz_i2l K dL_law_305 ?_
      refine gz_lcmp K dL_law_306 ?_
      refine gz_if_eq K 312 dL_law_307 (by decide) (fun h => ?_) (fun h => ?_)
      · have hp := hp.1 h
        refine gz_goto K 1933 dL_law_312 (by decide) ?_
        refine gz_iinc K (v := (y5 + (4))) [(5, .int (y5 + (4))), (7, .int r279), (6, .int r266), (0, .ref b), (1, .ref (ad 0)), (2, .ref (ad 43)), (3, .ref (ad 66)), (4, .ref (ad 67))] dL_law_1933 7 rfl rfl (by decide) rfl ?_
        refine gz_goto K 28 dL_law_1936 (by decide) ?_
        refine gz_widen (k := C + 20) (n := S + 200) (show C + 1 ≤ C + 20 by omega) (show S + 6 ≤ S + 200 by omega) ?_
        refine gz_sub [3, 4, 5, 6, 7, 0] rfl ?_
        exact ih τ279 (y5 + (4)) hp
      · have hp := hp.2 h
        refine gz_iconst K (v := (0 : Int32)) dL_law_310 (by decide) ?_
        exact False.elim hp
  · have hp := hp.2 h
    refine gz_iconst K (v := (0 : Int32)) dL_law_293 (by decide) ?_
    exact False.elim hp
set_option maxRecDepth 100000 in
set_option maxHeartbeats 4000000 in
theorem law_315 {p : Program} {l : Launch} {e : Env} {s : State} {m : MethodId} {below : List Frame} {meth : Method} {c : Code} {D : va_G} {ad : Nat → Nat} {ty : Nat → ClassId} {b L : Nat} {xs : Nat → Int32} (K : Kz p l s m #[.ref b] meth c D ad ty code 10 RL) (hr : meth.sig.returnType = ret) (had : ∀ k, k < 68 → s.heap.size ≤ ad k) (hX : va_X b L xs s s.heap) (hbl : b < s.heap.size) (hbA : ¬ Az ad s.heap.size b) {rc : Dz → Int32 → Prop} {C S : Nat} (hC : C + 20 ≤ 603072) (hS : S + 200 ≤ 7149674) (ih : ∀ σ y5, rc σ y5 → Gz p l e room_1 s m #[.ref b] below meth c D ad ty 10 (C + 20) (S + 200) (lw_Z below #[.ref b] s) σ 28 [(0, .ref b), (1, .ref (ad 0)), (2, .ref (ad 43)), (3, .ref (ad 66)), (4, .ref (ad 67)), (5, .int y5)] []) {σ : Dz} {y5 : Int32} (hp : B_L_law_315 L xs rc σ y5) : Gz p l e room_1 s m #[.ref b] below meth c D ad ty 10 C S (lw_Z below #[.ref b] s) σ 315 [(0, .ref b), (1, .ref (ad 0)), (2, .ref (ad 43)), (3, .ref (ad 66)), (4, .ref (ad 67)), (5, .int y5)] [] := by
  unfold B_L_law_315 at hp
  refine gz_norm (st' := []) (cells' := C + 0) (slots' := S + 0) rfl rfl rfl ?_
  refine gz_aload_n K dL_law_315 1 rfl ?_
  refine gz_aload_n K dL_law_316 0 rfl ?_
  refine gz_iload K dL_law_317 5 rfl ?_
  refine gz_iconst K (v := (1 : Int32)) dL_law_319 (by decide) ?_
  refine gz_iadd K dL_law_320 ?_
  obtain ⟨h, hp⟩ := hp
  refine gz_sld K hX hbl hbA h dL_law_321 ?_
  refine gz_aload_n K dL_law_322 3 rfl ?_
  refine gz_callWq K (c_L_define K.2.2.2.2.2 K.2.2.1 hp) cf_L_define zq2_236 dL_law_323 rfl rfl (Nat.le_of_ble_eq_true rfl) ⟨Nat.le_of_ble_eq_true rfl, Nat.le_of_ble_eq_true rfl⟩ ⟨show C + 0 + 2 ≤ 603072 by omega, show S + 0 + 12 ≤ 7149674 by omega⟩ (fun r323 τ323 hp => ?_)
  refine gz_norm (st' := [.int r323]) (cells' := C + 2) (slots' := S + 12) rfl (show C + 0 + 2 = C + 2 by omega) (show S + 0 + 12 = S + 12 by omega) ?_
  refine gz_istore K [(6, .int r323), (0, .ref b), (1, .ref (ad 0)), (2, .ref (ad 43)), (3, .ref (ad 66)), (4, .ref (ad 67)), (5, .int y5)] dL_law_326 (by decide) rfl ?_
  refine gz_aload_n K dL_law_328 3 rfl ?_
  refine gz_aload_n K dL_law_329 1 rfl ?_
  refine gz_iload K dL_law_330 6 rfl ?_
  refine gz_iconst K (v := (1 : Int32)) dL_law_332 (by decide) ?_
  refine gz_iadd K dL_law_333 ?_
  obtain ⟨h, hp⟩ := hp
  refine gz_sld K hX hbl hbA h dL_law_334 ?_
  refine gz_callVc K (c_X10_define K.2.2.2.2.2 K.2.2.1 hp) cf_X10_define zq5_165 (by decide) (ce_43 _ _ _ _ _ _) rfl dL_law_335 rfl rfl (Nat.le_of_ble_eq_true rfl) ⟨Nat.le_of_ble_eq_true rfl, Nat.le_of_ble_eq_true rfl⟩ ⟨show C + 2 + 0 ≤ 603072 by omega, show S + 12 + 0 ≤ 7149674 by omega⟩ (fun _ _ h => h.elim) (fun r335 τ335 hp => ?_)
  refine gz_norm (st' := [.int r335]) (cells' := C + 2) (slots' := S + 12) rfl (show C + 2 + 0 = C + 2 by omega) (show S + 12 + 0 = S + 12 by omega) ?_
  refine gz_istore K [(7, .int r335), (6, .int r323), (0, .ref b), (1, .ref (ad 0)), (2, .ref (ad 43)), (3, .ref (ad 66)), (4, .ref (ad 67)), (5, .int y5)] dL_law_338 (by decide) rfl ?_
  refine gz_aload_n K dL_law_340 4 rfl ?_
  refine gz_callVc K (c_X10_thrown K.2.2.2.2.2 K.2.2.1 hp) cf_X10_thrown zq5_138 (by decide) (ce_43 _ _ _ _ _ _) rfl dL_law_341 rfl rfl (Nat.le_of_ble_eq_true rfl) ⟨Nat.le_of_ble_eq_true rfl, Nat.le_of_ble_eq_true rfl⟩ ⟨show C + 2 + 0 ≤ 603072 by omega, show S + 12 + 0 ≤ 7149674 by omega⟩ (fun _ _ h => h.elim) (fun r341 τ hp => ?_)
  obtain ⟨rfl, hp⟩ := hp
  refine gz_norm (st' := [.int r341]) (cells' := C + 2) (slots' := S + 12) rfl (show C + 2 + 0 = C + 2 by omega) (show S + 12 + 0 = S + 12 by omega) ?_
  refine gz_iload K dL_law_344 1 rfl ?_
  refine gz_icmp_eq K 351 dL_law_346 (by decide) (fun h => ?_) (fun h => ?_)
  · have hp := hp.1 h
    refine gz_iload K dL_law_351 1 rfl ?_
    refine gz_if_ne K 368 dL_law_353 (by decide) (fun h => ?_) (fun h => ?_)
    · have hp := hp.1 h
      refine gz_goto K 1933 dL_law_368 (by decide) ?_
      refine gz_iinc K (v := (y5 + (4))) [(5, .int (y5 + (4))), (7, .int r335), (6, .int r323), (0, .ref b), (1, .ref (ad 0)), (2, .ref (ad 43)), (3, .ref (ad 66)), (4, .ref (ad 67))] dL_law_1933 7 rfl rfl (by decide) rfl ?_
      refine gz_goto K 28 dL_law_1936 (by decide) ?_
      refine gz_widen (k := C + 20) (n := S + 200) (show C + 2 ≤ C + 20 by omega) (show S + 12 ≤ S + 200 by omega) ?_
      refine gz_sub [3, 4, 5, 6, 7, 0] rfl ?_
      exact ih τ335 (y5 + (4)) hp
    · have hp := hp.2 h
      refine gz_aload_n K dL_law_356 5 rfl ?_
      refine gz_iconst K (v := (0 : Int32)) dL_law_357 (by decide) ?_
      refine gz_lald K (by decide) (ce_66 _ _ _ _ _ _) (by unfold vp_in; decide) dL_law_358 ?_
      refine gz_iload K dL_law_359 0 rfl ?_
      refine gz_i2l K dL_law_361 ?_
      refine gz_lcmp K dL_law_362 ?_
      refine gz_if_eq K 368 dL_law_363 (by decide) (fun h => ?_) (fun h => ?_)
      · have hp := hp.1 h
        refine gz_goto K 1933 dL_law_368 (by decide) ?_
        refine gz_iinc K (v := (y5 + (4))) [(5, .int (y5 + (4))), (7, .int r335), (6, .int r323), (0, .ref b), (1, .ref (ad 0)), (2, .ref (ad 43)), (3, .ref (ad 66)), (4, .ref (ad 67))] dL_law_1933 7 rfl rfl (by decide) rfl ?_
        refine gz_goto K 28 dL_law_1936 (by decide) ?_
        refine gz_widen (k := C + 20) (n := S + 200) (show C + 2 ≤ C + 20 by omega) (show S + 12 ≤ S + 200 by omega) ?_
        refine gz_sub [3, 4, 5, 6, 7, 0] rfl ?_
        exact ih τ335 (y5 + (4)) hp
      · have hp := hp.2 h
        refine gz_iconst K (v := (0 : Int32)) dL_law_366 (by decide) ?_
        exact False.elim hp
  · have hp := hp.2 h
    refine gz_iconst K (v := (0 : Int32)) dL_law_349 (by decide) ?_
    exact False.elim hp
set_option maxRecDepth 100000 in
set_option maxHeartbeats 4000000 in
theorem law_371 {p : Program} {l : Launch} {e : Env} {s : State} {m : MethodId} {below : List Frame} {meth : Method} {c : Code} {D : va_G} {ad : Nat → Nat} {ty : Nat → ClassId} {b L : Nat} {xs : Nat → Int32} (K : Kz p l s m #[.ref b] meth c D ad ty code 10 RL) (hr : meth.sig.returnType = ret) (had : ∀ k, k < 68 → s.heap.size ≤ ad k) (hX : va_X b L xs s s.heap) (hbl : b < s.heap.size) (hbA : ¬ Az ad s.heap.size b) {rc : Dz → Int32 → Prop} {C S : Nat} (hC : C + 20 ≤ 603072) (hS : S + 200 ≤ 7149674) (ih : ∀ σ y5, rc σ y5 → Gz p l e room_1 s m #[.ref b] below meth c D ad ty 10 (C + 20) (S + 200) (lw_Z below #[.ref b] s) σ 28 [(0, .ref b), (1, .ref (ad 0)), (2, .ref (ad 43)), (3, .ref (ad 66)), (4, .ref (ad 67)), (5, .int y5)] []) {σ : Dz} {y5 : Int32} (hp : B_L_law_371 L xs rc σ y5) : Gz p l e room_1 s m #[.ref b] below meth c D ad ty 10 C S (lw_Z below #[.ref b] s) σ 371 [(0, .ref b), (1, .ref (ad 0)), (2, .ref (ad 43)), (3, .ref (ad 66)), (4, .ref (ad 67)), (5, .int y5)] [] := by
  unfold B_L_law_371 at hp
  refine gz_norm (st' := []) (cells' := C + 0) (slots' := S + 0) rfl rfl rfl ?_
  refine gz_aload_n K dL_law_371 1 rfl ?_
  refine gz_aload_n K dL_law_372 0 rfl ?_
  refine gz_iload K dL_law_373 5 rfl ?_
  refine gz_iconst K (v := (1 : Int32)) dL_law_375 (by decide) ?_
  refine gz_iadd K dL_law_376 ?_
  obtain ⟨h, hp⟩ := hp
  refine gz_sld K hX hbl hbA h dL_law_377 ?_
  refine gz_aload_n K dL_law_378 3 rfl ?_
  refine gz_callWq K (c_L_store K.2.2.2.2.2 K.2.2.1 hp) cf_L_store zq3_83 dL_law_379 rfl rfl (Nat.le_of_ble_eq_true rfl) ⟨Nat.le_of_ble_eq_true rfl, Nat.le_of_ble_eq_true rfl⟩ ⟨show C + 0 + 2 ≤ 603072 by omega, show S + 0 + 12 ≤ 7149674 by omega⟩ (fun r379 τ379 hp => ?_)
  refine gz_norm (st' := [.int r379]) (cells' := C + 2) (slots' := S + 12) rfl (show C + 0 + 2 = C + 2 by omega) (show S + 0 + 12 = S + 12 by omega) ?_
  refine gz_istore K [(6, .int r379), (0, .ref b), (1, .ref (ad 0)), (2, .ref (ad 43)), (3, .ref (ad 66)), (4, .ref (ad 67)), (5, .int y5)] dL_law_382 (by decide) rfl ?_
  refine gz_aload_n K dL_law_384 3 rfl ?_
  refine gz_aload_n K dL_law_385 1 rfl ?_
  refine gz_iload K dL_law_386 6 rfl ?_
  refine gz_iconst K (v := (1 : Int32)) dL_law_388 (by decide) ?_
  refine gz_iadd K dL_law_389 ?_
  obtain ⟨h, hp⟩ := hp
  refine gz_sld K hX hbl hbA h dL_law_390 ?_
  refine gz_callVc K (c_X10_store K.2.2.2.2.2 K.2.2.1 hp) cf_X10_store zq5_185 (by decide) (ce_43 _ _ _ _ _ _) rfl dL_law_391 rfl rfl (Nat.le_of_ble_eq_true rfl) ⟨Nat.le_of_ble_eq_true rfl, Nat.le_of_ble_eq_true rfl⟩ ⟨show C + 2 + 0 ≤ 603072 by omega, show S + 12 + 0 ≤ 7149674 by omega⟩ (fun _ _ h => h.elim) (fun r391 τ391 hp => ?_)
  refine gz_norm (st' := [.int r391]) (cells' := C + 2) (slots' := S + 12) rfl (show C + 2 + 0 = C + 2 by omega) (show S + 12 + 0 = S + 12 by omega) ?_
  refine gz_istore K [(7, .int r391), (6, .int r379), (0, .ref b), (1, .ref (ad 0)), (2, .ref (ad 43)), (3, .ref (ad 66)), (4, .ref (ad 67)), (5, .int y5)] dL_law_394 (by decide) rfl ?_
  refine gz_aload_n K dL_law_396 4 rfl ?_
  refine gz_callVc K (c_X10_thrown K.2.2.2.2.2 K.2.2.1 hp) cf_X10_thrown zq5_138 (by decide) (ce_43 _ _ _ _ _ _) rfl dL_law_397 rfl rfl (Nat.le_of_ble_eq_true rfl) ⟨Nat.le_of_ble_eq_true rfl, Nat.le_of_ble_eq_true rfl⟩ ⟨show C + 2 + 0 ≤ 603072 by omega, show S + 12 + 0 ≤ 7149674 by omega⟩ (fun _ _ h => h.elim) (fun r397 τ hp => ?_)
  obtain ⟨rfl, hp⟩ := hp
  refine gz_norm (st' := [.int r397]) (cells' := C + 2) (slots' := S + 12) rfl (show C + 2 + 0 = C + 2 by omega) (show S + 12 + 0 = S + 12 by omega) ?_
  refine gz_iload K dL_law_400 1 rfl ?_
  refine gz_icmp_eq K 407 dL_law_402 (by decide) (fun h => ?_) (fun h => ?_)
  · have hp := hp.1 h
    refine gz_iload K dL_law_407 1 rfl ?_
    refine gz_if_ne K 424 dL_law_409 (by decide) (fun h => ?_) (fun h => ?_)
    · have hp := hp.1 h
      refine gz_goto K 1933 dL_law_424 (by decide) ?_
      refine gz_iinc K (v := (y5 + (4))) [(5, .int (y5 + (4))), (7, .int r391), (6, .int r379), (0, .ref b), (1, .ref (ad 0)), (2, .ref (ad 43)), (3, .ref (ad 66)), (4, .ref (ad 67))] dL_law_1933 7 rfl rfl (by decide) rfl ?_
      refine gz_goto K 28 dL_law_1936 (by decide) ?_
      refine gz_widen (k := C + 20) (n := S + 200) (show C + 2 ≤ C + 20 by omega) (show S + 12 ≤ S + 200 by omega) ?_
      refine gz_sub [3, 4, 5, 6, 7, 0] rfl ?_
      exact ih τ391 (y5 + (4)) hp
    · have hp := hp.2 h
      refine gz_aload_n K dL_law_412 5 rfl ?_
      refine gz_iconst K (v := (0 : Int32)) dL_law_413 (by decide) ?_
      refine gz_lald K (by decide) (ce_66 _ _ _ _ _ _) (by unfold vp_in; decide) dL_law_414 ?_
      refine gz_iload K dL_law_415 0 rfl ?_
      refine gz_i2l K dL_law_417 ?_
      refine gz_lcmp K dL_law_418 ?_
      refine gz_if_eq K 424 dL_law_419 (by decide) (fun h => ?_) (fun h => ?_)
      · have hp := hp.1 h
        refine gz_goto K 1933 dL_law_424 (by decide) ?_
        refine gz_iinc K (v := (y5 + (4))) [(5, .int (y5 + (4))), (7, .int r391), (6, .int r379), (0, .ref b), (1, .ref (ad 0)), (2, .ref (ad 43)), (3, .ref (ad 66)), (4, .ref (ad 67))] dL_law_1933 7 rfl rfl (by decide) rfl ?_
        refine gz_goto K 28 dL_law_1936 (by decide) ?_
        refine gz_widen (k := C + 20) (n := S + 200) (show C + 2 ≤ C + 20 by omega) (show S + 12 ≤ S + 200 by omega) ?_
        refine gz_sub [3, 4, 5, 6, 7, 0] rfl ?_
        exact ih τ391 (y5 + (4)) hp
      · have hp := hp.2 h
        refine gz_iconst K (v := (0 : Int32)) dL_law_422 (by decide) ?_
        exact False.elim hp
  · have hp := hp.2 h
    refine gz_iconst K (v := (0 : Int32)) dL_law_405 (by decide) ?_
    exact False.elim hp
set_option maxRecDepth 100000 in
set_option maxHeartbeats 4000000 in
theorem law_427 {p : Program} {l : Launch} {e : Env} {s : State} {m : MethodId} {below : List Frame} {meth : Method} {c : Code} {D : va_G} {ad : Nat → Nat} {ty : Nat → ClassId} {b L : Nat} {xs : Nat → Int32} (K : Kz p l s m #[.ref b] meth c D ad ty code 10 RL) (hr : meth.sig.returnType = ret) (had : ∀ k, k < 68 → s.heap.size ≤ ad k) (hX : va_X b L xs s s.heap) (hbl : b < s.heap.size) (hbA : ¬ Az ad s.heap.size b) {rc : Dz → Int32 → Prop} {C S : Nat} (hC : C + 20 ≤ 603072) (hS : S + 200 ≤ 7149674) (ih : ∀ σ y5, rc σ y5 → Gz p l e room_1 s m #[.ref b] below meth c D ad ty 10 (C + 20) (S + 200) (lw_Z below #[.ref b] s) σ 28 [(0, .ref b), (1, .ref (ad 0)), (2, .ref (ad 43)), (3, .ref (ad 66)), (4, .ref (ad 67)), (5, .int y5)] []) {σ : Dz} {y5 : Int32} (hp : B_L_law_427 L xs rc σ y5) : Gz p l e room_1 s m #[.ref b] below meth c D ad ty 10 C S (lw_Z below #[.ref b] s) σ 427 [(0, .ref b), (1, .ref (ad 0)), (2, .ref (ad 43)), (3, .ref (ad 66)), (4, .ref (ad 67)), (5, .int y5)] [] := by
  unfold B_L_law_427 at hp
  refine gz_norm (st' := []) (cells' := C + 0) (slots' := S + 0) rfl rfl rfl ?_
  refine gz_aload_n K dL_law_427 1 rfl ?_
  refine gz_aload_n K dL_law_428 3 rfl ?_
  refine gz_callWq K (c_L_errorPosition K.2.2.2.2.2 K.2.2.1 hp) cf_L_errorPosition zq3_197 dL_law_429 rfl rfl (Nat.le_of_ble_eq_true rfl) ⟨Nat.le_of_ble_eq_true rfl, Nat.le_of_ble_eq_true rfl⟩ ⟨show C + 0 + 1 ≤ 603072 by omega, show S + 0 + 6 ≤ 7149674 by omega⟩ (fun r429 τ429 hp => ?_)
  refine gz_norm (st' := [.int r429]) (cells' := C + 1) (slots' := S + 6) rfl (show C + 0 + 1 = C + 1 by omega) (show S + 0 + 6 = S + 6 by omega) ?_
  refine gz_istore K [(6, .int r429), (0, .ref b), (1, .ref (ad 0)), (2, .ref (ad 43)), (3, .ref (ad 66)), (4, .ref (ad 67)), (5, .int y5)] dL_law_432 (by decide) rfl ?_
  refine gz_aload_n K dL_law_434 3 rfl ?_
  refine gz_callVc K (c_X10_errorPosition K.2.2.2.2.2 K.2.2.1 hp) cf_X10_errorPosition zq5_222 (by decide) (ce_43 _ _ _ _ _ _) rfl dL_law_435 rfl rfl (Nat.le_of_ble_eq_true rfl) ⟨Nat.le_of_ble_eq_true rfl, Nat.le_of_ble_eq_true rfl⟩ ⟨show C + 1 + 0 ≤ 603072 by omega, show S + 6 + 0 ≤ 7149674 by omega⟩ (fun _ _ h => h.elim) (fun r435 τ435 hp => ?_)
  refine gz_norm (st' := [.int r435]) (cells' := C + 1) (slots' := S + 6) rfl (show C + 1 + 0 = C + 1 by omega) (show S + 6 + 0 = S + 6 by omega) ?_
  refine gz_istore K [(7, .int r435), (6, .int r429), (0, .ref b), (1, .ref (ad 0)), (2, .ref (ad 43)), (3, .ref (ad 66)), (4, .ref (ad 67)), (5, .int y5)] dL_law_438 (by decide) rfl ?_
  refine gz_aload_n K dL_law_440 4 rfl ?_
  refine gz_callVc K (c_X10_thrown K.2.2.2.2.2 K.2.2.1 hp) cf_X10_thrown zq5_138 (by decide) (ce_43 _ _ _ _ _ _) rfl dL_law_441 rfl rfl (Nat.le_of_ble_eq_true rfl) ⟨Nat.le_of_ble_eq_true rfl, Nat.le_of_ble_eq_true rfl⟩ ⟨show C + 1 + 0 ≤ 603072 by omega, show S + 6 + 0 ≤ 7149674 by omega⟩ (fun _ _ h => h.elim) (fun r441 τ hp => ?_)
  obtain ⟨rfl, hp⟩ := hp
  refine gz_norm (st' := [.int r441]) (cells' := C + 1) (slots' := S + 6) rfl (show C + 1 + 0 = C + 1 by omega) (show S + 6 + 0 = S + 6 by omega) ?_
  refine gz_iload K dL_law_444 1 rfl ?_
  refine gz_icmp_eq K 451 dL_law_446 (by decide) (fun h => ?_) (fun h => ?_)
  · have hp := hp.1 h
    refine gz_iload K dL_law_451 1 rfl ?_
    refine gz_if_ne K 468 dL_law_453 (by decide) (fun h => ?_) (fun h => ?_)
    · have hp := hp.1 h
      refine gz_goto K 1933 dL_law_468 (by decide) ?_
      refine gz_iinc K (v := (y5 + (4))) [(5, .int (y5 + (4))), (7, .int r435), (6, .int r429), (0, .ref b), (1, .ref (ad 0)), (2, .ref (ad 43)), (3, .ref (ad 66)), (4, .ref (ad 67))] dL_law_1933 7 rfl rfl (by decide) rfl ?_
      refine gz_goto K 28 dL_law_1936 (by decide) ?_
      refine gz_widen (k := C + 20) (n := S + 200) (show C + 1 ≤ C + 20 by omega) (show S + 6 ≤ S + 200 by omega) ?_
      refine gz_sub [3, 4, 5, 6, 7, 0] rfl ?_
      exact ih τ435 (y5 + (4)) hp
    · have hp := hp.2 h
      refine gz_aload_n K dL_law_456 5 rfl ?_
      refine gz_iconst K (v := (0 : Int32)) dL_law_457 (by decide) ?_
      refine gz_lald K (by decide) (ce_66 _ _ _ _ _ _) (by unfold vp_in; decide) dL_law_458 ?_
      refine gz_iload K dL_law_459 0 rfl ?_
      refine gz_i2l K dL_law_461 ?_
      refine gz_lcmp K dL_law_462 ?_
      refine gz_if_eq K 468 dL_law_463 (by decide) (fun h => ?_) (fun h => ?_)
      · have hp := hp.1 h
        refine gz_goto K 1933 dL_law_468 (by decide) ?_
        refine gz_iinc K (v := (y5 + (4))) [(5, .int (y5 + (4))), (7, .int r435), (6, .int r429), (0, .ref b), (1, .ref (ad 0)), (2, .ref (ad 43)), (3, .ref (ad 66)), (4, .ref (ad 67))] dL_law_1933 7 rfl rfl (by decide) rfl ?_
        refine gz_goto K 28 dL_law_1936 (by decide) ?_
        refine gz_widen (k := C + 20) (n := S + 200) (show C + 1 ≤ C + 20 by omega) (show S + 6 ≤ S + 200 by omega) ?_
        refine gz_sub [3, 4, 5, 6, 7, 0] rfl ?_
        exact ih τ435 (y5 + (4)) hp
      · have hp := hp.2 h
        refine gz_iconst K (v := (0 : Int32)) dL_law_466 (by decide) ?_
        exact False.elim hp
  · have hp := hp.2 h
    refine gz_iconst K (v := (0 : Int32)) dL_law_449 (by decide) ?_
    exact False.elim hp
set_option maxRecDepth 100000 in
set_option maxHeartbeats 4000000 in
theorem law_471 {p : Program} {l : Launch} {e : Env} {s : State} {m : MethodId} {below : List Frame} {meth : Method} {c : Code} {D : va_G} {ad : Nat → Nat} {ty : Nat → ClassId} {b L : Nat} {xs : Nat → Int32} (K : Kz p l s m #[.ref b] meth c D ad ty code 10 RL) (hr : meth.sig.returnType = ret) (had : ∀ k, k < 68 → s.heap.size ≤ ad k) (hX : va_X b L xs s s.heap) (hbl : b < s.heap.size) (hbA : ¬ Az ad s.heap.size b) {rc : Dz → Int32 → Prop} {C S : Nat} (hC : C + 20 ≤ 603072) (hS : S + 200 ≤ 7149674) (ih : ∀ σ y5, rc σ y5 → Gz p l e room_1 s m #[.ref b] below meth c D ad ty 10 (C + 20) (S + 200) (lw_Z below #[.ref b] s) σ 28 [(0, .ref b), (1, .ref (ad 0)), (2, .ref (ad 43)), (3, .ref (ad 66)), (4, .ref (ad 67)), (5, .int y5)] []) {σ : Dz} {y5 : Int32} (hp : B_L_law_471 L xs rc σ y5) : Gz p l e room_1 s m #[.ref b] below meth c D ad ty 10 C S (lw_Z below #[.ref b] s) σ 471 [(0, .ref b), (1, .ref (ad 0)), (2, .ref (ad 43)), (3, .ref (ad 66)), (4, .ref (ad 67)), (5, .int y5)] [] := by
  unfold B_L_law_471 at hp
  refine gz_norm (st' := []) (cells' := C + 0) (slots' := S + 0) rfl rfl rfl ?_
  refine gz_aload_n K dL_law_471 1 rfl ?_
  refine gz_aload_n K dL_law_472 0 rfl ?_
  refine gz_iload K dL_law_473 5 rfl ?_
  refine gz_iconst K (v := (1 : Int32)) dL_law_475 (by decide) ?_
  refine gz_iadd K dL_law_476 ?_
  obtain ⟨h, hp⟩ := hp
  refine gz_sld K hX hbl hbA h dL_law_477 ?_
  refine gz_aload_n K dL_law_478 0 rfl ?_
  refine gz_iload K dL_law_479 5 rfl ?_
  refine gz_iconst K (v := (2 : Int32)) dL_law_481 (by decide) ?_
  refine gz_iadd K dL_law_482 ?_
  obtain ⟨h, hp⟩ := hp
  refine gz_sld K hX hbl hbA h dL_law_483 ?_
  refine gz_aload_n K dL_law_484 3 rfl ?_
  refine gz_callWq K (c_L_target K.2.2.2.2.2 K.2.2.1 hp) cf_L_target zq3_221 dL_law_485 rfl rfl (Nat.le_of_ble_eq_true rfl) ⟨Nat.le_of_ble_eq_true rfl, Nat.le_of_ble_eq_true rfl⟩ ⟨show C + 0 + 3 ≤ 603072 by omega, show S + 0 + 18 ≤ 7149674 by omega⟩ (fun r485 τ485 hp => ?_)
  refine gz_norm (st' := [.int r485]) (cells' := C + 3) (slots' := S + 18) rfl (show C + 0 + 3 = C + 3 by omega) (show S + 0 + 18 = S + 18 by omega) ?_
  refine gz_istore K [(6, .int r485), (0, .ref b), (1, .ref (ad 0)), (2, .ref (ad 43)), (3, .ref (ad 66)), (4, .ref (ad 67)), (5, .int y5)] dL_law_488 (by decide) rfl ?_
  refine gz_aload_n K dL_law_490 3 rfl ?_
  refine gz_aload_n K dL_law_491 1 rfl ?_
  refine gz_iload K dL_law_492 6 rfl ?_
  refine gz_iconst K (v := (1 : Int32)) dL_law_494 (by decide) ?_
  refine gz_iadd K dL_law_495 ?_
  obtain ⟨h, hp⟩ := hp
  refine gz_sld K hX hbl hbA h dL_law_496 ?_
  refine gz_aload_n K dL_law_497 1 rfl ?_
  refine gz_iload K dL_law_498 6 rfl ?_
  refine gz_iconst K (v := (2 : Int32)) dL_law_500 (by decide) ?_
  refine gz_iadd K dL_law_501 ?_
  obtain ⟨h, hp⟩ := hp
  refine gz_sld K hX hbl hbA h dL_law_502 ?_
  refine gz_callVc K (c_X10_target K.2.2.2.2.2 K.2.2.1 hp) cf_X10_target zq5_226 (by decide) (ce_43 _ _ _ _ _ _) rfl dL_law_503 rfl rfl (Nat.le_of_ble_eq_true rfl) ⟨Nat.le_of_ble_eq_true rfl, Nat.le_of_ble_eq_true rfl⟩ ⟨show C + 3 + 0 ≤ 603072 by omega, show S + 18 + 0 ≤ 7149674 by omega⟩ (fun _ _ h => h.elim) (fun r503 τ503 hp => ?_)
  refine gz_norm (st' := [.int r503]) (cells' := C + 3) (slots' := S + 18) rfl (show C + 3 + 0 = C + 3 by omega) (show S + 18 + 0 = S + 18 by omega) ?_
  refine gz_istore K [(7, .int r503), (6, .int r485), (0, .ref b), (1, .ref (ad 0)), (2, .ref (ad 43)), (3, .ref (ad 66)), (4, .ref (ad 67)), (5, .int y5)] dL_law_506 (by decide) rfl ?_
  refine gz_aload_n K dL_law_508 4 rfl ?_
  refine gz_callVc K (c_X10_thrown K.2.2.2.2.2 K.2.2.1 hp) cf_X10_thrown zq5_138 (by decide) (ce_43 _ _ _ _ _ _) rfl dL_law_509 rfl rfl (Nat.le_of_ble_eq_true rfl) ⟨Nat.le_of_ble_eq_true rfl, Nat.le_of_ble_eq_true rfl⟩ ⟨show C + 3 + 0 ≤ 603072 by omega, show S + 18 + 0 ≤ 7149674 by omega⟩ (fun _ _ h => h.elim) (fun r509 τ hp => ?_)
  obtain ⟨rfl, hp⟩ := hp
  refine gz_norm (st' := [.int r509]) (cells' := C + 3) (slots' := S + 18) rfl (show C + 3 + 0 = C + 3 by omega) (show S + 18 + 0 = S + 18 by omega) ?_
  refine gz_iload K dL_law_512 1 rfl ?_
  refine gz_icmp_eq K 519 dL_law_514 (by decide) (fun h => ?_) (fun h => ?_)
  · have hp := hp.1 h
    refine gz_iload K dL_law_519 1 rfl ?_
    refine gz_if_ne K 536 dL_law_521 (by decide) (fun h => ?_) (fun h => ?_)
    · have hp := hp.1 h
      refine gz_goto K 1933 dL_law_536 (by decide) ?_
      refine gz_iinc K (v := (y5 + (4))) [(5, .int (y5 + (4))), (7, .int r503), (6, .int r485), (0, .ref b), (1, .ref (ad 0)), (2, .ref (ad 43)), (3, .ref (ad 66)), (4, .ref (ad 67))] dL_law_1933 7 rfl rfl (by decide) rfl ?_
      refine gz_goto K 28 dL_law_1936 (by decide) ?_
      refine gz_widen (k := C + 20) (n := S + 200) (show C + 3 ≤ C + 20 by omega) (show S + 18 ≤ S + 200 by omega) ?_
      refine gz_sub [3, 4, 5, 6, 7, 0] rfl ?_
      exact ih τ503 (y5 + (4)) hp
    · have hp := hp.2 h
      refine gz_aload_n K dL_law_524 5 rfl ?_
      refine gz_iconst K (v := (0 : Int32)) dL_law_525 (by decide) ?_
      refine gz_lald K (by decide) (ce_66 _ _ _ _ _ _) (by unfold vp_in; decide) dL_law_526 ?_
      refine gz_iload K dL_law_527 0 rfl ?_
      refine gz_i2l K dL_law_529 ?_
      refine gz_lcmp K dL_law_530 ?_
      refine gz_if_eq K 536 dL_law_531 (by decide) (fun h => ?_) (fun h => ?_)
      · have hp := hp.1 h
        refine gz_goto K 1933 dL_law_536 (by decide) ?_
        refine gz_iinc K (v := (y5 + (4))) [(5, .int (y5 + (4))), (7, .int r503), (6, .int r485), (0, .ref b), (1, .ref (ad 0)), (2, .ref (ad 43)), (3, .ref (ad 66)), (4, .ref (ad 67))] dL_law_1933 7 rfl rfl (by decide) rfl ?_
        refine gz_goto K 28 dL_law_1936 (by decide) ?_
        refine gz_widen (k := C + 20) (n := S + 200) (show C + 3 ≤ C + 20 by omega) (show S + 18 ≤ S + 200 by omega) ?_
        refine gz_sub [3, 4, 5, 6, 7, 0] rfl ?_
        exact ih τ503 (y5 + (4)) hp
      · have hp := hp.2 h
        refine gz_iconst K (v := (0 : Int32)) dL_law_534 (by decide) ?_
        exact False.elim hp
  · have hp := hp.2 h
    refine gz_iconst K (v := (0 : Int32)) dL_law_517 (by decide) ?_
    exact False.elim hp
set_option maxRecDepth 100000 in
set_option maxHeartbeats 4000000 in
theorem law_539 {p : Program} {l : Launch} {e : Env} {s : State} {m : MethodId} {below : List Frame} {meth : Method} {c : Code} {D : va_G} {ad : Nat → Nat} {ty : Nat → ClassId} {b L : Nat} {xs : Nat → Int32} (K : Kz p l s m #[.ref b] meth c D ad ty code 10 RL) (hr : meth.sig.returnType = ret) (had : ∀ k, k < 68 → s.heap.size ≤ ad k) (hX : va_X b L xs s s.heap) (hbl : b < s.heap.size) (hbA : ¬ Az ad s.heap.size b) {rc : Dz → Int32 → Prop} {C S : Nat} (hC : C + 20 ≤ 603072) (hS : S + 200 ≤ 7149674) (ih : ∀ σ y5, rc σ y5 → Gz p l e room_1 s m #[.ref b] below meth c D ad ty 10 (C + 20) (S + 200) (lw_Z below #[.ref b] s) σ 28 [(0, .ref b), (1, .ref (ad 0)), (2, .ref (ad 43)), (3, .ref (ad 66)), (4, .ref (ad 67)), (5, .int y5)] []) {σ : Dz} {y5 : Int32} (hp : B_L_law_539 L xs rc σ y5) : Gz p l e room_1 s m #[.ref b] below meth c D ad ty 10 C S (lw_Z below #[.ref b] s) σ 539 [(0, .ref b), (1, .ref (ad 0)), (2, .ref (ad 43)), (3, .ref (ad 66)), (4, .ref (ad 67)), (5, .int y5)] [] := by
  unfold B_L_law_539 at hp
  refine gz_norm (st' := []) (cells' := C + 0) (slots' := S + 0) rfl rfl rfl ?_
  refine gz_aload_n K dL_law_539 1 rfl ?_
  refine gz_aload_n K dL_law_540 0 rfl ?_
  refine gz_iload K dL_law_541 5 rfl ?_
  refine gz_iconst K (v := (1 : Int32)) dL_law_543 (by decide) ?_
  refine gz_iadd K dL_law_544 ?_
  obtain ⟨h, hp⟩ := hp
  refine gz_sld K hX hbl hbA h dL_law_545 ?_
  refine gz_aload_n K dL_law_546 3 rfl ?_
  refine gz_callWq K (c_L_wordLength K.2.2.2.2.2 K.2.2.1 hp) cf_L_wordLength zq3_237 dL_law_547 rfl rfl (Nat.le_of_ble_eq_true rfl) ⟨Nat.le_of_ble_eq_true rfl, Nat.le_of_ble_eq_true rfl⟩ ⟨show C + 0 + 1 ≤ 603072 by omega, show S + 0 + 6 ≤ 7149674 by omega⟩ (fun r547 τ547 hp => ?_)
  refine gz_norm (st' := [.int r547]) (cells' := C + 1) (slots' := S + 6) rfl (show C + 0 + 1 = C + 1 by omega) (show S + 0 + 6 = S + 6 by omega) ?_
  refine gz_istore K [(6, .int r547), (0, .ref b), (1, .ref (ad 0)), (2, .ref (ad 43)), (3, .ref (ad 66)), (4, .ref (ad 67)), (5, .int y5)] dL_law_550 (by decide) rfl ?_
  refine gz_aload_n K dL_law_552 3 rfl ?_
  refine gz_aload_n K dL_law_553 1 rfl ?_
  refine gz_iload K dL_law_554 6 rfl ?_
  refine gz_iconst K (v := (1 : Int32)) dL_law_556 (by decide) ?_
  refine gz_iadd K dL_law_557 ?_
  obtain ⟨h, hp⟩ := hp
  refine gz_sld K hX hbl hbA h dL_law_558 ?_
  refine gz_callVc K (c_X10_wordLength K.2.2.2.2.2 K.2.2.1 hp) cf_X10_wordLength zq5_230 (by decide) (ce_43 _ _ _ _ _ _) rfl dL_law_559 rfl rfl (Nat.le_of_ble_eq_true rfl) ⟨Nat.le_of_ble_eq_true rfl, Nat.le_of_ble_eq_true rfl⟩ ⟨show C + 1 + 0 ≤ 603072 by omega, show S + 6 + 0 ≤ 7149674 by omega⟩ (fun _ _ h => h.elim) (fun r559 τ559 hp => ?_)
  refine gz_norm (st' := [.int r559]) (cells' := C + 1) (slots' := S + 6) rfl (show C + 1 + 0 = C + 1 by omega) (show S + 6 + 0 = S + 6 by omega) ?_
  refine gz_istore K [(7, .int r559), (6, .int r547), (0, .ref b), (1, .ref (ad 0)), (2, .ref (ad 43)), (3, .ref (ad 66)), (4, .ref (ad 67)), (5, .int y5)] dL_law_562 (by decide) rfl ?_
  refine gz_aload_n K dL_law_564 4 rfl ?_
  refine gz_callVc K (c_X10_thrown K.2.2.2.2.2 K.2.2.1 hp) cf_X10_thrown zq5_138 (by decide) (ce_43 _ _ _ _ _ _) rfl dL_law_565 rfl rfl (Nat.le_of_ble_eq_true rfl) ⟨Nat.le_of_ble_eq_true rfl, Nat.le_of_ble_eq_true rfl⟩ ⟨show C + 1 + 0 ≤ 603072 by omega, show S + 6 + 0 ≤ 7149674 by omega⟩ (fun _ _ h => h.elim) (fun r565 τ hp => ?_)
  obtain ⟨rfl, hp⟩ := hp
  refine gz_norm (st' := [.int r565]) (cells' := C + 1) (slots' := S + 6) rfl (show C + 1 + 0 = C + 1 by omega) (show S + 6 + 0 = S + 6 by omega) ?_
  refine gz_iload K dL_law_568 1 rfl ?_
  refine gz_icmp_eq K 575 dL_law_570 (by decide) (fun h => ?_) (fun h => ?_)
  · have hp := hp.1 h
    refine gz_iload K dL_law_575 1 rfl ?_
    refine gz_if_ne K 592 dL_law_577 (by decide) (fun h => ?_) (fun h => ?_)
    · have hp := hp.1 h
      refine gz_goto K 1933 dL_law_592 (by decide) ?_
      refine gz_iinc K (v := (y5 + (4))) [(5, .int (y5 + (4))), (7, .int r559), (6, .int r547), (0, .ref b), (1, .ref (ad 0)), (2, .ref (ad 43)), (3, .ref (ad 66)), (4, .ref (ad 67))] dL_law_1933 7 rfl rfl (by decide) rfl ?_
      refine gz_goto K 28 dL_law_1936 (by decide) ?_
      refine gz_widen (k := C + 20) (n := S + 200) (show C + 1 ≤ C + 20 by omega) (show S + 6 ≤ S + 200 by omega) ?_
      refine gz_sub [3, 4, 5, 6, 7, 0] rfl ?_
      exact ih τ559 (y5 + (4)) hp
    · have hp := hp.2 h
      refine gz_aload_n K dL_law_580 5 rfl ?_
      refine gz_iconst K (v := (0 : Int32)) dL_law_581 (by decide) ?_
      refine gz_lald K (by decide) (ce_66 _ _ _ _ _ _) (by unfold vp_in; decide) dL_law_582 ?_
      refine gz_iload K dL_law_583 0 rfl ?_
      refine gz_i2l K dL_law_585 ?_
      refine gz_lcmp K dL_law_586 ?_
      refine gz_if_eq K 592 dL_law_587 (by decide) (fun h => ?_) (fun h => ?_)
      · have hp := hp.1 h
        refine gz_goto K 1933 dL_law_592 (by decide) ?_
        refine gz_iinc K (v := (y5 + (4))) [(5, .int (y5 + (4))), (7, .int r559), (6, .int r547), (0, .ref b), (1, .ref (ad 0)), (2, .ref (ad 43)), (3, .ref (ad 66)), (4, .ref (ad 67))] dL_law_1933 7 rfl rfl (by decide) rfl ?_
        refine gz_goto K 28 dL_law_1936 (by decide) ?_
        refine gz_widen (k := C + 20) (n := S + 200) (show C + 1 ≤ C + 20 by omega) (show S + 6 ≤ S + 200 by omega) ?_
        refine gz_sub [3, 4, 5, 6, 7, 0] rfl ?_
        exact ih τ559 (y5 + (4)) hp
      · have hp := hp.2 h
        refine gz_iconst K (v := (0 : Int32)) dL_law_590 (by decide) ?_
        exact False.elim hp
  · have hp := hp.2 h
    refine gz_iconst K (v := (0 : Int32)) dL_law_573 (by decide) ?_
    exact False.elim hp
set_option maxRecDepth 100000 in
set_option maxHeartbeats 4000000 in
theorem law_595 {p : Program} {l : Launch} {e : Env} {s : State} {m : MethodId} {below : List Frame} {meth : Method} {c : Code} {D : va_G} {ad : Nat → Nat} {ty : Nat → ClassId} {b L : Nat} {xs : Nat → Int32} (K : Kz p l s m #[.ref b] meth c D ad ty code 10 RL) (hr : meth.sig.returnType = ret) (had : ∀ k, k < 68 → s.heap.size ≤ ad k) (hX : va_X b L xs s s.heap) (hbl : b < s.heap.size) (hbA : ¬ Az ad s.heap.size b) {rc : Dz → Int32 → Prop} {C S : Nat} (hC : C + 20 ≤ 603072) (hS : S + 200 ≤ 7149674) (ih : ∀ σ y5, rc σ y5 → Gz p l e room_1 s m #[.ref b] below meth c D ad ty 10 (C + 20) (S + 200) (lw_Z below #[.ref b] s) σ 28 [(0, .ref b), (1, .ref (ad 0)), (2, .ref (ad 43)), (3, .ref (ad 66)), (4, .ref (ad 67)), (5, .int y5)] []) {σ : Dz} {y5 : Int32} (hp : B_L_law_595 L xs rc σ y5) : Gz p l e room_1 s m #[.ref b] below meth c D ad ty 10 C S (lw_Z below #[.ref b] s) σ 595 [(0, .ref b), (1, .ref (ad 0)), (2, .ref (ad 43)), (3, .ref (ad 66)), (4, .ref (ad 67)), (5, .int y5)] [] := by
  unfold B_L_law_595 at hp
  refine gz_norm (st' := []) (cells' := C + 0) (slots' := S + 0) rfl rfl rfl ?_
  refine gz_aload_n K dL_law_595 1 rfl ?_
  refine gz_aload_n K dL_law_596 0 rfl ?_
  refine gz_iload K dL_law_597 5 rfl ?_
  refine gz_iconst K (v := (1 : Int32)) dL_law_599 (by decide) ?_
  refine gz_iadd K dL_law_600 ?_
  obtain ⟨h, hp⟩ := hp
  refine gz_sld K hX hbl hbA h dL_law_601 ?_
  refine gz_aload_n K dL_law_602 0 rfl ?_
  refine gz_iload K dL_law_603 5 rfl ?_
  refine gz_iconst K (v := (2 : Int32)) dL_law_605 (by decide) ?_
  refine gz_iadd K dL_law_606 ?_
  obtain ⟨h, hp⟩ := hp
  refine gz_sld K hX hbl hbA h dL_law_607 ?_
  refine gz_aload_n K dL_law_608 3 rfl ?_
  refine gz_callWq K (c_L_letter K.2.2.2.2.2 K.2.2.1 hp) cf_L_letter zq4_4 dL_law_609 rfl rfl (Nat.le_of_ble_eq_true rfl) ⟨Nat.le_of_ble_eq_true rfl, Nat.le_of_ble_eq_true rfl⟩ ⟨show C + 0 + 2 ≤ 603072 by omega, show S + 0 + 12 ≤ 7149674 by omega⟩ (fun r609 τ609 hp => ?_)
  refine gz_norm (st' := [.int r609]) (cells' := C + 2) (slots' := S + 12) rfl (show C + 0 + 2 = C + 2 by omega) (show S + 0 + 12 = S + 12 by omega) ?_
  refine gz_istore K [(6, .int r609), (0, .ref b), (1, .ref (ad 0)), (2, .ref (ad 43)), (3, .ref (ad 66)), (4, .ref (ad 67)), (5, .int y5)] dL_law_612 (by decide) rfl ?_
  refine gz_aload_n K dL_law_614 3 rfl ?_
  refine gz_aload_n K dL_law_615 1 rfl ?_
  refine gz_iload K dL_law_616 6 rfl ?_
  refine gz_iconst K (v := (1 : Int32)) dL_law_618 (by decide) ?_
  refine gz_iadd K dL_law_619 ?_
  obtain ⟨h, hp⟩ := hp
  refine gz_sld K hX hbl hbA h dL_law_620 ?_
  refine gz_aload_n K dL_law_621 1 rfl ?_
  refine gz_iload K dL_law_622 6 rfl ?_
  refine gz_iconst K (v := (2 : Int32)) dL_law_624 (by decide) ?_
  refine gz_iadd K dL_law_625 ?_
  obtain ⟨h, hp⟩ := hp
  refine gz_sld K hX hbl hbA h dL_law_626 ?_
  refine gz_callVc K (c_X10_letter K.2.2.2.2.2 K.2.2.1 hp) cf_X10_letter zq5_234 (by decide) (ce_43 _ _ _ _ _ _) rfl dL_law_627 rfl rfl (Nat.le_of_ble_eq_true rfl) ⟨Nat.le_of_ble_eq_true rfl, Nat.le_of_ble_eq_true rfl⟩ ⟨show C + 2 + 0 ≤ 603072 by omega, show S + 12 + 0 ≤ 7149674 by omega⟩ (fun _ _ h => h.elim) (fun r627 τ627 hp => ?_)
  refine gz_norm (st' := [.int r627]) (cells' := C + 2) (slots' := S + 12) rfl (show C + 2 + 0 = C + 2 by omega) (show S + 12 + 0 = S + 12 by omega) ?_
  refine gz_istore K [(7, .int r627), (6, .int r609), (0, .ref b), (1, .ref (ad 0)), (2, .ref (ad 43)), (3, .ref (ad 66)), (4, .ref (ad 67)), (5, .int y5)] dL_law_630 (by decide) rfl ?_
  refine gz_aload_n K dL_law_632 4 rfl ?_
  refine gz_callVc K (c_X10_thrown K.2.2.2.2.2 K.2.2.1 hp) cf_X10_thrown zq5_138 (by decide) (ce_43 _ _ _ _ _ _) rfl dL_law_633 rfl rfl (Nat.le_of_ble_eq_true rfl) ⟨Nat.le_of_ble_eq_true rfl, Nat.le_of_ble_eq_true rfl⟩ ⟨show C + 2 + 0 ≤ 603072 by omega, show S + 12 + 0 ≤ 7149674 by omega⟩ (fun _ _ h => h.elim) (fun r633 τ hp => ?_)
  obtain ⟨rfl, hp⟩ := hp
  refine gz_norm (st' := [.int r633]) (cells' := C + 2) (slots' := S + 12) rfl (show C + 2 + 0 = C + 2 by omega) (show S + 12 + 0 = S + 12 by omega) ?_
  refine gz_iload K dL_law_636 1 rfl ?_
  refine gz_icmp_eq K 643 dL_law_638 (by decide) (fun h => ?_) (fun h => ?_)
  · have hp := hp.1 h
    refine gz_iload K dL_law_643 1 rfl ?_
    refine gz_if_ne K 660 dL_law_645 (by decide) (fun h => ?_) (fun h => ?_)
    · have hp := hp.1 h
      refine gz_goto K 1933 dL_law_660 (by decide) ?_
      refine gz_iinc K (v := (y5 + (4))) [(5, .int (y5 + (4))), (7, .int r627), (6, .int r609), (0, .ref b), (1, .ref (ad 0)), (2, .ref (ad 43)), (3, .ref (ad 66)), (4, .ref (ad 67))] dL_law_1933 7 rfl rfl (by decide) rfl ?_
      refine gz_goto K 28 dL_law_1936 (by decide) ?_
      refine gz_widen (k := C + 20) (n := S + 200) (show C + 2 ≤ C + 20 by omega) (show S + 12 ≤ S + 200 by omega) ?_
      refine gz_sub [3, 4, 5, 6, 7, 0] rfl ?_
      exact ih τ627 (y5 + (4)) hp
    · have hp := hp.2 h
      refine gz_aload_n K dL_law_648 5 rfl ?_
      refine gz_iconst K (v := (0 : Int32)) dL_law_649 (by decide) ?_
      refine gz_lald K (by decide) (ce_66 _ _ _ _ _ _) (by unfold vp_in; decide) dL_law_650 ?_
      refine gz_iload K dL_law_651 0 rfl ?_
      refine gz_i2l K dL_law_653 ?_
      refine gz_lcmp K dL_law_654 ?_
      refine gz_if_eq K 660 dL_law_655 (by decide) (fun h => ?_) (fun h => ?_)
      · have hp := hp.1 h
        refine gz_goto K 1933 dL_law_660 (by decide) ?_
        refine gz_iinc K (v := (y5 + (4))) [(5, .int (y5 + (4))), (7, .int r627), (6, .int r609), (0, .ref b), (1, .ref (ad 0)), (2, .ref (ad 43)), (3, .ref (ad 66)), (4, .ref (ad 67))] dL_law_1933 7 rfl rfl (by decide) rfl ?_
        refine gz_goto K 28 dL_law_1936 (by decide) ?_
        refine gz_widen (k := C + 20) (n := S + 200) (show C + 2 ≤ C + 20 by omega) (show S + 12 ≤ S + 200 by omega) ?_
        refine gz_sub [3, 4, 5, 6, 7, 0] rfl ?_
        exact ih τ627 (y5 + (4)) hp
      · have hp := hp.2 h
        refine gz_iconst K (v := (0 : Int32)) dL_law_658 (by decide) ?_
        exact False.elim hp
  · have hp := hp.2 h
    refine gz_iconst K (v := (0 : Int32)) dL_law_641 (by decide) ?_
    exact False.elim hp
set_option maxRecDepth 100000 in
set_option maxHeartbeats 4000000 in
theorem law_663 {p : Program} {l : Launch} {e : Env} {s : State} {m : MethodId} {below : List Frame} {meth : Method} {c : Code} {D : va_G} {ad : Nat → Nat} {ty : Nat → ClassId} {b L : Nat} {xs : Nat → Int32} (K : Kz p l s m #[.ref b] meth c D ad ty code 10 RL) (hr : meth.sig.returnType = ret) (had : ∀ k, k < 68 → s.heap.size ≤ ad k) (hX : va_X b L xs s s.heap) (hbl : b < s.heap.size) (hbA : ¬ Az ad s.heap.size b) {rc : Dz → Int32 → Prop} {C S : Nat} (hC : C + 20 ≤ 603072) (hS : S + 200 ≤ 7149674) (ih : ∀ σ y5, rc σ y5 → Gz p l e room_1 s m #[.ref b] below meth c D ad ty 10 (C + 20) (S + 200) (lw_Z below #[.ref b] s) σ 28 [(0, .ref b), (1, .ref (ad 0)), (2, .ref (ad 43)), (3, .ref (ad 66)), (4, .ref (ad 67)), (5, .int y5)] []) {σ : Dz} {y5 : Int32} (hp : B_L_law_663 L xs rc σ y5) : Gz p l e room_1 s m #[.ref b] below meth c D ad ty 10 C S (lw_Z below #[.ref b] s) σ 663 [(0, .ref b), (1, .ref (ad 0)), (2, .ref (ad 43)), (3, .ref (ad 66)), (4, .ref (ad 67)), (5, .int y5)] [] := by
  unfold B_L_law_663 at hp
  refine gz_norm (st' := []) (cells' := C + 0) (slots' := S + 0) rfl rfl rfl ?_
  refine gz_aload_n K dL_law_663 1 rfl ?_
  refine gz_aload_n K dL_law_664 0 rfl ?_
  refine gz_iload K dL_law_665 5 rfl ?_
  refine gz_iconst K (v := (1 : Int32)) dL_law_667 (by decide) ?_
  refine gz_iadd K dL_law_668 ?_
  obtain ⟨h, hp⟩ := hp
  refine gz_sld K hX hbl hbA h dL_law_669 ?_
  refine gz_aload_n K dL_law_670 0 rfl ?_
  refine gz_iload K dL_law_671 5 rfl ?_
  refine gz_iconst K (v := (2 : Int32)) dL_law_673 (by decide) ?_
  refine gz_iadd K dL_law_674 ?_
  obtain ⟨h, hp⟩ := hp
  refine gz_sld K hX hbl hbA h dL_law_675 ?_
  refine gz_aload_n K dL_law_676 3 rfl ?_
  refine gz_callWq K (c_L_invert K.2.2.2.2.2 K.2.2.1 hp) cf_L_invert zq4_13 dL_law_677 rfl rfl (Nat.le_of_ble_eq_true rfl) ⟨Nat.le_of_ble_eq_true rfl, Nat.le_of_ble_eq_true rfl⟩ ⟨show C + 0 + 2 ≤ 603072 by omega, show S + 0 + 12 ≤ 7149674 by omega⟩ (fun r677 τ677 hp => ?_)
  refine gz_norm (st' := [.int r677]) (cells' := C + 2) (slots' := S + 12) rfl (show C + 0 + 2 = C + 2 by omega) (show S + 0 + 12 = S + 12 by omega) ?_
  refine gz_istore K [(6, .int r677), (0, .ref b), (1, .ref (ad 0)), (2, .ref (ad 43)), (3, .ref (ad 66)), (4, .ref (ad 67)), (5, .int y5)] dL_law_680 (by decide) rfl ?_
  refine gz_aload_n K dL_law_682 3 rfl ?_
  refine gz_aload_n K dL_law_683 1 rfl ?_
  refine gz_iload K dL_law_684 6 rfl ?_
  refine gz_iconst K (v := (1 : Int32)) dL_law_686 (by decide) ?_
  refine gz_iadd K dL_law_687 ?_
  obtain ⟨h, hp⟩ := hp
  refine gz_sld K hX hbl hbA h dL_law_688 ?_
  refine gz_aload_n K dL_law_689 1 rfl ?_
  refine gz_iload K dL_law_690 6 rfl ?_
  refine gz_iconst K (v := (2 : Int32)) dL_law_692 (by decide) ?_
  refine gz_iadd K dL_law_693 ?_
  obtain ⟨h, hp⟩ := hp
  refine gz_sld K hX hbl hbA h dL_law_694 ?_
  refine gz_callVc K (c_X10_invert K.2.2.2.2.2 K.2.2.1 hp) cf_X10_invert zq5_238 (by decide) (ce_43 _ _ _ _ _ _) rfl dL_law_695 rfl rfl (Nat.le_of_ble_eq_true rfl) ⟨Nat.le_of_ble_eq_true rfl, Nat.le_of_ble_eq_true rfl⟩ ⟨show C + 2 + 0 ≤ 603072 by omega, show S + 12 + 0 ≤ 7149674 by omega⟩ (fun _ _ h => h.elim) (fun r695 τ695 hp => ?_)
  refine gz_norm (st' := [.int r695]) (cells' := C + 2) (slots' := S + 12) rfl (show C + 2 + 0 = C + 2 by omega) (show S + 12 + 0 = S + 12 by omega) ?_
  refine gz_istore K [(7, .int r695), (6, .int r677), (0, .ref b), (1, .ref (ad 0)), (2, .ref (ad 43)), (3, .ref (ad 66)), (4, .ref (ad 67)), (5, .int y5)] dL_law_698 (by decide) rfl ?_
  refine gz_aload_n K dL_law_700 4 rfl ?_
  refine gz_callVc K (c_X10_thrown K.2.2.2.2.2 K.2.2.1 hp) cf_X10_thrown zq5_138 (by decide) (ce_43 _ _ _ _ _ _) rfl dL_law_701 rfl rfl (Nat.le_of_ble_eq_true rfl) ⟨Nat.le_of_ble_eq_true rfl, Nat.le_of_ble_eq_true rfl⟩ ⟨show C + 2 + 0 ≤ 603072 by omega, show S + 12 + 0 ≤ 7149674 by omega⟩ (fun _ _ h => h.elim) (fun r701 τ hp => ?_)
  obtain ⟨rfl, hp⟩ := hp
  refine gz_norm (st' := [.int r701]) (cells' := C + 2) (slots' := S + 12) rfl (show C + 2 + 0 = C + 2 by omega) (show S + 12 + 0 = S + 12 by omega) ?_
  refine gz_iload K dL_law_704 1 rfl ?_
  refine gz_icmp_eq K 711 dL_law_706 (by decide) (fun h => ?_) (fun h => ?_)
  · have hp := hp.1 h
    refine gz_iload K dL_law_711 1 rfl ?_
    refine gz_if_ne K 728 dL_law_713 (by decide) (fun h => ?_) (fun h => ?_)
    · have hp := hp.1 h
      refine gz_goto K 1933 dL_law_728 (by decide) ?_
      refine gz_iinc K (v := (y5 + (4))) [(5, .int (y5 + (4))), (7, .int r695), (6, .int r677), (0, .ref b), (1, .ref (ad 0)), (2, .ref (ad 43)), (3, .ref (ad 66)), (4, .ref (ad 67))] dL_law_1933 7 rfl rfl (by decide) rfl ?_
      refine gz_goto K 28 dL_law_1936 (by decide) ?_
      refine gz_widen (k := C + 20) (n := S + 200) (show C + 2 ≤ C + 20 by omega) (show S + 12 ≤ S + 200 by omega) ?_
      refine gz_sub [3, 4, 5, 6, 7, 0] rfl ?_
      exact ih τ695 (y5 + (4)) hp
    · have hp := hp.2 h
      refine gz_aload_n K dL_law_716 5 rfl ?_
      refine gz_iconst K (v := (0 : Int32)) dL_law_717 (by decide) ?_
      refine gz_lald K (by decide) (ce_66 _ _ _ _ _ _) (by unfold vp_in; decide) dL_law_718 ?_
      refine gz_iload K dL_law_719 0 rfl ?_
      refine gz_i2l K dL_law_721 ?_
      refine gz_lcmp K dL_law_722 ?_
      refine gz_if_eq K 728 dL_law_723 (by decide) (fun h => ?_) (fun h => ?_)
      · have hp := hp.1 h
        refine gz_goto K 1933 dL_law_728 (by decide) ?_
        refine gz_iinc K (v := (y5 + (4))) [(5, .int (y5 + (4))), (7, .int r695), (6, .int r677), (0, .ref b), (1, .ref (ad 0)), (2, .ref (ad 43)), (3, .ref (ad 66)), (4, .ref (ad 67))] dL_law_1933 7 rfl rfl (by decide) rfl ?_
        refine gz_goto K 28 dL_law_1936 (by decide) ?_
        refine gz_widen (k := C + 20) (n := S + 200) (show C + 2 ≤ C + 20 by omega) (show S + 12 ≤ S + 200 by omega) ?_
        refine gz_sub [3, 4, 5, 6, 7, 0] rfl ?_
        exact ih τ695 (y5 + (4)) hp
      · have hp := hp.2 h
        refine gz_iconst K (v := (0 : Int32)) dL_law_726 (by decide) ?_
        exact False.elim hp
  · have hp := hp.2 h
    refine gz_iconst K (v := (0 : Int32)) dL_law_709 (by decide) ?_
    exact False.elim hp
set_option maxRecDepth 100000 in
set_option maxHeartbeats 4000000 in
theorem law_731 {p : Program} {l : Launch} {e : Env} {s : State} {m : MethodId} {below : List Frame} {meth : Method} {c : Code} {D : va_G} {ad : Nat → Nat} {ty : Nat → ClassId} {b L : Nat} {xs : Nat → Int32} (K : Kz p l s m #[.ref b] meth c D ad ty code 10 RL) (hr : meth.sig.returnType = ret) (had : ∀ k, k < 68 → s.heap.size ≤ ad k) (hX : va_X b L xs s s.heap) (hbl : b < s.heap.size) (hbA : ¬ Az ad s.heap.size b) {rc : Dz → Int32 → Prop} {C S : Nat} (hC : C + 20 ≤ 603072) (hS : S + 200 ≤ 7149674) (ih : ∀ σ y5, rc σ y5 → Gz p l e room_1 s m #[.ref b] below meth c D ad ty 10 (C + 20) (S + 200) (lw_Z below #[.ref b] s) σ 28 [(0, .ref b), (1, .ref (ad 0)), (2, .ref (ad 43)), (3, .ref (ad 66)), (4, .ref (ad 67)), (5, .int y5)] []) {σ : Dz} {y5 : Int32} (hp : B_L_law_731 L xs rc σ y5) : Gz p l e room_1 s m #[.ref b] below meth c D ad ty 10 C S (lw_Z below #[.ref b] s) σ 731 [(0, .ref b), (1, .ref (ad 0)), (2, .ref (ad 43)), (3, .ref (ad 66)), (4, .ref (ad 67)), (5, .int y5)] [] := by
  unfold B_L_law_731 at hp
  refine gz_norm (st' := []) (cells' := C + 0) (slots' := S + 0) rfl rfl rfl ?_
  refine gz_aload_n K dL_law_731 1 rfl ?_
  refine gz_aload_n K dL_law_732 0 rfl ?_
  refine gz_iload K dL_law_733 5 rfl ?_
  refine gz_iconst K (v := (1 : Int32)) dL_law_735 (by decide) ?_
  refine gz_iadd K dL_law_736 ?_
  obtain ⟨h, hp⟩ := hp
  refine gz_sld K hX hbl hbA h dL_law_737 ?_
  refine gz_aload_n K dL_law_738 0 rfl ?_
  refine gz_iload K dL_law_739 5 rfl ?_
  refine gz_iconst K (v := (2 : Int32)) dL_law_741 (by decide) ?_
  refine gz_iadd K dL_law_742 ?_
  obtain ⟨h, hp⟩ := hp
  refine gz_sld K hX hbl hbA h dL_law_743 ?_
  refine gz_aload_n K dL_law_744 0 rfl ?_
  refine gz_iload K dL_law_745 5 rfl ?_
  refine gz_iconst K (v := (3 : Int32)) dL_law_747 (by decide) ?_
  refine gz_iadd K dL_law_748 ?_
  obtain ⟨h, hp⟩ := hp
  refine gz_sld K hX hbl hbA h dL_law_749 ?_
  refine gz_aload_n K dL_law_750 3 rfl ?_
  refine gz_callWq K (c_L_conjugate K.2.2.2.2.2 K.2.2.1 hp) cf_L_conjugate zq4_25 dL_law_751 rfl rfl (Nat.le_of_ble_eq_true rfl) ⟨Nat.le_of_ble_eq_true rfl, Nat.le_of_ble_eq_true rfl⟩ ⟨show C + 0 + 4 ≤ 603072 by omega, show S + 0 + 24 ≤ 7149674 by omega⟩ (fun r751 τ751 hp => ?_)
  refine gz_norm (st' := [.int r751]) (cells' := C + 4) (slots' := S + 24) rfl (show C + 0 + 4 = C + 4 by omega) (show S + 0 + 24 = S + 24 by omega) ?_
  refine gz_istore K [(6, .int r751), (0, .ref b), (1, .ref (ad 0)), (2, .ref (ad 43)), (3, .ref (ad 66)), (4, .ref (ad 67)), (5, .int y5)] dL_law_754 (by decide) rfl ?_
  refine gz_aload_n K dL_law_756 3 rfl ?_
  refine gz_aload_n K dL_law_757 1 rfl ?_
  refine gz_iload K dL_law_758 6 rfl ?_
  refine gz_iconst K (v := (1 : Int32)) dL_law_760 (by decide) ?_
  refine gz_iadd K dL_law_761 ?_
  obtain ⟨h, hp⟩ := hp
  refine gz_sld K hX hbl hbA h dL_law_762 ?_
  refine gz_aload_n K dL_law_763 1 rfl ?_
  refine gz_iload K dL_law_764 6 rfl ?_
  refine gz_iconst K (v := (2 : Int32)) dL_law_766 (by decide) ?_
  refine gz_iadd K dL_law_767 ?_
  obtain ⟨h, hp⟩ := hp
  refine gz_sld K hX hbl hbA h dL_law_768 ?_
  refine gz_aload_n K dL_law_769 1 rfl ?_
  refine gz_iload K dL_law_770 6 rfl ?_
  refine gz_iconst K (v := (3 : Int32)) dL_law_772 (by decide) ?_
  refine gz_iadd K dL_law_773 ?_
  obtain ⟨h, hp⟩ := hp
  refine gz_sld K hX hbl hbA h dL_law_774 ?_
  refine gz_callVc K (c_X10_conjugate K.2.2.2.2.2 K.2.2.1 hp) cf_X10_conjugate zq6_6 (by decide) (ce_43 _ _ _ _ _ _) rfl dL_law_775 rfl rfl (Nat.le_of_ble_eq_true rfl) ⟨Nat.le_of_ble_eq_true rfl, Nat.le_of_ble_eq_true rfl⟩ ⟨show C + 4 + 0 ≤ 603072 by omega, show S + 24 + 0 ≤ 7149674 by omega⟩ (fun _ _ h => h.elim) (fun r775 τ775 hp => ?_)
  refine gz_norm (st' := [.int r775]) (cells' := C + 4) (slots' := S + 24) rfl (show C + 4 + 0 = C + 4 by omega) (show S + 24 + 0 = S + 24 by omega) ?_
  refine gz_istore K [(7, .int r775), (6, .int r751), (0, .ref b), (1, .ref (ad 0)), (2, .ref (ad 43)), (3, .ref (ad 66)), (4, .ref (ad 67)), (5, .int y5)] dL_law_778 (by decide) rfl ?_
  refine gz_aload_n K dL_law_780 4 rfl ?_
  refine gz_callVc K (c_X10_thrown K.2.2.2.2.2 K.2.2.1 hp) cf_X10_thrown zq5_138 (by decide) (ce_43 _ _ _ _ _ _) rfl dL_law_781 rfl rfl (Nat.le_of_ble_eq_true rfl) ⟨Nat.le_of_ble_eq_true rfl, Nat.le_of_ble_eq_true rfl⟩ ⟨show C + 4 + 0 ≤ 603072 by omega, show S + 24 + 0 ≤ 7149674 by omega⟩ (fun _ _ h => h.elim) (fun r781 τ hp => ?_)
  obtain ⟨rfl, hp⟩ := hp
  refine gz_norm (st' := [.int r781]) (cells' := C + 4) (slots' := S + 24) rfl (show C + 4 + 0 = C + 4 by omega) (show S + 24 + 0 = S + 24 by omega) ?_
  refine gz_iload K dL_law_784 1 rfl ?_
  refine gz_icmp_eq K 791 dL_law_786 (by decide) (fun h => ?_) (fun h => ?_)
  · have hp := hp.1 h
    refine gz_iload K dL_law_791 1 rfl ?_
    refine gz_if_ne K 808 dL_law_793 (by decide) (fun h => ?_) (fun h => ?_)
    · have hp := hp.1 h
      refine gz_goto K 1933 dL_law_808 (by decide) ?_
      refine gz_iinc K (v := (y5 + (4))) [(5, .int (y5 + (4))), (7, .int r775), (6, .int r751), (0, .ref b), (1, .ref (ad 0)), (2, .ref (ad 43)), (3, .ref (ad 66)), (4, .ref (ad 67))] dL_law_1933 7 rfl rfl (by decide) rfl ?_
      refine gz_goto K 28 dL_law_1936 (by decide) ?_
      refine gz_widen (k := C + 20) (n := S + 200) (show C + 4 ≤ C + 20 by omega) (show S + 24 ≤ S + 200 by omega) ?_
      refine gz_sub [3, 4, 5, 6, 7, 0] rfl ?_
      exact ih τ775 (y5 + (4)) hp
    · have hp := hp.2 h
      refine gz_aload_n K dL_law_796 5 rfl ?_
      refine gz_iconst K (v := (0 : Int32)) dL_law_797 (by decide) ?_
      refine gz_lald K (by decide) (ce_66 _ _ _ _ _ _) (by unfold vp_in; decide) dL_law_798 ?_
      refine gz_iload K dL_law_799 0 rfl ?_
      refine gz_i2l K dL_law_801 ?_
      refine gz_lcmp K dL_law_802 ?_
      refine gz_if_eq K 808 dL_law_803 (by decide) (fun h => ?_) (fun h => ?_)
      · have hp := hp.1 h
        refine gz_goto K 1933 dL_law_808 (by decide) ?_
        refine gz_iinc K (v := (y5 + (4))) [(5, .int (y5 + (4))), (7, .int r775), (6, .int r751), (0, .ref b), (1, .ref (ad 0)), (2, .ref (ad 43)), (3, .ref (ad 66)), (4, .ref (ad 67))] dL_law_1933 7 rfl rfl (by decide) rfl ?_
        refine gz_goto K 28 dL_law_1936 (by decide) ?_
        refine gz_widen (k := C + 20) (n := S + 200) (show C + 4 ≤ C + 20 by omega) (show S + 24 ≤ S + 200 by omega) ?_
        refine gz_sub [3, 4, 5, 6, 7, 0] rfl ?_
        exact ih τ775 (y5 + (4)) hp
      · have hp := hp.2 h
        refine gz_iconst K (v := (0 : Int32)) dL_law_806 (by decide) ?_
        exact False.elim hp
  · have hp := hp.2 h
    refine gz_iconst K (v := (0 : Int32)) dL_law_789 (by decide) ?_
    exact False.elim hp
set_option maxRecDepth 100000 in
set_option maxHeartbeats 4000000 in
theorem law_811 {p : Program} {l : Launch} {e : Env} {s : State} {m : MethodId} {below : List Frame} {meth : Method} {c : Code} {D : va_G} {ad : Nat → Nat} {ty : Nat → ClassId} {b L : Nat} {xs : Nat → Int32} (K : Kz p l s m #[.ref b] meth c D ad ty code 10 RL) (hr : meth.sig.returnType = ret) (had : ∀ k, k < 68 → s.heap.size ≤ ad k) (hX : va_X b L xs s s.heap) (hbl : b < s.heap.size) (hbA : ¬ Az ad s.heap.size b) {rc : Dz → Int32 → Prop} {C S : Nat} (hC : C + 20 ≤ 603072) (hS : S + 200 ≤ 7149674) (ih : ∀ σ y5, rc σ y5 → Gz p l e room_1 s m #[.ref b] below meth c D ad ty 10 (C + 20) (S + 200) (lw_Z below #[.ref b] s) σ 28 [(0, .ref b), (1, .ref (ad 0)), (2, .ref (ad 43)), (3, .ref (ad 66)), (4, .ref (ad 67)), (5, .int y5)] []) {σ : Dz} {y5 : Int32} (hp : B_L_law_811 L xs rc σ y5) : Gz p l e room_1 s m #[.ref b] below meth c D ad ty 10 C S (lw_Z below #[.ref b] s) σ 811 [(0, .ref b), (1, .ref (ad 0)), (2, .ref (ad 43)), (3, .ref (ad 66)), (4, .ref (ad 67)), (5, .int y5)] [] := by
  unfold B_L_law_811 at hp
  refine gz_norm (st' := []) (cells' := C + 0) (slots' := S + 0) rfl rfl rfl ?_
  refine gz_aload_n K dL_law_811 1 rfl ?_
  refine gz_aload_n K dL_law_812 0 rfl ?_
  refine gz_iload K dL_law_813 5 rfl ?_
  refine gz_iconst K (v := (1 : Int32)) dL_law_815 (by decide) ?_
  refine gz_iadd K dL_law_816 ?_
  obtain ⟨h, hp⟩ := hp
  refine gz_sld K hX hbl hbA h dL_law_817 ?_
  refine gz_aload_n K dL_law_818 0 rfl ?_
  refine gz_iload K dL_law_819 5 rfl ?_
  refine gz_iconst K (v := (2 : Int32)) dL_law_821 (by decide) ?_
  refine gz_iadd K dL_law_822 ?_
  obtain ⟨h, hp⟩ := hp
  refine gz_sld K hX hbl hbA h dL_law_823 ?_
  refine gz_aload_n K dL_law_824 0 rfl ?_
  refine gz_iload K dL_law_825 5 rfl ?_
  refine gz_iconst K (v := (3 : Int32)) dL_law_827 (by decide) ?_
  refine gz_iadd K dL_law_828 ?_
  obtain ⟨h, hp⟩ := hp
  refine gz_sld K hX hbl hbA h dL_law_829 ?_
  refine gz_aload_n K dL_law_830 3 rfl ?_
  refine gz_callWq K (c_L_commutator K.2.2.2.2.2 K.2.2.1 hp) cf_L_commutator zq4_34 dL_law_831 rfl rfl (Nat.le_of_ble_eq_true rfl) ⟨Nat.le_of_ble_eq_true rfl, Nat.le_of_ble_eq_true rfl⟩ ⟨show C + 0 + 4 ≤ 603072 by omega, show S + 0 + 24 ≤ 7149674 by omega⟩ (fun r831 τ831 hp => ?_)
  refine gz_norm (st' := [.int r831]) (cells' := C + 4) (slots' := S + 24) rfl (show C + 0 + 4 = C + 4 by omega) (show S + 0 + 24 = S + 24 by omega) ?_
  refine gz_istore K [(6, .int r831), (0, .ref b), (1, .ref (ad 0)), (2, .ref (ad 43)), (3, .ref (ad 66)), (4, .ref (ad 67)), (5, .int y5)] dL_law_834 (by decide) rfl ?_
  refine gz_aload_n K dL_law_836 3 rfl ?_
  refine gz_aload_n K dL_law_837 1 rfl ?_
  refine gz_iload K dL_law_838 6 rfl ?_
  refine gz_iconst K (v := (1 : Int32)) dL_law_840 (by decide) ?_
  refine gz_iadd K dL_law_841 ?_
  obtain ⟨h, hp⟩ := hp
  refine gz_sld K hX hbl hbA h dL_law_842 ?_
  refine gz_aload_n K dL_law_843 1 rfl ?_
  refine gz_iload K dL_law_844 6 rfl ?_
  refine gz_iconst K (v := (2 : Int32)) dL_law_846 (by decide) ?_
  refine gz_iadd K dL_law_847 ?_
  obtain ⟨h, hp⟩ := hp
  refine gz_sld K hX hbl hbA h dL_law_848 ?_
  refine gz_aload_n K dL_law_849 1 rfl ?_
  refine gz_iload K dL_law_850 6 rfl ?_
  refine gz_iconst K (v := (3 : Int32)) dL_law_852 (by decide) ?_
  refine gz_iadd K dL_law_853 ?_
  obtain ⟨h, hp⟩ := hp
  refine gz_sld K hX hbl hbA h dL_law_854 ?_
  refine gz_callVc K (c_X10_commutator K.2.2.2.2.2 K.2.2.1 hp) cf_X10_commutator zq6_10 (by decide) (ce_43 _ _ _ _ _ _) rfl dL_law_855 rfl rfl (Nat.le_of_ble_eq_true rfl) ⟨Nat.le_of_ble_eq_true rfl, Nat.le_of_ble_eq_true rfl⟩ ⟨show C + 4 + 0 ≤ 603072 by omega, show S + 24 + 0 ≤ 7149674 by omega⟩ (fun _ _ h => h.elim) (fun r855 τ855 hp => ?_)
  refine gz_norm (st' := [.int r855]) (cells' := C + 4) (slots' := S + 24) rfl (show C + 4 + 0 = C + 4 by omega) (show S + 24 + 0 = S + 24 by omega) ?_
  refine gz_istore K [(7, .int r855), (6, .int r831), (0, .ref b), (1, .ref (ad 0)), (2, .ref (ad 43)), (3, .ref (ad 66)), (4, .ref (ad 67)), (5, .int y5)] dL_law_858 (by decide) rfl ?_
  refine gz_aload_n K dL_law_860 4 rfl ?_
  refine gz_callVc K (c_X10_thrown K.2.2.2.2.2 K.2.2.1 hp) cf_X10_thrown zq5_138 (by decide) (ce_43 _ _ _ _ _ _) rfl dL_law_861 rfl rfl (Nat.le_of_ble_eq_true rfl) ⟨Nat.le_of_ble_eq_true rfl, Nat.le_of_ble_eq_true rfl⟩ ⟨show C + 4 + 0 ≤ 603072 by omega, show S + 24 + 0 ≤ 7149674 by omega⟩ (fun _ _ h => h.elim) (fun r861 τ hp => ?_)
  obtain ⟨rfl, hp⟩ := hp
  refine gz_norm (st' := [.int r861]) (cells' := C + 4) (slots' := S + 24) rfl (show C + 4 + 0 = C + 4 by omega) (show S + 24 + 0 = S + 24 by omega) ?_
  refine gz_iload K dL_law_864 1 rfl ?_
  refine gz_icmp_eq K 871 dL_law_866 (by decide) (fun h => ?_) (fun h => ?_)
  · have hp := hp.1 h
    refine gz_iload K dL_law_871 1 rfl ?_
    refine gz_if_ne K 888 dL_law_873 (by decide) (fun h => ?_) (fun h => ?_)
    · have hp := hp.1 h
      refine gz_goto K 1933 dL_law_888 (by decide) ?_
      refine gz_iinc K (v := (y5 + (4))) [(5, .int (y5 + (4))), (7, .int r855), (6, .int r831), (0, .ref b), (1, .ref (ad 0)), (2, .ref (ad 43)), (3, .ref (ad 66)), (4, .ref (ad 67))] dL_law_1933 7 rfl rfl (by decide) rfl ?_
      refine gz_goto K 28 dL_law_1936 (by decide) ?_
      refine gz_widen (k := C + 20) (n := S + 200) (show C + 4 ≤ C + 20 by omega) (show S + 24 ≤ S + 200 by omega) ?_
      refine gz_sub [3, 4, 5, 6, 7, 0] rfl ?_
      exact ih τ855 (y5 + (4)) hp
    · have hp := hp.2 h
      refine gz_aload_n K dL_law_876 5 rfl ?_
      refine gz_iconst K (v := (0 : Int32)) dL_law_877 (by decide) ?_
      refine gz_lald K (by decide) (ce_66 _ _ _ _ _ _) (by unfold vp_in; decide) dL_law_878 ?_
      refine gz_iload K dL_law_879 0 rfl ?_
      refine gz_i2l K dL_law_881 ?_
      refine gz_lcmp K dL_law_882 ?_
      refine gz_if_eq K 888 dL_law_883 (by decide) (fun h => ?_) (fun h => ?_)
      · have hp := hp.1 h
        refine gz_goto K 1933 dL_law_888 (by decide) ?_
        refine gz_iinc K (v := (y5 + (4))) [(5, .int (y5 + (4))), (7, .int r855), (6, .int r831), (0, .ref b), (1, .ref (ad 0)), (2, .ref (ad 43)), (3, .ref (ad 66)), (4, .ref (ad 67))] dL_law_1933 7 rfl rfl (by decide) rfl ?_
        refine gz_goto K 28 dL_law_1936 (by decide) ?_
        refine gz_widen (k := C + 20) (n := S + 200) (show C + 4 ≤ C + 20 by omega) (show S + 24 ≤ S + 200 by omega) ?_
        refine gz_sub [3, 4, 5, 6, 7, 0] rfl ?_
        exact ih τ855 (y5 + (4)) hp
      · have hp := hp.2 h
        refine gz_iconst K (v := (0 : Int32)) dL_law_886 (by decide) ?_
        exact False.elim hp
  · have hp := hp.2 h
    refine gz_iconst K (v := (0 : Int32)) dL_law_869 (by decide) ?_
    exact False.elim hp
set_option maxRecDepth 100000 in
set_option maxHeartbeats 4000000 in
theorem law_891 {p : Program} {l : Launch} {e : Env} {s : State} {m : MethodId} {below : List Frame} {meth : Method} {c : Code} {D : va_G} {ad : Nat → Nat} {ty : Nat → ClassId} {b L : Nat} {xs : Nat → Int32} (K : Kz p l s m #[.ref b] meth c D ad ty code 10 RL) (hr : meth.sig.returnType = ret) (had : ∀ k, k < 68 → s.heap.size ≤ ad k) (hX : va_X b L xs s s.heap) (hbl : b < s.heap.size) (hbA : ¬ Az ad s.heap.size b) {rc : Dz → Int32 → Prop} {C S : Nat} (hC : C + 20 ≤ 603072) (hS : S + 200 ≤ 7149674) (ih : ∀ σ y5, rc σ y5 → Gz p l e room_1 s m #[.ref b] below meth c D ad ty 10 (C + 20) (S + 200) (lw_Z below #[.ref b] s) σ 28 [(0, .ref b), (1, .ref (ad 0)), (2, .ref (ad 43)), (3, .ref (ad 66)), (4, .ref (ad 67)), (5, .int y5)] []) {σ : Dz} {y5 : Int32} (hp : B_L_law_891 L xs rc σ y5) : Gz p l e room_1 s m #[.ref b] below meth c D ad ty 10 C S (lw_Z below #[.ref b] s) σ 891 [(0, .ref b), (1, .ref (ad 0)), (2, .ref (ad 43)), (3, .ref (ad 66)), (4, .ref (ad 67)), (5, .int y5)] [] := by
  unfold B_L_law_891 at hp
  refine gz_norm (st' := []) (cells' := C + 0) (slots' := S + 0) rfl rfl rfl ?_
  refine gz_aload_n K dL_law_891 1 rfl ?_
  refine gz_aload_n K dL_law_892 0 rfl ?_
  refine gz_iload K dL_law_893 5 rfl ?_
  refine gz_iconst K (v := (1 : Int32)) dL_law_895 (by decide) ?_
  refine gz_iadd K dL_law_896 ?_
  obtain ⟨h, hp⟩ := hp
  refine gz_sld K hX hbl hbA h dL_law_897 ?_
  refine gz_aload_n K dL_law_898 3 rfl ?_
  refine gz_callWq K (c_L_order K.2.2.2.2.2 K.2.2.1 hp) cf_L_order zq4_42 dL_law_899 rfl rfl (Nat.le_of_ble_eq_true rfl) ⟨Nat.le_of_ble_eq_true rfl, Nat.le_of_ble_eq_true rfl⟩ ⟨show C + 0 + 1 ≤ 603072 by omega, show S + 0 + 6 ≤ 7149674 by omega⟩ (fun r899 τ899 hp => ?_)
  refine gz_norm (st' := [.int r899]) (cells' := C + 1) (slots' := S + 6) rfl (show C + 0 + 1 = C + 1 by omega) (show S + 0 + 6 = S + 6 by omega) ?_
  refine gz_istore K [(6, .int r899), (0, .ref b), (1, .ref (ad 0)), (2, .ref (ad 43)), (3, .ref (ad 66)), (4, .ref (ad 67)), (5, .int y5)] dL_law_902 (by decide) rfl ?_
  refine gz_aload_n K dL_law_904 3 rfl ?_
  refine gz_aload_n K dL_law_905 1 rfl ?_
  refine gz_iload K dL_law_906 6 rfl ?_
  refine gz_iconst K (v := (1 : Int32)) dL_law_908 (by decide) ?_
  refine gz_iadd K dL_law_909 ?_
  obtain ⟨h, hp⟩ := hp
  refine gz_sld K hX hbl hbA h dL_law_910 ?_
  refine gz_callVc K (c_X10_order K.2.2.2.2.2 K.2.2.1 hp) cf_X10_order zq6_14 (by decide) (ce_43 _ _ _ _ _ _) rfl dL_law_911 rfl rfl (Nat.le_of_ble_eq_true rfl) ⟨Nat.le_of_ble_eq_true rfl, Nat.le_of_ble_eq_true rfl⟩ ⟨show C + 1 + 0 ≤ 603072 by omega, show S + 6 + 0 ≤ 7149674 by omega⟩ (fun _ _ h => h.elim) (fun r911 τ911 hp => ?_)
  refine gz_norm (st' := [.int r911]) (cells' := C + 1) (slots' := S + 6) rfl (show C + 1 + 0 = C + 1 by omega) (show S + 6 + 0 = S + 6 by omega) ?_
  refine gz_istore K [(7, .int r911), (6, .int r899), (0, .ref b), (1, .ref (ad 0)), (2, .ref (ad 43)), (3, .ref (ad 66)), (4, .ref (ad 67)), (5, .int y5)] dL_law_914 (by decide) rfl ?_
  refine gz_aload_n K dL_law_916 4 rfl ?_
  refine gz_callVc K (c_X10_thrown K.2.2.2.2.2 K.2.2.1 hp) cf_X10_thrown zq5_138 (by decide) (ce_43 _ _ _ _ _ _) rfl dL_law_917 rfl rfl (Nat.le_of_ble_eq_true rfl) ⟨Nat.le_of_ble_eq_true rfl, Nat.le_of_ble_eq_true rfl⟩ ⟨show C + 1 + 0 ≤ 603072 by omega, show S + 6 + 0 ≤ 7149674 by omega⟩ (fun _ _ h => h.elim) (fun r917 τ hp => ?_)
  obtain ⟨rfl, hp⟩ := hp
  refine gz_norm (st' := [.int r917]) (cells' := C + 1) (slots' := S + 6) rfl (show C + 1 + 0 = C + 1 by omega) (show S + 6 + 0 = S + 6 by omega) ?_
  refine gz_iload K dL_law_920 1 rfl ?_
  refine gz_icmp_eq K 927 dL_law_922 (by decide) (fun h => ?_) (fun h => ?_)
  · have hp := hp.1 h
    refine gz_iload K dL_law_927 1 rfl ?_
    refine gz_if_ne K 944 dL_law_929 (by decide) (fun h => ?_) (fun h => ?_)
    · have hp := hp.1 h
      refine gz_goto K 1933 dL_law_944 (by decide) ?_
      refine gz_iinc K (v := (y5 + (4))) [(5, .int (y5 + (4))), (7, .int r911), (6, .int r899), (0, .ref b), (1, .ref (ad 0)), (2, .ref (ad 43)), (3, .ref (ad 66)), (4, .ref (ad 67))] dL_law_1933 7 rfl rfl (by decide) rfl ?_
      refine gz_goto K 28 dL_law_1936 (by decide) ?_
      refine gz_widen (k := C + 20) (n := S + 200) (show C + 1 ≤ C + 20 by omega) (show S + 6 ≤ S + 200 by omega) ?_
      refine gz_sub [3, 4, 5, 6, 7, 0] rfl ?_
      exact ih τ911 (y5 + (4)) hp
    · have hp := hp.2 h
      refine gz_aload_n K dL_law_932 5 rfl ?_
      refine gz_iconst K (v := (0 : Int32)) dL_law_933 (by decide) ?_
      refine gz_lald K (by decide) (ce_66 _ _ _ _ _ _) (by unfold vp_in; decide) dL_law_934 ?_
      refine gz_iload K dL_law_935 0 rfl ?_
      refine gz_i2l K dL_law_937 ?_
      refine gz_lcmp K dL_law_938 ?_
      refine gz_if_eq K 944 dL_law_939 (by decide) (fun h => ?_) (fun h => ?_)
      · have hp := hp.1 h
        refine gz_goto K 1933 dL_law_944 (by decide) ?_
        refine gz_iinc K (v := (y5 + (4))) [(5, .int (y5 + (4))), (7, .int r911), (6, .int r899), (0, .ref b), (1, .ref (ad 0)), (2, .ref (ad 43)), (3, .ref (ad 66)), (4, .ref (ad 67))] dL_law_1933 7 rfl rfl (by decide) rfl ?_
        refine gz_goto K 28 dL_law_1936 (by decide) ?_
        refine gz_widen (k := C + 20) (n := S + 200) (show C + 1 ≤ C + 20 by omega) (show S + 6 ≤ S + 200 by omega) ?_
        refine gz_sub [3, 4, 5, 6, 7, 0] rfl ?_
        exact ih τ911 (y5 + (4)) hp
      · have hp := hp.2 h
        refine gz_iconst K (v := (0 : Int32)) dL_law_942 (by decide) ?_
        exact False.elim hp
  · have hp := hp.2 h
    refine gz_iconst K (v := (0 : Int32)) dL_law_925 (by decide) ?_
    exact False.elim hp
set_option maxRecDepth 100000 in
set_option maxHeartbeats 4000000 in
theorem law_947 {p : Program} {l : Launch} {e : Env} {s : State} {m : MethodId} {below : List Frame} {meth : Method} {c : Code} {D : va_G} {ad : Nat → Nat} {ty : Nat → ClassId} {b L : Nat} {xs : Nat → Int32} (K : Kz p l s m #[.ref b] meth c D ad ty code 10 RL) (hr : meth.sig.returnType = ret) (had : ∀ k, k < 68 → s.heap.size ≤ ad k) (hX : va_X b L xs s s.heap) (hbl : b < s.heap.size) (hbA : ¬ Az ad s.heap.size b) {rc : Dz → Int32 → Prop} {C S : Nat} (hC : C + 20 ≤ 603072) (hS : S + 200 ≤ 7149674) (ih : ∀ σ y5, rc σ y5 → Gz p l e room_1 s m #[.ref b] below meth c D ad ty 10 (C + 20) (S + 200) (lw_Z below #[.ref b] s) σ 28 [(0, .ref b), (1, .ref (ad 0)), (2, .ref (ad 43)), (3, .ref (ad 66)), (4, .ref (ad 67)), (5, .int y5)] []) {σ : Dz} {y5 : Int32} (hp : B_L_law_947 L xs rc σ y5) : Gz p l e room_1 s m #[.ref b] below meth c D ad ty 10 C S (lw_Z below #[.ref b] s) σ 947 [(0, .ref b), (1, .ref (ad 0)), (2, .ref (ad 43)), (3, .ref (ad 66)), (4, .ref (ad 67)), (5, .int y5)] [] := by
  unfold B_L_law_947 at hp
  refine gz_norm (st' := []) (cells' := C + 0) (slots' := S + 0) rfl rfl rfl ?_
  refine gz_aload_n K dL_law_947 1 rfl ?_
  refine gz_aload_n K dL_law_948 0 rfl ?_
  refine gz_iload K dL_law_949 5 rfl ?_
  refine gz_iconst K (v := (1 : Int32)) dL_law_951 (by decide) ?_
  refine gz_iadd K dL_law_952 ?_
  obtain ⟨h, hp⟩ := hp
  refine gz_sld K hX hbl hbA h dL_law_953 ?_
  refine gz_aload_n K dL_law_954 3 rfl ?_
  refine gz_callWq K (c_L_isOdd K.2.2.2.2.2 K.2.2.1 hp) cf_L_isOdd zq4_63 dL_law_955 rfl rfl (Nat.le_of_ble_eq_true rfl) ⟨Nat.le_of_ble_eq_true rfl, Nat.le_of_ble_eq_true rfl⟩ ⟨show C + 0 + 1 ≤ 603072 by omega, show S + 0 + 6 ≤ 7149674 by omega⟩ (fun r955 τ955 hp => ?_)
  refine gz_norm (st' := [.int r955]) (cells' := C + 1) (slots' := S + 6) rfl (show C + 0 + 1 = C + 1 by omega) (show S + 0 + 6 = S + 6 by omega) ?_
  refine gz_istore K [(6, .int r955), (0, .ref b), (1, .ref (ad 0)), (2, .ref (ad 43)), (3, .ref (ad 66)), (4, .ref (ad 67)), (5, .int y5)] dL_law_958 (by decide) rfl ?_
  refine gz_aload_n K dL_law_960 3 rfl ?_
  refine gz_aload_n K dL_law_961 1 rfl ?_
  refine gz_iload K dL_law_962 6 rfl ?_
  refine gz_iconst K (v := (1 : Int32)) dL_law_964 (by decide) ?_
  refine gz_iadd K dL_law_965 ?_
  obtain ⟨h, hp⟩ := hp
  refine gz_sld K hX hbl hbA h dL_law_966 ?_
  refine gz_callVc K (c_X10_isOdd K.2.2.2.2.2 K.2.2.1 hp) cf_X10_isOdd zq6_26 (by decide) (ce_43 _ _ _ _ _ _) rfl dL_law_967 rfl rfl (Nat.le_of_ble_eq_true rfl) ⟨Nat.le_of_ble_eq_true rfl, Nat.le_of_ble_eq_true rfl⟩ ⟨show C + 1 + 0 ≤ 603072 by omega, show S + 6 + 0 ≤ 7149674 by omega⟩ (fun _ _ h => h.elim) (fun r967 τ967 hp => ?_)
  refine gz_norm (st' := [.int r967]) (cells' := C + 1) (slots' := S + 6) rfl (show C + 1 + 0 = C + 1 by omega) (show S + 6 + 0 = S + 6 by omega) ?_
  refine gz_istore K [(7, .int r967), (6, .int r955), (0, .ref b), (1, .ref (ad 0)), (2, .ref (ad 43)), (3, .ref (ad 66)), (4, .ref (ad 67)), (5, .int y5)] dL_law_970 (by decide) rfl ?_
  refine gz_aload_n K dL_law_972 4 rfl ?_
  refine gz_callVc K (c_X10_thrown K.2.2.2.2.2 K.2.2.1 hp) cf_X10_thrown zq5_138 (by decide) (ce_43 _ _ _ _ _ _) rfl dL_law_973 rfl rfl (Nat.le_of_ble_eq_true rfl) ⟨Nat.le_of_ble_eq_true rfl, Nat.le_of_ble_eq_true rfl⟩ ⟨show C + 1 + 0 ≤ 603072 by omega, show S + 6 + 0 ≤ 7149674 by omega⟩ (fun _ _ h => h.elim) (fun r973 τ hp => ?_)
  obtain ⟨rfl, hp⟩ := hp
  refine gz_norm (st' := [.int r973]) (cells' := C + 1) (slots' := S + 6) rfl (show C + 1 + 0 = C + 1 by omega) (show S + 6 + 0 = S + 6 by omega) ?_
  refine gz_iload K dL_law_976 1 rfl ?_
  refine gz_icmp_eq K 983 dL_law_978 (by decide) (fun h => ?_) (fun h => ?_)
  · have hp := hp.1 h
    refine gz_iload K dL_law_983 1 rfl ?_
    refine gz_if_ne K 1007 dL_law_985 (by decide) (fun h => ?_) (fun h => ?_)
    · have hp := hp.1 h
      refine gz_goto K 1933 dL_law_1007 (by decide) ?_
      refine gz_iinc K (v := (y5 + (4))) [(5, .int (y5 + (4))), (7, .int r967), (6, .int r955), (0, .ref b), (1, .ref (ad 0)), (2, .ref (ad 43)), (3, .ref (ad 66)), (4, .ref (ad 67))] dL_law_1933 7 rfl rfl (by decide) rfl ?_
      refine gz_goto K 28 dL_law_1936 (by decide) ?_
      refine gz_widen (k := C + 20) (n := S + 200) (show C + 1 ≤ C + 20 by omega) (show S + 6 ≤ S + 200 by omega) ?_
      refine gz_sub [3, 4, 5, 6, 7, 0] rfl ?_
      exact ih τ967 (y5 + (4)) hp
    · have hp := hp.2 h
      refine gz_aload_n K dL_law_988 5 rfl ?_
      refine gz_iconst K (v := (0 : Int32)) dL_law_989 (by decide) ?_
      refine gz_lald K (by decide) (ce_66 _ _ _ _ _ _) (by unfold vp_in; decide) dL_law_990 ?_
      refine gz_iload K dL_law_991 0 rfl ?_
      refine gz_if_eq K 1000 dL_law_993 (by decide) (fun h => ?_) (fun h => ?_)
      · have hp := hp.1 h
        refine gz_lconst K (v := 0) dL_law_1000 (by decide) ?_
        refine gz_lcmp K dL_law_1001 ?_
        refine gz_if_eq K 1007 dL_law_1002 (by decide) (fun h => ?_) (fun h => ?_)
        · have hp := hp.1 h
          refine gz_goto K 1933 dL_law_1007 (by decide) ?_
          refine gz_iinc K (v := (y5 + (4))) [(5, .int (y5 + (4))), (7, .int r967), (6, .int r955), (0, .ref b), (1, .ref (ad 0)), (2, .ref (ad 43)), (3, .ref (ad 66)), (4, .ref (ad 67))] dL_law_1933 7 rfl rfl (by decide) rfl ?_
          refine gz_goto K 28 dL_law_1936 (by decide) ?_
          refine gz_widen (k := C + 20) (n := S + 200) (show C + 1 ≤ C + 20 by omega) (show S + 6 ≤ S + 200 by omega) ?_
          refine gz_sub [3, 4, 5, 6, 7, 0] rfl ?_
          exact ih τ967 (y5 + (4)) hp
        · have hp := hp.2 h
          refine gz_iconst K (v := (0 : Int32)) dL_law_1005 (by decide) ?_
          exact False.elim hp
      · have hp := hp.2 h
        refine gz_lconst K (v := 1) dL_law_996 (by decide) ?_
        refine gz_goto K 1001 dL_law_997 (by decide) ?_
        refine gz_lcmp K dL_law_1001 ?_
        refine gz_if_eq K 1007 dL_law_1002 (by decide) (fun h => ?_) (fun h => ?_)
        · have hp := hp.1 h
          refine gz_goto K 1933 dL_law_1007 (by decide) ?_
          refine gz_iinc K (v := (y5 + (4))) [(5, .int (y5 + (4))), (7, .int r967), (6, .int r955), (0, .ref b), (1, .ref (ad 0)), (2, .ref (ad 43)), (3, .ref (ad 66)), (4, .ref (ad 67))] dL_law_1933 7 rfl rfl (by decide) rfl ?_
          refine gz_goto K 28 dL_law_1936 (by decide) ?_
          refine gz_widen (k := C + 20) (n := S + 200) (show C + 1 ≤ C + 20 by omega) (show S + 6 ≤ S + 200 by omega) ?_
          refine gz_sub [3, 4, 5, 6, 7, 0] rfl ?_
          exact ih τ967 (y5 + (4)) hp
        · have hp := hp.2 h
          refine gz_iconst K (v := (0 : Int32)) dL_law_1005 (by decide) ?_
          exact False.elim hp
  · have hp := hp.2 h
    refine gz_iconst K (v := (0 : Int32)) dL_law_981 (by decide) ?_
    exact False.elim hp
set_option maxRecDepth 100000 in
set_option maxHeartbeats 4000000 in
theorem law_1010 {p : Program} {l : Launch} {e : Env} {s : State} {m : MethodId} {below : List Frame} {meth : Method} {c : Code} {D : va_G} {ad : Nat → Nat} {ty : Nat → ClassId} {b L : Nat} {xs : Nat → Int32} (K : Kz p l s m #[.ref b] meth c D ad ty code 10 RL) (hr : meth.sig.returnType = ret) (had : ∀ k, k < 68 → s.heap.size ≤ ad k) (hX : va_X b L xs s s.heap) (hbl : b < s.heap.size) (hbA : ¬ Az ad s.heap.size b) {rc : Dz → Int32 → Prop} {C S : Nat} (hC : C + 20 ≤ 603072) (hS : S + 200 ≤ 7149674) (ih : ∀ σ y5, rc σ y5 → Gz p l e room_1 s m #[.ref b] below meth c D ad ty 10 (C + 20) (S + 200) (lw_Z below #[.ref b] s) σ 28 [(0, .ref b), (1, .ref (ad 0)), (2, .ref (ad 43)), (3, .ref (ad 66)), (4, .ref (ad 67)), (5, .int y5)] []) {σ : Dz} {y5 : Int32} (hp : B_L_law_1010 L xs rc σ y5) : Gz p l e room_1 s m #[.ref b] below meth c D ad ty 10 C S (lw_Z below #[.ref b] s) σ 1010 [(0, .ref b), (1, .ref (ad 0)), (2, .ref (ad 43)), (3, .ref (ad 66)), (4, .ref (ad 67)), (5, .int y5)] [] := by
  unfold B_L_law_1010 at hp
  refine gz_norm (st' := []) (cells' := C + 0) (slots' := S + 0) rfl rfl rfl ?_
  refine gz_aload_n K dL_law_1010 1 rfl ?_
  refine gz_aload_n K dL_law_1011 0 rfl ?_
  refine gz_iload K dL_law_1012 5 rfl ?_
  refine gz_iconst K (v := (1 : Int32)) dL_law_1014 (by decide) ?_
  refine gz_iadd K dL_law_1015 ?_
  obtain ⟨h, hp⟩ := hp
  refine gz_sld K hX hbl hbA h dL_law_1016 ?_
  refine gz_aload_n K dL_law_1017 0 rfl ?_
  refine gz_iload K dL_law_1018 5 rfl ?_
  refine gz_iconst K (v := (2 : Int32)) dL_law_1020 (by decide) ?_
  refine gz_iadd K dL_law_1021 ?_
  obtain ⟨h, hp⟩ := hp
  refine gz_sld K hX hbl hbA h dL_law_1022 ?_
  refine gz_aload_n K dL_law_1023 3 rfl ?_
  refine gz_callWq K (c_L_cycleLength K.2.2.2.2.2 K.2.2.1 hp) cf_L_cycleLength zq4_73 dL_law_1024 rfl rfl (Nat.le_of_ble_eq_true rfl) ⟨Nat.le_of_ble_eq_true rfl, Nat.le_of_ble_eq_true rfl⟩ ⟨show C + 0 + 2 ≤ 603072 by omega, show S + 0 + 12 ≤ 7149674 by omega⟩ (fun r1024 τ1024 hp => ?_)
  refine gz_norm (st' := [.int r1024]) (cells' := C + 2) (slots' := S + 12) rfl (show C + 0 + 2 = C + 2 by omega) (show S + 0 + 12 = S + 12 by omega) ?_
  refine gz_istore K [(6, .int r1024), (0, .ref b), (1, .ref (ad 0)), (2, .ref (ad 43)), (3, .ref (ad 66)), (4, .ref (ad 67)), (5, .int y5)] dL_law_1027 (by decide) rfl ?_
  refine gz_aload_n K dL_law_1029 3 rfl ?_
  refine gz_aload_n K dL_law_1030 1 rfl ?_
  refine gz_iload K dL_law_1031 6 rfl ?_
  refine gz_iconst K (v := (1 : Int32)) dL_law_1033 (by decide) ?_
  refine gz_iadd K dL_law_1034 ?_
  obtain ⟨h, hp⟩ := hp
  refine gz_sld K hX hbl hbA h dL_law_1035 ?_
  refine gz_aload_n K dL_law_1036 1 rfl ?_
  refine gz_iload K dL_law_1037 6 rfl ?_
  refine gz_iconst K (v := (2 : Int32)) dL_law_1039 (by decide) ?_
  refine gz_iadd K dL_law_1040 ?_
  obtain ⟨h, hp⟩ := hp
  refine gz_sld K hX hbl hbA h dL_law_1041 ?_
  refine gz_callVc K (c_X10_cycleLength K.2.2.2.2.2 K.2.2.1 hp) cf_X10_cycleLength zq6_38 (by decide) (ce_43 _ _ _ _ _ _) rfl dL_law_1042 rfl rfl (Nat.le_of_ble_eq_true rfl) ⟨Nat.le_of_ble_eq_true rfl, Nat.le_of_ble_eq_true rfl⟩ ⟨show C + 2 + 0 ≤ 603072 by omega, show S + 12 + 0 ≤ 7149674 by omega⟩ (fun _ _ h => h.elim) (fun r1042 τ1042 hp => ?_)
  refine gz_norm (st' := [.int r1042]) (cells' := C + 2) (slots' := S + 12) rfl (show C + 2 + 0 = C + 2 by omega) (show S + 12 + 0 = S + 12 by omega) ?_
  refine gz_istore K [(7, .int r1042), (6, .int r1024), (0, .ref b), (1, .ref (ad 0)), (2, .ref (ad 43)), (3, .ref (ad 66)), (4, .ref (ad 67)), (5, .int y5)] dL_law_1045 (by decide) rfl ?_
  refine gz_aload_n K dL_law_1047 4 rfl ?_
  refine gz_callVc K (c_X10_thrown K.2.2.2.2.2 K.2.2.1 hp) cf_X10_thrown zq5_138 (by decide) (ce_43 _ _ _ _ _ _) rfl dL_law_1048 rfl rfl (Nat.le_of_ble_eq_true rfl) ⟨Nat.le_of_ble_eq_true rfl, Nat.le_of_ble_eq_true rfl⟩ ⟨show C + 2 + 0 ≤ 603072 by omega, show S + 12 + 0 ≤ 7149674 by omega⟩ (fun _ _ h => h.elim) (fun r1048 τ hp => ?_)
  obtain ⟨rfl, hp⟩ := hp
  refine gz_norm (st' := [.int r1048]) (cells' := C + 2) (slots' := S + 12) rfl (show C + 2 + 0 = C + 2 by omega) (show S + 12 + 0 = S + 12 by omega) ?_
  refine gz_iload K dL_law_1051 1 rfl ?_
  refine gz_icmp_eq K 1058 dL_law_1053 (by decide) (fun h => ?_) (fun h => ?_)
  · have hp := hp.1 h
    refine gz_iload K dL_law_1058 1 rfl ?_
    refine gz_if_ne K 1075 dL_law_1060 (by decide) (fun h => ?_) (fun h => ?_)
    · have hp := hp.1 h
      refine gz_goto K 1933 dL_law_1075 (by decide) ?_
      refine gz_iinc K (v := (y5 + (4))) [(5, .int (y5 + (4))), (7, .int r1042), (6, .int r1024), (0, .ref b), (1, .ref (ad 0)), (2, .ref (ad 43)), (3, .ref (ad 66)), (4, .ref (ad 67))] dL_law_1933 7 rfl rfl (by decide) rfl ?_
      refine gz_goto K 28 dL_law_1936 (by decide) ?_
      refine gz_widen (k := C + 20) (n := S + 200) (show C + 2 ≤ C + 20 by omega) (show S + 12 ≤ S + 200 by omega) ?_
      refine gz_sub [3, 4, 5, 6, 7, 0] rfl ?_
      exact ih τ1042 (y5 + (4)) hp
    · have hp := hp.2 h
      refine gz_aload_n K dL_law_1063 5 rfl ?_
      refine gz_iconst K (v := (0 : Int32)) dL_law_1064 (by decide) ?_
      refine gz_lald K (by decide) (ce_66 _ _ _ _ _ _) (by unfold vp_in; decide) dL_law_1065 ?_
      refine gz_iload K dL_law_1066 0 rfl ?_
      refine gz_i2l K dL_law_1068 ?_
      refine gz_lcmp K dL_law_1069 ?_
      refine gz_if_eq K 1075 dL_law_1070 (by decide) (fun h => ?_) (fun h => ?_)
      · have hp := hp.1 h
        refine gz_goto K 1933 dL_law_1075 (by decide) ?_
        refine gz_iinc K (v := (y5 + (4))) [(5, .int (y5 + (4))), (7, .int r1042), (6, .int r1024), (0, .ref b), (1, .ref (ad 0)), (2, .ref (ad 43)), (3, .ref (ad 66)), (4, .ref (ad 67))] dL_law_1933 7 rfl rfl (by decide) rfl ?_
        refine gz_goto K 28 dL_law_1936 (by decide) ?_
        refine gz_widen (k := C + 20) (n := S + 200) (show C + 2 ≤ C + 20 by omega) (show S + 12 ≤ S + 200 by omega) ?_
        refine gz_sub [3, 4, 5, 6, 7, 0] rfl ?_
        exact ih τ1042 (y5 + (4)) hp
      · have hp := hp.2 h
        refine gz_iconst K (v := (0 : Int32)) dL_law_1073 (by decide) ?_
        exact False.elim hp
  · have hp := hp.2 h
    refine gz_iconst K (v := (0 : Int32)) dL_law_1056 (by decide) ?_
    exact False.elim hp
set_option maxRecDepth 100000 in
set_option maxHeartbeats 4000000 in
theorem law_1078 {p : Program} {l : Launch} {e : Env} {s : State} {m : MethodId} {below : List Frame} {meth : Method} {c : Code} {D : va_G} {ad : Nat → Nat} {ty : Nat → ClassId} {b L : Nat} {xs : Nat → Int32} (K : Kz p l s m #[.ref b] meth c D ad ty code 10 RL) (hr : meth.sig.returnType = ret) (had : ∀ k, k < 68 → s.heap.size ≤ ad k) (hX : va_X b L xs s s.heap) (hbl : b < s.heap.size) (hbA : ¬ Az ad s.heap.size b) {rc : Dz → Int32 → Prop} {C S : Nat} (hC : C + 20 ≤ 603072) (hS : S + 200 ≤ 7149674) (ih : ∀ σ y5, rc σ y5 → Gz p l e room_1 s m #[.ref b] below meth c D ad ty 10 (C + 20) (S + 200) (lw_Z below #[.ref b] s) σ 28 [(0, .ref b), (1, .ref (ad 0)), (2, .ref (ad 43)), (3, .ref (ad 66)), (4, .ref (ad 67)), (5, .int y5)] []) {σ : Dz} {y5 : Int32} (hp : B_L_law_1078 L xs rc σ y5) : Gz p l e room_1 s m #[.ref b] below meth c D ad ty 10 C S (lw_Z below #[.ref b] s) σ 1078 [(0, .ref b), (1, .ref (ad 0)), (2, .ref (ad 43)), (3, .ref (ad 66)), (4, .ref (ad 67)), (5, .int y5)] [] := by
  unfold B_L_law_1078 at hp
  refine gz_norm (st' := []) (cells' := C + 0) (slots' := S + 0) rfl rfl rfl ?_
  refine gz_aload_n K dL_law_1078 1 rfl ?_
  refine gz_aload_n K dL_law_1079 0 rfl ?_
  refine gz_iload K dL_law_1080 5 rfl ?_
  refine gz_iconst K (v := (1 : Int32)) dL_law_1082 (by decide) ?_
  refine gz_iadd K dL_law_1083 ?_
  obtain ⟨h, hp⟩ := hp
  refine gz_sld K hX hbl hbA h dL_law_1084 ?_
  refine gz_aload_n K dL_law_1085 0 rfl ?_
  refine gz_iload K dL_law_1086 5 rfl ?_
  refine gz_iconst K (v := (2 : Int32)) dL_law_1088 (by decide) ?_
  refine gz_iadd K dL_law_1089 ?_
  obtain ⟨h, hp⟩ := hp
  refine gz_sld K hX hbl hbA h dL_law_1090 ?_
  refine gz_aload_n K dL_law_1091 3 rfl ?_
  refine gz_callWq K (c_L_isSame K.2.2.2.2.2 K.2.2.1 hp) cf_L_isSame zq4_83 dL_law_1092 rfl rfl (Nat.le_of_ble_eq_true rfl) ⟨Nat.le_of_ble_eq_true rfl, Nat.le_of_ble_eq_true rfl⟩ ⟨show C + 0 + 2 ≤ 603072 by omega, show S + 0 + 12 ≤ 7149674 by omega⟩ (fun r1092 τ1092 hp => ?_)
  refine gz_norm (st' := [.int r1092]) (cells' := C + 2) (slots' := S + 12) rfl (show C + 0 + 2 = C + 2 by omega) (show S + 0 + 12 = S + 12 by omega) ?_
  refine gz_istore K [(6, .int r1092), (0, .ref b), (1, .ref (ad 0)), (2, .ref (ad 43)), (3, .ref (ad 66)), (4, .ref (ad 67)), (5, .int y5)] dL_law_1095 (by decide) rfl ?_
  refine gz_aload_n K dL_law_1097 3 rfl ?_
  refine gz_aload_n K dL_law_1098 1 rfl ?_
  refine gz_iload K dL_law_1099 6 rfl ?_
  refine gz_iconst K (v := (1 : Int32)) dL_law_1101 (by decide) ?_
  refine gz_iadd K dL_law_1102 ?_
  obtain ⟨h, hp⟩ := hp
  refine gz_sld K hX hbl hbA h dL_law_1103 ?_
  refine gz_aload_n K dL_law_1104 1 rfl ?_
  refine gz_iload K dL_law_1105 6 rfl ?_
  refine gz_iconst K (v := (2 : Int32)) dL_law_1107 (by decide) ?_
  refine gz_iadd K dL_law_1108 ?_
  obtain ⟨h, hp⟩ := hp
  refine gz_sld K hX hbl hbA h dL_law_1109 ?_
  refine gz_callVc K (c_X10_isSame K.2.2.2.2.2 K.2.2.1 hp) cf_X10_isSame zq6_42 (by decide) (ce_43 _ _ _ _ _ _) rfl dL_law_1110 rfl rfl (Nat.le_of_ble_eq_true rfl) ⟨Nat.le_of_ble_eq_true rfl, Nat.le_of_ble_eq_true rfl⟩ ⟨show C + 2 + 0 ≤ 603072 by omega, show S + 12 + 0 ≤ 7149674 by omega⟩ (fun _ _ h => h.elim) (fun r1110 τ1110 hp => ?_)
  refine gz_norm (st' := [.int r1110]) (cells' := C + 2) (slots' := S + 12) rfl (show C + 2 + 0 = C + 2 by omega) (show S + 12 + 0 = S + 12 by omega) ?_
  refine gz_istore K [(7, .int r1110), (6, .int r1092), (0, .ref b), (1, .ref (ad 0)), (2, .ref (ad 43)), (3, .ref (ad 66)), (4, .ref (ad 67)), (5, .int y5)] dL_law_1113 (by decide) rfl ?_
  refine gz_aload_n K dL_law_1115 4 rfl ?_
  refine gz_callVc K (c_X10_thrown K.2.2.2.2.2 K.2.2.1 hp) cf_X10_thrown zq5_138 (by decide) (ce_43 _ _ _ _ _ _) rfl dL_law_1116 rfl rfl (Nat.le_of_ble_eq_true rfl) ⟨Nat.le_of_ble_eq_true rfl, Nat.le_of_ble_eq_true rfl⟩ ⟨show C + 2 + 0 ≤ 603072 by omega, show S + 12 + 0 ≤ 7149674 by omega⟩ (fun _ _ h => h.elim) (fun r1116 τ hp => ?_)
  obtain ⟨rfl, hp⟩ := hp
  refine gz_norm (st' := [.int r1116]) (cells' := C + 2) (slots' := S + 12) rfl (show C + 2 + 0 = C + 2 by omega) (show S + 12 + 0 = S + 12 by omega) ?_
  refine gz_iload K dL_law_1119 1 rfl ?_
  refine gz_icmp_eq K 1126 dL_law_1121 (by decide) (fun h => ?_) (fun h => ?_)
  · have hp := hp.1 h
    refine gz_iload K dL_law_1126 1 rfl ?_
    refine gz_if_ne K 1150 dL_law_1128 (by decide) (fun h => ?_) (fun h => ?_)
    · have hp := hp.1 h
      refine gz_goto K 1933 dL_law_1150 (by decide) ?_
      refine gz_iinc K (v := (y5 + (4))) [(5, .int (y5 + (4))), (7, .int r1110), (6, .int r1092), (0, .ref b), (1, .ref (ad 0)), (2, .ref (ad 43)), (3, .ref (ad 66)), (4, .ref (ad 67))] dL_law_1933 7 rfl rfl (by decide) rfl ?_
      refine gz_goto K 28 dL_law_1936 (by decide) ?_
      refine gz_widen (k := C + 20) (n := S + 200) (show C + 2 ≤ C + 20 by omega) (show S + 12 ≤ S + 200 by omega) ?_
      refine gz_sub [3, 4, 5, 6, 7, 0] rfl ?_
      exact ih τ1110 (y5 + (4)) hp
    · have hp := hp.2 h
      refine gz_aload_n K dL_law_1131 5 rfl ?_
      refine gz_iconst K (v := (0 : Int32)) dL_law_1132 (by decide) ?_
      refine gz_lald K (by decide) (ce_66 _ _ _ _ _ _) (by unfold vp_in; decide) dL_law_1133 ?_
      refine gz_iload K dL_law_1134 0 rfl ?_
      refine gz_if_eq K 1143 dL_law_1136 (by decide) (fun h => ?_) (fun h => ?_)
      · have hp := hp.1 h
        refine gz_lconst K (v := 0) dL_law_1143 (by decide) ?_
        refine gz_lcmp K dL_law_1144 ?_
        refine gz_if_eq K 1150 dL_law_1145 (by decide) (fun h => ?_) (fun h => ?_)
        · have hp := hp.1 h
          refine gz_goto K 1933 dL_law_1150 (by decide) ?_
          refine gz_iinc K (v := (y5 + (4))) [(5, .int (y5 + (4))), (7, .int r1110), (6, .int r1092), (0, .ref b), (1, .ref (ad 0)), (2, .ref (ad 43)), (3, .ref (ad 66)), (4, .ref (ad 67))] dL_law_1933 7 rfl rfl (by decide) rfl ?_
          refine gz_goto K 28 dL_law_1936 (by decide) ?_
          refine gz_widen (k := C + 20) (n := S + 200) (show C + 2 ≤ C + 20 by omega) (show S + 12 ≤ S + 200 by omega) ?_
          refine gz_sub [3, 4, 5, 6, 7, 0] rfl ?_
          exact ih τ1110 (y5 + (4)) hp
        · have hp := hp.2 h
          refine gz_iconst K (v := (0 : Int32)) dL_law_1148 (by decide) ?_
          exact False.elim hp
      · have hp := hp.2 h
        refine gz_lconst K (v := 1) dL_law_1139 (by decide) ?_
        refine gz_goto K 1144 dL_law_1140 (by decide) ?_
        refine gz_lcmp K dL_law_1144 ?_
        refine gz_if_eq K 1150 dL_law_1145 (by decide) (fun h => ?_) (fun h => ?_)
        · have hp := hp.1 h
          refine gz_goto K 1933 dL_law_1150 (by decide) ?_
          refine gz_iinc K (v := (y5 + (4))) [(5, .int (y5 + (4))), (7, .int r1110), (6, .int r1092), (0, .ref b), (1, .ref (ad 0)), (2, .ref (ad 43)), (3, .ref (ad 66)), (4, .ref (ad 67))] dL_law_1933 7 rfl rfl (by decide) rfl ?_
          refine gz_goto K 28 dL_law_1936 (by decide) ?_
          refine gz_widen (k := C + 20) (n := S + 200) (show C + 2 ≤ C + 20 by omega) (show S + 12 ≤ S + 200 by omega) ?_
          refine gz_sub [3, 4, 5, 6, 7, 0] rfl ?_
          exact ih τ1110 (y5 + (4)) hp
        · have hp := hp.2 h
          refine gz_iconst K (v := (0 : Int32)) dL_law_1148 (by decide) ?_
          exact False.elim hp
  · have hp := hp.2 h
    refine gz_iconst K (v := (0 : Int32)) dL_law_1124 (by decide) ?_
    exact False.elim hp
set_option maxRecDepth 100000 in
set_option maxHeartbeats 4000000 in
theorem law_1153 {p : Program} {l : Launch} {e : Env} {s : State} {m : MethodId} {below : List Frame} {meth : Method} {c : Code} {D : va_G} {ad : Nat → Nat} {ty : Nat → ClassId} {b L : Nat} {xs : Nat → Int32} (K : Kz p l s m #[.ref b] meth c D ad ty code 10 RL) (hr : meth.sig.returnType = ret) (had : ∀ k, k < 68 → s.heap.size ≤ ad k) (hX : va_X b L xs s s.heap) (hbl : b < s.heap.size) (hbA : ¬ Az ad s.heap.size b) {rc : Dz → Int32 → Prop} {C S : Nat} (hC : C + 20 ≤ 603072) (hS : S + 200 ≤ 7149674) (ih : ∀ σ y5, rc σ y5 → Gz p l e room_1 s m #[.ref b] below meth c D ad ty 10 (C + 20) (S + 200) (lw_Z below #[.ref b] s) σ 28 [(0, .ref b), (1, .ref (ad 0)), (2, .ref (ad 43)), (3, .ref (ad 66)), (4, .ref (ad 67)), (5, .int y5)] []) {σ : Dz} {y5 : Int32} (hp : B_L_law_1153 L xs rc σ y5) : Gz p l e room_1 s m #[.ref b] below meth c D ad ty 10 C S (lw_Z below #[.ref b] s) σ 1153 [(0, .ref b), (1, .ref (ad 0)), (2, .ref (ad 43)), (3, .ref (ad 66)), (4, .ref (ad 67)), (5, .int y5)] [] := by
  unfold B_L_law_1153 at hp
  refine gz_norm (st' := []) (cells' := C + 0) (slots' := S + 0) rfl rfl rfl ?_
  refine gz_aload_n K dL_law_1153 1 rfl ?_
  refine gz_aload_n K dL_law_1154 0 rfl ?_
  refine gz_iload K dL_law_1155 5 rfl ?_
  refine gz_iconst K (v := (1 : Int32)) dL_law_1157 (by decide) ?_
  refine gz_iadd K dL_law_1158 ?_
  obtain ⟨h, hp⟩ := hp
  refine gz_sld K hX hbl hbA h dL_law_1159 ?_
  refine gz_aload_n K dL_law_1160 0 rfl ?_
  refine gz_iload K dL_law_1161 5 rfl ?_
  refine gz_iconst K (v := (2 : Int32)) dL_law_1163 (by decide) ?_
  refine gz_iadd K dL_law_1164 ?_
  obtain ⟨h, hp⟩ := hp
  refine gz_sld K hX hbl hbA h dL_law_1165 ?_
  refine gz_aload_n K dL_law_1166 3 rfl ?_
  refine gz_callWq K (c_L_perform K.2.2.2.2.2 K.2.2.1 hp) cf_L_perform zq4_90 dL_law_1167 rfl rfl (Nat.le_of_ble_eq_true rfl) ⟨Nat.le_of_ble_eq_true rfl, Nat.le_of_ble_eq_true rfl⟩ ⟨show C + 0 + 2 ≤ 603072 by omega, show S + 0 + 12 ≤ 7149674 by omega⟩ (fun r1167 τ1167 hp => ?_)
  refine gz_norm (st' := [.int r1167]) (cells' := C + 2) (slots' := S + 12) rfl (show C + 0 + 2 = C + 2 by omega) (show S + 0 + 12 = S + 12 by omega) ?_
  refine gz_istore K [(6, .int r1167), (0, .ref b), (1, .ref (ad 0)), (2, .ref (ad 43)), (3, .ref (ad 66)), (4, .ref (ad 67)), (5, .int y5)] dL_law_1170 (by decide) rfl ?_
  refine gz_aload_n K dL_law_1172 3 rfl ?_
  refine gz_aload_n K dL_law_1173 1 rfl ?_
  refine gz_iload K dL_law_1174 6 rfl ?_
  refine gz_iconst K (v := (1 : Int32)) dL_law_1176 (by decide) ?_
  refine gz_iadd K dL_law_1177 ?_
  obtain ⟨h, hp⟩ := hp
  refine gz_sld K hX hbl hbA h dL_law_1178 ?_
  refine gz_aload_n K dL_law_1179 1 rfl ?_
  refine gz_iload K dL_law_1180 6 rfl ?_
  refine gz_iconst K (v := (2 : Int32)) dL_law_1182 (by decide) ?_
  refine gz_iadd K dL_law_1183 ?_
  obtain ⟨h, hp⟩ := hp
  refine gz_sld K hX hbl hbA h dL_law_1184 ?_
  refine gz_callVc K (c_X10_perform K.2.2.2.2.2 K.2.2.1 hp) cf_X10_perform zq6_46 (by decide) (ce_43 _ _ _ _ _ _) rfl dL_law_1185 rfl rfl (Nat.le_of_ble_eq_true rfl) ⟨Nat.le_of_ble_eq_true rfl, Nat.le_of_ble_eq_true rfl⟩ ⟨show C + 2 + 0 ≤ 603072 by omega, show S + 12 + 0 ≤ 7149674 by omega⟩ (fun _ _ h => h.elim) (fun r1185 τ1185 hp => ?_)
  refine gz_norm (st' := [.int r1185]) (cells' := C + 2) (slots' := S + 12) rfl (show C + 2 + 0 = C + 2 by omega) (show S + 12 + 0 = S + 12 by omega) ?_
  refine gz_istore K [(7, .int r1185), (6, .int r1167), (0, .ref b), (1, .ref (ad 0)), (2, .ref (ad 43)), (3, .ref (ad 66)), (4, .ref (ad 67)), (5, .int y5)] dL_law_1188 (by decide) rfl ?_
  refine gz_aload_n K dL_law_1190 4 rfl ?_
  refine gz_callVc K (c_X10_thrown K.2.2.2.2.2 K.2.2.1 hp) cf_X10_thrown zq5_138 (by decide) (ce_43 _ _ _ _ _ _) rfl dL_law_1191 rfl rfl (Nat.le_of_ble_eq_true rfl) ⟨Nat.le_of_ble_eq_true rfl, Nat.le_of_ble_eq_true rfl⟩ ⟨show C + 2 + 0 ≤ 603072 by omega, show S + 12 + 0 ≤ 7149674 by omega⟩ (fun _ _ h => h.elim) (fun r1191 τ hp => ?_)
  obtain ⟨rfl, hp⟩ := hp
  refine gz_norm (st' := [.int r1191]) (cells' := C + 2) (slots' := S + 12) rfl (show C + 2 + 0 = C + 2 by omega) (show S + 12 + 0 = S + 12 by omega) ?_
  refine gz_iload K dL_law_1194 1 rfl ?_
  refine gz_icmp_eq K 1201 dL_law_1196 (by decide) (fun h => ?_) (fun h => ?_)
  · have hp := hp.1 h
    refine gz_iload K dL_law_1201 1 rfl ?_
    refine gz_if_ne K 1218 dL_law_1203 (by decide) (fun h => ?_) (fun h => ?_)
    · have hp := hp.1 h
      refine gz_goto K 1933 dL_law_1218 (by decide) ?_
      refine gz_iinc K (v := (y5 + (4))) [(5, .int (y5 + (4))), (7, .int r1185), (6, .int r1167), (0, .ref b), (1, .ref (ad 0)), (2, .ref (ad 43)), (3, .ref (ad 66)), (4, .ref (ad 67))] dL_law_1933 7 rfl rfl (by decide) rfl ?_
      refine gz_goto K 28 dL_law_1936 (by decide) ?_
      refine gz_widen (k := C + 20) (n := S + 200) (show C + 2 ≤ C + 20 by omega) (show S + 12 ≤ S + 200 by omega) ?_
      refine gz_sub [3, 4, 5, 6, 7, 0] rfl ?_
      exact ih τ1185 (y5 + (4)) hp
    · have hp := hp.2 h
      refine gz_aload_n K dL_law_1206 5 rfl ?_
      refine gz_iconst K (v := (0 : Int32)) dL_law_1207 (by decide) ?_
      refine gz_lald K (by decide) (ce_66 _ _ _ _ _ _) (by unfold vp_in; decide) dL_law_1208 ?_
      refine gz_iload K dL_law_1209 0 rfl ?_
      refine gz_i2l K dL_law_1211 ?_
      refine gz_lcmp K dL_law_1212 ?_
      refine gz_if_eq K 1218 dL_law_1213 (by decide) (fun h => ?_) (fun h => ?_)
      · have hp := hp.1 h
        refine gz_goto K 1933 dL_law_1218 (by decide) ?_
        refine gz_iinc K (v := (y5 + (4))) [(5, .int (y5 + (4))), (7, .int r1185), (6, .int r1167), (0, .ref b), (1, .ref (ad 0)), (2, .ref (ad 43)), (3, .ref (ad 66)), (4, .ref (ad 67))] dL_law_1933 7 rfl rfl (by decide) rfl ?_
        refine gz_goto K 28 dL_law_1936 (by decide) ?_
        refine gz_widen (k := C + 20) (n := S + 200) (show C + 2 ≤ C + 20 by omega) (show S + 12 ≤ S + 200 by omega) ?_
        refine gz_sub [3, 4, 5, 6, 7, 0] rfl ?_
        exact ih τ1185 (y5 + (4)) hp
      · have hp := hp.2 h
        refine gz_iconst K (v := (0 : Int32)) dL_law_1216 (by decide) ?_
        exact False.elim hp
  · have hp := hp.2 h
    refine gz_iconst K (v := (0 : Int32)) dL_law_1199 (by decide) ?_
    exact False.elim hp
set_option maxRecDepth 100000 in
set_option maxHeartbeats 4000000 in
theorem law_1221 {p : Program} {l : Launch} {e : Env} {s : State} {m : MethodId} {below : List Frame} {meth : Method} {c : Code} {D : va_G} {ad : Nat → Nat} {ty : Nat → ClassId} {b L : Nat} {xs : Nat → Int32} (K : Kz p l s m #[.ref b] meth c D ad ty code 10 RL) (hr : meth.sig.returnType = ret) (had : ∀ k, k < 68 → s.heap.size ≤ ad k) (hX : va_X b L xs s s.heap) (hbl : b < s.heap.size) (hbA : ¬ Az ad s.heap.size b) {rc : Dz → Int32 → Prop} {C S : Nat} (hC : C + 20 ≤ 603072) (hS : S + 200 ≤ 7149674) (ih : ∀ σ y5, rc σ y5 → Gz p l e room_1 s m #[.ref b] below meth c D ad ty 10 (C + 20) (S + 200) (lw_Z below #[.ref b] s) σ 28 [(0, .ref b), (1, .ref (ad 0)), (2, .ref (ad 43)), (3, .ref (ad 66)), (4, .ref (ad 67)), (5, .int y5)] []) {σ : Dz} {y5 : Int32} (hp : B_L_law_1221 L xs rc σ y5) : Gz p l e room_1 s m #[.ref b] below meth c D ad ty 10 C S (lw_Z below #[.ref b] s) σ 1221 [(0, .ref b), (1, .ref (ad 0)), (2, .ref (ad 43)), (3, .ref (ad 66)), (4, .ref (ad 67)), (5, .int y5)] [] := by
  unfold B_L_law_1221 at hp
  refine gz_norm (st' := []) (cells' := C + 0) (slots' := S + 0) rfl rfl rfl ?_
  refine gz_aload_n K dL_law_1221 1 rfl ?_
  refine gz_aload_n K dL_law_1222 0 rfl ?_
  refine gz_iload K dL_law_1223 5 rfl ?_
  refine gz_iconst K (v := (1 : Int32)) dL_law_1225 (by decide) ?_
  refine gz_iadd K dL_law_1226 ?_
  obtain ⟨h, hp⟩ := hp
  refine gz_sld K hX hbl hbA h dL_law_1227 ?_
  refine gz_aload_n K dL_law_1228 0 rfl ?_
  refine gz_iload K dL_law_1229 5 rfl ?_
  refine gz_iconst K (v := (2 : Int32)) dL_law_1231 (by decide) ?_
  refine gz_iadd K dL_law_1232 ?_
  obtain ⟨h, hp⟩ := hp
  refine gz_sld K hX hbl hbA h dL_law_1233 ?_
  refine gz_aload_n K dL_law_1234 3 rfl ?_
  refine gz_callWq K (c_L_exchange K.2.2.2.2.2 K.2.2.1 hp) cf_L_exchange zq4_111 dL_law_1235 rfl rfl (Nat.le_of_ble_eq_true rfl) ⟨Nat.le_of_ble_eq_true rfl, Nat.le_of_ble_eq_true rfl⟩ ⟨show C + 0 + 2 ≤ 603072 by omega, show S + 0 + 12 ≤ 7149674 by omega⟩ (fun r1235 τ1235 hp => ?_)
  refine gz_norm (st' := [.int r1235]) (cells' := C + 2) (slots' := S + 12) rfl (show C + 0 + 2 = C + 2 by omega) (show S + 0 + 12 = S + 12 by omega) ?_
  refine gz_istore K [(6, .int r1235), (0, .ref b), (1, .ref (ad 0)), (2, .ref (ad 43)), (3, .ref (ad 66)), (4, .ref (ad 67)), (5, .int y5)] dL_law_1238 (by decide) rfl ?_
  refine gz_aload_n K dL_law_1240 3 rfl ?_
  refine gz_aload_n K dL_law_1241 1 rfl ?_
  refine gz_iload K dL_law_1242 6 rfl ?_
  refine gz_iconst K (v := (1 : Int32)) dL_law_1244 (by decide) ?_
  refine gz_iadd K dL_law_1245 ?_
  obtain ⟨h, hp⟩ := hp
  refine gz_sld K hX hbl hbA h dL_law_1246 ?_
  refine gz_aload_n K dL_law_1247 1 rfl ?_
  refine gz_iload K dL_law_1248 6 rfl ?_
  refine gz_iconst K (v := (2 : Int32)) dL_law_1250 (by decide) ?_
  refine gz_iadd K dL_law_1251 ?_
  obtain ⟨h, hp⟩ := hp
  refine gz_sld K hX hbl hbA h dL_law_1252 ?_
  refine gz_callVc K (c_X10_exchange K.2.2.2.2.2 K.2.2.1 hp) cf_X10_exchange zq6_50 (by decide) (ce_43 _ _ _ _ _ _) rfl dL_law_1253 rfl rfl (Nat.le_of_ble_eq_true rfl) ⟨Nat.le_of_ble_eq_true rfl, Nat.le_of_ble_eq_true rfl⟩ ⟨show C + 2 + 0 ≤ 603072 by omega, show S + 12 + 0 ≤ 7149674 by omega⟩ (fun _ _ h => h.elim) (fun r1253 τ1253 hp => ?_)
  refine gz_norm (st' := [.int r1253]) (cells' := C + 2) (slots' := S + 12) rfl (show C + 2 + 0 = C + 2 by omega) (show S + 12 + 0 = S + 12 by omega) ?_
  refine gz_istore K [(7, .int r1253), (6, .int r1235), (0, .ref b), (1, .ref (ad 0)), (2, .ref (ad 43)), (3, .ref (ad 66)), (4, .ref (ad 67)), (5, .int y5)] dL_law_1256 (by decide) rfl ?_
  refine gz_aload_n K dL_law_1258 4 rfl ?_
  refine gz_callVc K (c_X10_thrown K.2.2.2.2.2 K.2.2.1 hp) cf_X10_thrown zq5_138 (by decide) (ce_43 _ _ _ _ _ _) rfl dL_law_1259 rfl rfl (Nat.le_of_ble_eq_true rfl) ⟨Nat.le_of_ble_eq_true rfl, Nat.le_of_ble_eq_true rfl⟩ ⟨show C + 2 + 0 ≤ 603072 by omega, show S + 12 + 0 ≤ 7149674 by omega⟩ (fun _ _ h => h.elim) (fun r1259 τ hp => ?_)
  obtain ⟨rfl, hp⟩ := hp
  refine gz_norm (st' := [.int r1259]) (cells' := C + 2) (slots' := S + 12) rfl (show C + 2 + 0 = C + 2 by omega) (show S + 12 + 0 = S + 12 by omega) ?_
  refine gz_iload K dL_law_1262 1 rfl ?_
  refine gz_icmp_eq K 1269 dL_law_1264 (by decide) (fun h => ?_) (fun h => ?_)
  · have hp := hp.1 h
    refine gz_iload K dL_law_1269 1 rfl ?_
    refine gz_if_ne K 1286 dL_law_1271 (by decide) (fun h => ?_) (fun h => ?_)
    · have hp := hp.1 h
      refine gz_goto K 1933 dL_law_1286 (by decide) ?_
      refine gz_iinc K (v := (y5 + (4))) [(5, .int (y5 + (4))), (7, .int r1253), (6, .int r1235), (0, .ref b), (1, .ref (ad 0)), (2, .ref (ad 43)), (3, .ref (ad 66)), (4, .ref (ad 67))] dL_law_1933 7 rfl rfl (by decide) rfl ?_
      refine gz_goto K 28 dL_law_1936 (by decide) ?_
      refine gz_widen (k := C + 20) (n := S + 200) (show C + 2 ≤ C + 20 by omega) (show S + 12 ≤ S + 200 by omega) ?_
      refine gz_sub [3, 4, 5, 6, 7, 0] rfl ?_
      exact ih τ1253 (y5 + (4)) hp
    · have hp := hp.2 h
      refine gz_aload_n K dL_law_1274 5 rfl ?_
      refine gz_iconst K (v := (0 : Int32)) dL_law_1275 (by decide) ?_
      refine gz_lald K (by decide) (ce_66 _ _ _ _ _ _) (by unfold vp_in; decide) dL_law_1276 ?_
      refine gz_iload K dL_law_1277 0 rfl ?_
      refine gz_i2l K dL_law_1279 ?_
      refine gz_lcmp K dL_law_1280 ?_
      refine gz_if_eq K 1286 dL_law_1281 (by decide) (fun h => ?_) (fun h => ?_)
      · have hp := hp.1 h
        refine gz_goto K 1933 dL_law_1286 (by decide) ?_
        refine gz_iinc K (v := (y5 + (4))) [(5, .int (y5 + (4))), (7, .int r1253), (6, .int r1235), (0, .ref b), (1, .ref (ad 0)), (2, .ref (ad 43)), (3, .ref (ad 66)), (4, .ref (ad 67))] dL_law_1933 7 rfl rfl (by decide) rfl ?_
        refine gz_goto K 28 dL_law_1936 (by decide) ?_
        refine gz_widen (k := C + 20) (n := S + 200) (show C + 2 ≤ C + 20 by omega) (show S + 12 ≤ S + 200 by omega) ?_
        refine gz_sub [3, 4, 5, 6, 7, 0] rfl ?_
        exact ih τ1253 (y5 + (4)) hp
      · have hp := hp.2 h
        refine gz_iconst K (v := (0 : Int32)) dL_law_1284 (by decide) ?_
        exact False.elim hp
  · have hp := hp.2 h
    refine gz_iconst K (v := (0 : Int32)) dL_law_1267 (by decide) ?_
    exact False.elim hp
set_option maxRecDepth 100000 in
set_option maxHeartbeats 4000000 in
theorem law_1289 {p : Program} {l : Launch} {e : Env} {s : State} {m : MethodId} {below : List Frame} {meth : Method} {c : Code} {D : va_G} {ad : Nat → Nat} {ty : Nat → ClassId} {b L : Nat} {xs : Nat → Int32} (K : Kz p l s m #[.ref b] meth c D ad ty code 10 RL) (hr : meth.sig.returnType = ret) (had : ∀ k, k < 68 → s.heap.size ≤ ad k) (hX : va_X b L xs s s.heap) (hbl : b < s.heap.size) (hbA : ¬ Az ad s.heap.size b) {rc : Dz → Int32 → Prop} {C S : Nat} (hC : C + 20 ≤ 603072) (hS : S + 200 ≤ 7149674) (ih : ∀ σ y5, rc σ y5 → Gz p l e room_1 s m #[.ref b] below meth c D ad ty 10 (C + 20) (S + 200) (lw_Z below #[.ref b] s) σ 28 [(0, .ref b), (1, .ref (ad 0)), (2, .ref (ad 43)), (3, .ref (ad 66)), (4, .ref (ad 67)), (5, .int y5)] []) {σ : Dz} {y5 : Int32} (hp : B_L_law_1289 L xs rc σ y5) : Gz p l e room_1 s m #[.ref b] below meth c D ad ty 10 C S (lw_Z below #[.ref b] s) σ 1289 [(0, .ref b), (1, .ref (ad 0)), (2, .ref (ad 43)), (3, .ref (ad 66)), (4, .ref (ad 67)), (5, .int y5)] [] := by
  unfold B_L_law_1289 at hp
  refine gz_norm (st' := []) (cells' := C + 0) (slots' := S + 0) rfl rfl rfl ?_
  refine gz_aload_n K dL_law_1289 1 rfl ?_
  refine gz_aload_n K dL_law_1290 0 rfl ?_
  refine gz_iload K dL_law_1291 5 rfl ?_
  refine gz_iconst K (v := (1 : Int32)) dL_law_1293 (by decide) ?_
  refine gz_iadd K dL_law_1294 ?_
  obtain ⟨h, hp⟩ := hp
  refine gz_sld K hX hbl hbA h dL_law_1295 ?_
  refine gz_aload_n K dL_law_1296 3 rfl ?_
  refine gz_callWq K (c_L_token K.2.2.2.2.2 K.2.2.1 hp) cf_L_token zq4_123 dL_law_1297 rfl rfl (Nat.le_of_ble_eq_true rfl) ⟨Nat.le_of_ble_eq_true rfl, Nat.le_of_ble_eq_true rfl⟩ ⟨show C + 0 + 1 ≤ 603072 by omega, show S + 0 + 6 ≤ 7149674 by omega⟩ (fun r1297 τ1297 hp => ?_)
  refine gz_norm (st' := [.int r1297]) (cells' := C + 1) (slots' := S + 6) rfl (show C + 0 + 1 = C + 1 by omega) (show S + 0 + 6 = S + 6 by omega) ?_
  refine gz_istore K [(6, .int r1297), (0, .ref b), (1, .ref (ad 0)), (2, .ref (ad 43)), (3, .ref (ad 66)), (4, .ref (ad 67)), (5, .int y5)] dL_law_1300 (by decide) rfl ?_
  refine gz_aload_n K dL_law_1302 3 rfl ?_
  refine gz_aload_n K dL_law_1303 1 rfl ?_
  refine gz_iload K dL_law_1304 6 rfl ?_
  refine gz_iconst K (v := (1 : Int32)) dL_law_1306 (by decide) ?_
  refine gz_iadd K dL_law_1307 ?_
  obtain ⟨h, hp⟩ := hp
  refine gz_sld K hX hbl hbA h dL_law_1308 ?_
  refine gz_callVc K (c_X10_token K.2.2.2.2.2 K.2.2.1 hp) cf_X10_token zq6_54 (by decide) (ce_43 _ _ _ _ _ _) rfl dL_law_1309 rfl rfl (Nat.le_of_ble_eq_true rfl) ⟨Nat.le_of_ble_eq_true rfl, Nat.le_of_ble_eq_true rfl⟩ ⟨show C + 1 + 0 ≤ 603072 by omega, show S + 6 + 0 ≤ 7149674 by omega⟩ (fun _ _ h => h.elim) (fun r1309 τ1309 hp => ?_)
  refine gz_norm (st' := [.int r1309]) (cells' := C + 1) (slots' := S + 6) rfl (show C + 1 + 0 = C + 1 by omega) (show S + 6 + 0 = S + 6 by omega) ?_
  refine gz_istore K [(7, .int r1309), (6, .int r1297), (0, .ref b), (1, .ref (ad 0)), (2, .ref (ad 43)), (3, .ref (ad 66)), (4, .ref (ad 67)), (5, .int y5)] dL_law_1312 (by decide) rfl ?_
  refine gz_aload_n K dL_law_1314 4 rfl ?_
  refine gz_callVc K (c_X10_thrown K.2.2.2.2.2 K.2.2.1 hp) cf_X10_thrown zq5_138 (by decide) (ce_43 _ _ _ _ _ _) rfl dL_law_1315 rfl rfl (Nat.le_of_ble_eq_true rfl) ⟨Nat.le_of_ble_eq_true rfl, Nat.le_of_ble_eq_true rfl⟩ ⟨show C + 1 + 0 ≤ 603072 by omega, show S + 6 + 0 ≤ 7149674 by omega⟩ (fun _ _ h => h.elim) (fun r1315 τ hp => ?_)
  obtain ⟨rfl, hp⟩ := hp
  refine gz_norm (st' := [.int r1315]) (cells' := C + 1) (slots' := S + 6) rfl (show C + 1 + 0 = C + 1 by omega) (show S + 6 + 0 = S + 6 by omega) ?_
  refine gz_iload K dL_law_1318 1 rfl ?_
  refine gz_icmp_eq K 1325 dL_law_1320 (by decide) (fun h => ?_) (fun h => ?_)
  · have hp := hp.1 h
    refine gz_iload K dL_law_1325 1 rfl ?_
    refine gz_if_ne K 1342 dL_law_1327 (by decide) (fun h => ?_) (fun h => ?_)
    · have hp := hp.1 h
      refine gz_goto K 1933 dL_law_1342 (by decide) ?_
      refine gz_iinc K (v := (y5 + (4))) [(5, .int (y5 + (4))), (7, .int r1309), (6, .int r1297), (0, .ref b), (1, .ref (ad 0)), (2, .ref (ad 43)), (3, .ref (ad 66)), (4, .ref (ad 67))] dL_law_1933 7 rfl rfl (by decide) rfl ?_
      refine gz_goto K 28 dL_law_1936 (by decide) ?_
      refine gz_widen (k := C + 20) (n := S + 200) (show C + 1 ≤ C + 20 by omega) (show S + 6 ≤ S + 200 by omega) ?_
      refine gz_sub [3, 4, 5, 6, 7, 0] rfl ?_
      exact ih τ1309 (y5 + (4)) hp
    · have hp := hp.2 h
      refine gz_aload_n K dL_law_1330 5 rfl ?_
      refine gz_iconst K (v := (0 : Int32)) dL_law_1331 (by decide) ?_
      refine gz_lald K (by decide) (ce_66 _ _ _ _ _ _) (by unfold vp_in; decide) dL_law_1332 ?_
      refine gz_iload K dL_law_1333 0 rfl ?_
      refine gz_i2l K dL_law_1335 ?_
      refine gz_lcmp K dL_law_1336 ?_
      refine gz_if_eq K 1342 dL_law_1337 (by decide) (fun h => ?_) (fun h => ?_)
      · have hp := hp.1 h
        refine gz_goto K 1933 dL_law_1342 (by decide) ?_
        refine gz_iinc K (v := (y5 + (4))) [(5, .int (y5 + (4))), (7, .int r1309), (6, .int r1297), (0, .ref b), (1, .ref (ad 0)), (2, .ref (ad 43)), (3, .ref (ad 66)), (4, .ref (ad 67))] dL_law_1933 7 rfl rfl (by decide) rfl ?_
        refine gz_goto K 28 dL_law_1936 (by decide) ?_
        refine gz_widen (k := C + 20) (n := S + 200) (show C + 1 ≤ C + 20 by omega) (show S + 6 ≤ S + 200 by omega) ?_
        refine gz_sub [3, 4, 5, 6, 7, 0] rfl ?_
        exact ih τ1309 (y5 + (4)) hp
      · have hp := hp.2 h
        refine gz_iconst K (v := (0 : Int32)) dL_law_1340 (by decide) ?_
        exact False.elim hp
  · have hp := hp.2 h
    refine gz_iconst K (v := (0 : Int32)) dL_law_1323 (by decide) ?_
    exact False.elim hp
set_option maxRecDepth 100000 in
set_option maxHeartbeats 4000000 in
theorem law_1345 {p : Program} {l : Launch} {e : Env} {s : State} {m : MethodId} {below : List Frame} {meth : Method} {c : Code} {D : va_G} {ad : Nat → Nat} {ty : Nat → ClassId} {b L : Nat} {xs : Nat → Int32} (K : Kz p l s m #[.ref b] meth c D ad ty code 10 RL) (hr : meth.sig.returnType = ret) (had : ∀ k, k < 68 → s.heap.size ≤ ad k) (hX : va_X b L xs s s.heap) (hbl : b < s.heap.size) (hbA : ¬ Az ad s.heap.size b) {rc : Dz → Int32 → Prop} {C S : Nat} (hC : C + 20 ≤ 603072) (hS : S + 200 ≤ 7149674) (ih : ∀ σ y5, rc σ y5 → Gz p l e room_1 s m #[.ref b] below meth c D ad ty 10 (C + 20) (S + 200) (lw_Z below #[.ref b] s) σ 28 [(0, .ref b), (1, .ref (ad 0)), (2, .ref (ad 43)), (3, .ref (ad 66)), (4, .ref (ad 67)), (5, .int y5)] []) {σ : Dz} {y5 : Int32} (hp : B_L_law_1345 L xs rc σ y5) : Gz p l e room_1 s m #[.ref b] below meth c D ad ty 10 C S (lw_Z below #[.ref b] s) σ 1345 [(0, .ref b), (1, .ref (ad 0)), (2, .ref (ad 43)), (3, .ref (ad 66)), (4, .ref (ad 67)), (5, .int y5)] [] := by
  unfold B_L_law_1345 at hp
  refine gz_norm (st' := []) (cells' := C + 0) (slots' := S + 0) rfl rfl rfl ?_
  refine gz_aload_n K dL_law_1345 1 rfl ?_
  refine gz_aload_n K dL_law_1346 3 rfl ?_
  refine gz_callWq K (c_L_depth K.2.2.2.2.2 K.2.2.1 hp) cf_L_depth zq4_130 dL_law_1347 rfl rfl (Nat.le_of_ble_eq_true rfl) ⟨Nat.le_of_ble_eq_true rfl, Nat.le_of_ble_eq_true rfl⟩ ⟨show C + 0 + 1 ≤ 603072 by omega, show S + 0 + 6 ≤ 7149674 by omega⟩ (fun r1347 τ1347 hp => ?_)
  refine gz_norm (st' := [.int r1347]) (cells' := C + 1) (slots' := S + 6) rfl (show C + 0 + 1 = C + 1 by omega) (show S + 0 + 6 = S + 6 by omega) ?_
  refine gz_istore K [(6, .int r1347), (0, .ref b), (1, .ref (ad 0)), (2, .ref (ad 43)), (3, .ref (ad 66)), (4, .ref (ad 67)), (5, .int y5)] dL_law_1350 (by decide) rfl ?_
  refine gz_aload_n K dL_law_1352 3 rfl ?_
  refine gz_callVc K (c_X10_depth K.2.2.2.2.2 K.2.2.1 hp) cf_X10_depth zq6_58 (by decide) (ce_43 _ _ _ _ _ _) rfl dL_law_1353 rfl rfl (Nat.le_of_ble_eq_true rfl) ⟨Nat.le_of_ble_eq_true rfl, Nat.le_of_ble_eq_true rfl⟩ ⟨show C + 1 + 0 ≤ 603072 by omega, show S + 6 + 0 ≤ 7149674 by omega⟩ (fun _ _ h => h.elim) (fun r1353 τ1353 hp => ?_)
  refine gz_norm (st' := [.int r1353]) (cells' := C + 1) (slots' := S + 6) rfl (show C + 1 + 0 = C + 1 by omega) (show S + 6 + 0 = S + 6 by omega) ?_
  refine gz_istore K [(7, .int r1353), (6, .int r1347), (0, .ref b), (1, .ref (ad 0)), (2, .ref (ad 43)), (3, .ref (ad 66)), (4, .ref (ad 67)), (5, .int y5)] dL_law_1356 (by decide) rfl ?_
  refine gz_aload_n K dL_law_1358 4 rfl ?_
  refine gz_callVc K (c_X10_thrown K.2.2.2.2.2 K.2.2.1 hp) cf_X10_thrown zq5_138 (by decide) (ce_43 _ _ _ _ _ _) rfl dL_law_1359 rfl rfl (Nat.le_of_ble_eq_true rfl) ⟨Nat.le_of_ble_eq_true rfl, Nat.le_of_ble_eq_true rfl⟩ ⟨show C + 1 + 0 ≤ 603072 by omega, show S + 6 + 0 ≤ 7149674 by omega⟩ (fun _ _ h => h.elim) (fun r1359 τ hp => ?_)
  obtain ⟨rfl, hp⟩ := hp
  refine gz_norm (st' := [.int r1359]) (cells' := C + 1) (slots' := S + 6) rfl (show C + 1 + 0 = C + 1 by omega) (show S + 6 + 0 = S + 6 by omega) ?_
  refine gz_iload K dL_law_1362 1 rfl ?_
  refine gz_icmp_eq K 1369 dL_law_1364 (by decide) (fun h => ?_) (fun h => ?_)
  · have hp := hp.1 h
    refine gz_iload K dL_law_1369 1 rfl ?_
    refine gz_if_ne K 1386 dL_law_1371 (by decide) (fun h => ?_) (fun h => ?_)
    · have hp := hp.1 h
      refine gz_goto K 1933 dL_law_1386 (by decide) ?_
      refine gz_iinc K (v := (y5 + (4))) [(5, .int (y5 + (4))), (7, .int r1353), (6, .int r1347), (0, .ref b), (1, .ref (ad 0)), (2, .ref (ad 43)), (3, .ref (ad 66)), (4, .ref (ad 67))] dL_law_1933 7 rfl rfl (by decide) rfl ?_
      refine gz_goto K 28 dL_law_1936 (by decide) ?_
      refine gz_widen (k := C + 20) (n := S + 200) (show C + 1 ≤ C + 20 by omega) (show S + 6 ≤ S + 200 by omega) ?_
      refine gz_sub [3, 4, 5, 6, 7, 0] rfl ?_
      exact ih τ1353 (y5 + (4)) hp
    · have hp := hp.2 h
      refine gz_aload_n K dL_law_1374 5 rfl ?_
      refine gz_iconst K (v := (0 : Int32)) dL_law_1375 (by decide) ?_
      refine gz_lald K (by decide) (ce_66 _ _ _ _ _ _) (by unfold vp_in; decide) dL_law_1376 ?_
      refine gz_iload K dL_law_1377 0 rfl ?_
      refine gz_i2l K dL_law_1379 ?_
      refine gz_lcmp K dL_law_1380 ?_
      refine gz_if_eq K 1386 dL_law_1381 (by decide) (fun h => ?_) (fun h => ?_)
      · have hp := hp.1 h
        refine gz_goto K 1933 dL_law_1386 (by decide) ?_
        refine gz_iinc K (v := (y5 + (4))) [(5, .int (y5 + (4))), (7, .int r1353), (6, .int r1347), (0, .ref b), (1, .ref (ad 0)), (2, .ref (ad 43)), (3, .ref (ad 66)), (4, .ref (ad 67))] dL_law_1933 7 rfl rfl (by decide) rfl ?_
        refine gz_goto K 28 dL_law_1936 (by decide) ?_
        refine gz_widen (k := C + 20) (n := S + 200) (show C + 1 ≤ C + 20 by omega) (show S + 6 ≤ S + 200 by omega) ?_
        refine gz_sub [3, 4, 5, 6, 7, 0] rfl ?_
        exact ih τ1353 (y5 + (4)) hp
      · have hp := hp.2 h
        refine gz_iconst K (v := (0 : Int32)) dL_law_1384 (by decide) ?_
        exact False.elim hp
  · have hp := hp.2 h
    refine gz_iconst K (v := (0 : Int32)) dL_law_1367 (by decide) ?_
    exact False.elim hp
set_option maxRecDepth 100000 in
set_option maxHeartbeats 4000000 in
theorem law_1389 {p : Program} {l : Launch} {e : Env} {s : State} {m : MethodId} {below : List Frame} {meth : Method} {c : Code} {D : va_G} {ad : Nat → Nat} {ty : Nat → ClassId} {b L : Nat} {xs : Nat → Int32} (K : Kz p l s m #[.ref b] meth c D ad ty code 10 RL) (hr : meth.sig.returnType = ret) (had : ∀ k, k < 68 → s.heap.size ≤ ad k) (hX : va_X b L xs s s.heap) (hbl : b < s.heap.size) (hbA : ¬ Az ad s.heap.size b) {rc : Dz → Int32 → Prop} {C S : Nat} (hC : C + 20 ≤ 603072) (hS : S + 200 ≤ 7149674) (ih : ∀ σ y5, rc σ y5 → Gz p l e room_1 s m #[.ref b] below meth c D ad ty 10 (C + 20) (S + 200) (lw_Z below #[.ref b] s) σ 28 [(0, .ref b), (1, .ref (ad 0)), (2, .ref (ad 43)), (3, .ref (ad 66)), (4, .ref (ad 67)), (5, .int y5)] []) {σ : Dz} {y5 : Int32} (hp : B_L_law_1389 L xs rc σ y5) : Gz p l e room_1 s m #[.ref b] below meth c D ad ty 10 C S (lw_Z below #[.ref b] s) σ 1389 [(0, .ref b), (1, .ref (ad 0)), (2, .ref (ad 43)), (3, .ref (ad 66)), (4, .ref (ad 67)), (5, .int y5)] [] := by
  unfold B_L_law_1389 at hp
  refine gz_norm (st' := []) (cells' := C + 0) (slots' := S + 0) rfl rfl rfl ?_
  refine gz_aload_n K dL_law_1389 1 rfl ?_
  refine gz_aload_n K dL_law_1390 0 rfl ?_
  refine gz_iload K dL_law_1391 5 rfl ?_
  refine gz_iconst K (v := (1 : Int32)) dL_law_1393 (by decide) ?_
  refine gz_iadd K dL_law_1394 ?_
  obtain ⟨h, hp⟩ := hp
  refine gz_sld K hX hbl hbA h dL_law_1395 ?_
  refine gz_aload_n K dL_law_1396 3 rfl ?_
  refine gz_callWq K (c_L_solve K.2.2.2.2.2 K.2.2.1 hp) cf_L_solve zq4_146 dL_law_1397 rfl rfl (Nat.le_of_ble_eq_true rfl) ⟨Nat.le_of_ble_eq_true rfl, Nat.le_of_ble_eq_true rfl⟩ ⟨show C + 0 + 2 ≤ 603072 by omega, show S + 0 + 12 ≤ 7149674 by omega⟩ (fun r1397 τ1397 hp => ?_)
  refine gz_norm (st' := [.int r1397]) (cells' := C + 2) (slots' := S + 12) rfl (show C + 0 + 2 = C + 2 by omega) (show S + 0 + 12 = S + 12 by omega) ?_
  refine gz_istore K [(6, .int r1397), (0, .ref b), (1, .ref (ad 0)), (2, .ref (ad 43)), (3, .ref (ad 66)), (4, .ref (ad 67)), (5, .int y5)] dL_law_1400 (by decide) rfl ?_
  refine gz_aload_n K dL_law_1402 3 rfl ?_
  refine gz_aload_n K dL_law_1403 1 rfl ?_
  refine gz_iload K dL_law_1404 6 rfl ?_
  refine gz_iconst K (v := (1 : Int32)) dL_law_1406 (by decide) ?_
  refine gz_iadd K dL_law_1407 ?_
  obtain ⟨h, hp⟩ := hp
  refine gz_sld K hX hbl hbA h dL_law_1408 ?_
  refine gz_callVc K (c_X10_solve K.2.2.2.2.2 K.2.2.1 hp) cf_X10_solve zq6_90 (by decide) (ce_43 _ _ _ _ _ _) rfl dL_law_1409 rfl rfl (Nat.le_of_ble_eq_true rfl) ⟨Nat.le_of_ble_eq_true rfl, Nat.le_of_ble_eq_true rfl⟩ ⟨show C + 2 + 0 ≤ 603072 by omega, show S + 12 + 0 ≤ 7149674 by omega⟩ (fun _ _ h => h.elim) (fun r1409 τ1409 hp => ?_)
  refine gz_norm (st' := [.int r1409]) (cells' := C + 2) (slots' := S + 12) rfl (show C + 2 + 0 = C + 2 by omega) (show S + 12 + 0 = S + 12 by omega) ?_
  refine gz_istore K [(7, .int r1409), (6, .int r1397), (0, .ref b), (1, .ref (ad 0)), (2, .ref (ad 43)), (3, .ref (ad 66)), (4, .ref (ad 67)), (5, .int y5)] dL_law_1412 (by decide) rfl ?_
  refine gz_aload_n K dL_law_1414 4 rfl ?_
  refine gz_callVc K (c_X10_thrown K.2.2.2.2.2 K.2.2.1 hp) cf_X10_thrown zq5_138 (by decide) (ce_43 _ _ _ _ _ _) rfl dL_law_1415 rfl rfl (Nat.le_of_ble_eq_true rfl) ⟨Nat.le_of_ble_eq_true rfl, Nat.le_of_ble_eq_true rfl⟩ ⟨show C + 2 + 0 ≤ 603072 by omega, show S + 12 + 0 ≤ 7149674 by omega⟩ (fun _ _ h => h.elim) (fun r1415 τ hp => ?_)
  obtain ⟨rfl, hp⟩ := hp
  refine gz_norm (st' := [.int r1415]) (cells' := C + 2) (slots' := S + 12) rfl (show C + 2 + 0 = C + 2 by omega) (show S + 12 + 0 = S + 12 by omega) ?_
  refine gz_iload K dL_law_1418 1 rfl ?_
  refine gz_icmp_eq K 1425 dL_law_1420 (by decide) (fun h => ?_) (fun h => ?_)
  · have hp := hp.1 h
    refine gz_iload K dL_law_1425 1 rfl ?_
    refine gz_if_ne K 1442 dL_law_1427 (by decide) (fun h => ?_) (fun h => ?_)
    · have hp := hp.1 h
      refine gz_goto K 1933 dL_law_1442 (by decide) ?_
      refine gz_iinc K (v := (y5 + (4))) [(5, .int (y5 + (4))), (7, .int r1409), (6, .int r1397), (0, .ref b), (1, .ref (ad 0)), (2, .ref (ad 43)), (3, .ref (ad 66)), (4, .ref (ad 67))] dL_law_1933 7 rfl rfl (by decide) rfl ?_
      refine gz_goto K 28 dL_law_1936 (by decide) ?_
      refine gz_widen (k := C + 20) (n := S + 200) (show C + 2 ≤ C + 20 by omega) (show S + 12 ≤ S + 200 by omega) ?_
      refine gz_sub [3, 4, 5, 6, 7, 0] rfl ?_
      exact ih τ1409 (y5 + (4)) hp
    · have hp := hp.2 h
      refine gz_aload_n K dL_law_1430 5 rfl ?_
      refine gz_iconst K (v := (0 : Int32)) dL_law_1431 (by decide) ?_
      refine gz_lald K (by decide) (ce_66 _ _ _ _ _ _) (by unfold vp_in; decide) dL_law_1432 ?_
      refine gz_iload K dL_law_1433 0 rfl ?_
      refine gz_i2l K dL_law_1435 ?_
      refine gz_lcmp K dL_law_1436 ?_
      refine gz_if_eq K 1442 dL_law_1437 (by decide) (fun h => ?_) (fun h => ?_)
      · have hp := hp.1 h
        refine gz_goto K 1933 dL_law_1442 (by decide) ?_
        refine gz_iinc K (v := (y5 + (4))) [(5, .int (y5 + (4))), (7, .int r1409), (6, .int r1397), (0, .ref b), (1, .ref (ad 0)), (2, .ref (ad 43)), (3, .ref (ad 66)), (4, .ref (ad 67))] dL_law_1933 7 rfl rfl (by decide) rfl ?_
        refine gz_goto K 28 dL_law_1936 (by decide) ?_
        refine gz_widen (k := C + 20) (n := S + 200) (show C + 2 ≤ C + 20 by omega) (show S + 12 ≤ S + 200 by omega) ?_
        refine gz_sub [3, 4, 5, 6, 7, 0] rfl ?_
        exact ih τ1409 (y5 + (4)) hp
      · have hp := hp.2 h
        refine gz_iconst K (v := (0 : Int32)) dL_law_1440 (by decide) ?_
        exact False.elim hp
  · have hp := hp.2 h
    refine gz_iconst K (v := (0 : Int32)) dL_law_1423 (by decide) ?_
    exact False.elim hp
set_option maxRecDepth 100000 in
set_option maxHeartbeats 4000000 in
theorem law_1445 {p : Program} {l : Launch} {e : Env} {s : State} {m : MethodId} {below : List Frame} {meth : Method} {c : Code} {D : va_G} {ad : Nat → Nat} {ty : Nat → ClassId} {b L : Nat} {xs : Nat → Int32} (K : Kz p l s m #[.ref b] meth c D ad ty code 10 RL) (hr : meth.sig.returnType = ret) (had : ∀ k, k < 68 → s.heap.size ≤ ad k) (hX : va_X b L xs s s.heap) (hbl : b < s.heap.size) (hbA : ¬ Az ad s.heap.size b) {rc : Dz → Int32 → Prop} {C S : Nat} (hC : C + 20 ≤ 603072) (hS : S + 200 ≤ 7149674) (ih : ∀ σ y5, rc σ y5 → Gz p l e room_1 s m #[.ref b] below meth c D ad ty 10 (C + 20) (S + 200) (lw_Z below #[.ref b] s) σ 28 [(0, .ref b), (1, .ref (ad 0)), (2, .ref (ad 43)), (3, .ref (ad 66)), (4, .ref (ad 67)), (5, .int y5)] []) {σ : Dz} {y5 : Int32} (hp : B_L_law_1445 L xs rc σ y5) : Gz p l e room_1 s m #[.ref b] below meth c D ad ty 10 C S (lw_Z below #[.ref b] s) σ 1445 [(0, .ref b), (1, .ref (ad 0)), (2, .ref (ad 43)), (3, .ref (ad 66)), (4, .ref (ad 67)), (5, .int y5)] [] := by
  unfold B_L_law_1445 at hp
  refine gz_norm (st' := []) (cells' := C + 0) (slots' := S + 0) rfl rfl rfl ?_
  refine gz_aload_n K dL_law_1445 1 rfl ?_
  refine gz_aload_n K dL_law_1446 0 rfl ?_
  refine gz_iload K dL_law_1447 5 rfl ?_
  refine gz_iconst K (v := (1 : Int32)) dL_law_1449 (by decide) ?_
  refine gz_iadd K dL_law_1450 ?_
  obtain ⟨h, hp⟩ := hp
  refine gz_sld K hX hbl hbA h dL_law_1451 ?_
  refine gz_callVc K (c_X9_countAt K.2.2.2.2.2 K.2.2.1 hp) cf_X9_countAt zq2_14 (by decide) (ce_0 _ _ _ _ _ _) rfl dL_law_1452 rfl rfl (Nat.le_of_ble_eq_true rfl) ⟨Nat.le_of_ble_eq_true rfl, Nat.le_of_ble_eq_true rfl⟩ ⟨show C + 0 + 0 ≤ 603072 by omega, show S + 0 + 0 ≤ 7149674 by omega⟩ (fun _ _ h => h.elim) (fun r1452 τ1452 hp => ?_)
  refine gz_norm (st' := [.int r1452]) (cells' := C + 0) (slots' := S + 0) rfl (show C + 0 + 0 = C + 0 by omega) (show S + 0 + 0 = S + 0 by omega) ?_
  refine gz_aload_n K dL_law_1455 2 rfl ?_
  refine gz_aload_n K dL_law_1456 0 rfl ?_
  refine gz_iload K dL_law_1457 5 rfl ?_
  refine gz_iconst K (v := (1 : Int32)) dL_law_1459 (by decide) ?_
  refine gz_iadd K dL_law_1460 ?_
  obtain ⟨h, hp⟩ := hp
  refine gz_sld K hX hbl hbA h dL_law_1461 ?_
  refine gz_callVc K (c_X10_countAt K.2.2.2.2.2 K.2.2.1 hp) cf_X10_countAt zq6_94 (by decide) (ce_43 _ _ _ _ _ _) rfl dL_law_1462 rfl rfl (Nat.le_of_ble_eq_true rfl) ⟨Nat.le_of_ble_eq_true rfl, Nat.le_of_ble_eq_true rfl⟩ ⟨show C + 0 + 0 ≤ 603072 by omega, show S + 0 + 0 ≤ 7149674 by omega⟩ (fun _ _ h => h.elim) (fun r1462 τ1462 hp => ?_)
  refine gz_norm (st' := [.int r1462, .int r1452]) (cells' := C + 0) (slots' := S + 0) rfl (show C + 0 + 0 = C + 0 by omega) (show S + 0 + 0 = S + 0 by omega) ?_
  refine gz_icmp_eq K 1933 dL_law_1465 (by decide) (fun h => ?_) (fun h => ?_)
  · have hp := hp.1 h
    refine gz_iinc K (v := (y5 + (4))) [(5, .int (y5 + (4))), (0, .ref b), (1, .ref (ad 0)), (2, .ref (ad 43)), (3, .ref (ad 66)), (4, .ref (ad 67))] dL_law_1933 5 rfl rfl (by decide) rfl ?_
    refine gz_goto K 28 dL_law_1936 (by decide) ?_
    refine gz_widen (k := C + 20) (n := S + 200) (show C + 0 ≤ C + 20 by omega) (show S + 0 ≤ S + 200 by omega) ?_
    refine gz_sub [1, 2, 3, 4, 5, 0] rfl ?_
    exact ih τ1462 (y5 + (4)) hp
  · have hp := hp.2 h
    refine gz_iconst K (v := (0 : Int32)) dL_law_1468 (by decide) ?_
    exact False.elim hp
set_option maxRecDepth 100000 in
set_option maxHeartbeats 4000000 in
theorem law_1470 {p : Program} {l : Launch} {e : Env} {s : State} {m : MethodId} {below : List Frame} {meth : Method} {c : Code} {D : va_G} {ad : Nat → Nat} {ty : Nat → ClassId} {b L : Nat} {xs : Nat → Int32} (K : Kz p l s m #[.ref b] meth c D ad ty code 10 RL) (hr : meth.sig.returnType = ret) (had : ∀ k, k < 68 → s.heap.size ≤ ad k) (hX : va_X b L xs s s.heap) (hbl : b < s.heap.size) (hbA : ¬ Az ad s.heap.size b) {rc : Dz → Int32 → Prop} {C S : Nat} (hC : C + 20 ≤ 603072) (hS : S + 200 ≤ 7149674) (ih : ∀ σ y5, rc σ y5 → Gz p l e room_1 s m #[.ref b] below meth c D ad ty 10 (C + 20) (S + 200) (lw_Z below #[.ref b] s) σ 28 [(0, .ref b), (1, .ref (ad 0)), (2, .ref (ad 43)), (3, .ref (ad 66)), (4, .ref (ad 67)), (5, .int y5)] []) {σ : Dz} {y5 : Int32} (hp : B_L_law_1470 L xs rc σ y5) : Gz p l e room_1 s m #[.ref b] below meth c D ad ty 10 C S (lw_Z below #[.ref b] s) σ 1470 [(0, .ref b), (1, .ref (ad 0)), (2, .ref (ad 43)), (3, .ref (ad 66)), (4, .ref (ad 67)), (5, .int y5)] [] := by
  unfold B_L_law_1470 at hp
  refine gz_norm (st' := []) (cells' := C + 0) (slots' := S + 0) rfl rfl rfl ?_
  refine gz_aload_n K dL_law_1470 1 rfl ?_
  refine gz_callVc K (c_X9_reachable K.2.2.2.2.2 K.2.2.1 hp) cf_X9_reachable zq2_66 (by decide) (ce_0 _ _ _ _ _ _) rfl dL_law_1471 rfl rfl (Nat.le_of_ble_eq_true rfl) ⟨Nat.le_of_ble_eq_true rfl, Nat.le_of_ble_eq_true rfl⟩ ⟨show C + 0 + 0 ≤ 603072 by omega, show S + 0 + 0 ≤ 7149674 by omega⟩ (fun _ _ h => h.elim) (fun r1471 τ1471 hp => ?_)
  refine gz_norm (st' := [.int r1471]) (cells' := C + 0) (slots' := S + 0) rfl (show C + 0 + 0 = C + 0 by omega) (show S + 0 + 0 = S + 0 by omega) ?_
  refine gz_aload_n K dL_law_1474 2 rfl ?_
  refine gz_callVc K (c_X10_reachable K.2.2.2.2.2 K.2.2.1 hp) cf_X10_reachable zq6_98 (by decide) (ce_43 _ _ _ _ _ _) rfl dL_law_1475 rfl rfl (Nat.le_of_ble_eq_true rfl) ⟨Nat.le_of_ble_eq_true rfl, Nat.le_of_ble_eq_true rfl⟩ ⟨show C + 0 + 0 ≤ 603072 by omega, show S + 0 + 0 ≤ 7149674 by omega⟩ (fun _ _ h => h.elim) (fun r1475 τ1475 hp => ?_)
  refine gz_norm (st' := [.int r1475, .int r1471]) (cells' := C + 0) (slots' := S + 0) rfl (show C + 0 + 0 = C + 0 by omega) (show S + 0 + 0 = S + 0 by omega) ?_
  refine gz_icmp_eq K 1933 dL_law_1478 (by decide) (fun h => ?_) (fun h => ?_)
  · have hp := hp.1 h
    refine gz_iinc K (v := (y5 + (4))) [(5, .int (y5 + (4))), (0, .ref b), (1, .ref (ad 0)), (2, .ref (ad 43)), (3, .ref (ad 66)), (4, .ref (ad 67))] dL_law_1933 5 rfl rfl (by decide) rfl ?_
    refine gz_goto K 28 dL_law_1936 (by decide) ?_
    refine gz_widen (k := C + 20) (n := S + 200) (show C + 0 ≤ C + 20 by omega) (show S + 0 ≤ S + 200 by omega) ?_
    refine gz_sub [1, 2, 3, 4, 5, 0] rfl ?_
    exact ih τ1475 (y5 + (4)) hp
  · have hp := hp.2 h
    refine gz_iconst K (v := (0 : Int32)) dL_law_1481 (by decide) ?_
    exact False.elim hp
set_option maxRecDepth 100000 in
set_option maxHeartbeats 4000000 in
theorem law_1483 {p : Program} {l : Launch} {e : Env} {s : State} {m : MethodId} {below : List Frame} {meth : Method} {c : Code} {D : va_G} {ad : Nat → Nat} {ty : Nat → ClassId} {b L : Nat} {xs : Nat → Int32} (K : Kz p l s m #[.ref b] meth c D ad ty code 10 RL) (hr : meth.sig.returnType = ret) (had : ∀ k, k < 68 → s.heap.size ≤ ad k) (hX : va_X b L xs s s.heap) (hbl : b < s.heap.size) (hbA : ¬ Az ad s.heap.size b) {rc : Dz → Int32 → Prop} {C S : Nat} (hC : C + 20 ≤ 603072) (hS : S + 200 ≤ 7149674) (ih : ∀ σ y5, rc σ y5 → Gz p l e room_1 s m #[.ref b] below meth c D ad ty 10 (C + 20) (S + 200) (lw_Z below #[.ref b] s) σ 28 [(0, .ref b), (1, .ref (ad 0)), (2, .ref (ad 43)), (3, .ref (ad 66)), (4, .ref (ad 67)), (5, .int y5)] []) {σ : Dz} {y5 : Int32} (hp : B_L_law_1483 L xs rc σ y5) : Gz p l e room_1 s m #[.ref b] below meth c D ad ty 10 C S (lw_Z below #[.ref b] s) σ 1483 [(0, .ref b), (1, .ref (ad 0)), (2, .ref (ad 43)), (3, .ref (ad 66)), (4, .ref (ad 67)), (5, .int y5)] [] := by
  unfold B_L_law_1483 at hp
  refine gz_norm (st' := []) (cells' := C + 0) (slots' := S + 0) rfl rfl rfl ?_
  refine gz_aload_n K dL_law_1483 1 rfl ?_
  refine gz_callVc K (c_X9_greatestDepth K.2.2.2.2.2 K.2.2.1 hp) cf_X9_greatestDepth zq2_74 (by decide) (ce_0 _ _ _ _ _ _) rfl dL_law_1484 rfl rfl (Nat.le_of_ble_eq_true rfl) ⟨Nat.le_of_ble_eq_true rfl, Nat.le_of_ble_eq_true rfl⟩ ⟨show C + 0 + 0 ≤ 603072 by omega, show S + 0 + 0 ≤ 7149674 by omega⟩ (fun _ _ h => h.elim) (fun r1484 τ1484 hp => ?_)
  refine gz_norm (st' := [.int r1484]) (cells' := C + 0) (slots' := S + 0) rfl (show C + 0 + 0 = C + 0 by omega) (show S + 0 + 0 = S + 0 by omega) ?_
  refine gz_aload_n K dL_law_1487 2 rfl ?_
  refine gz_callVc K (c_X10_greatestDepth K.2.2.2.2.2 K.2.2.1 hp) cf_X10_greatestDepth zq6_102 (by decide) (ce_43 _ _ _ _ _ _) rfl dL_law_1488 rfl rfl (Nat.le_of_ble_eq_true rfl) ⟨Nat.le_of_ble_eq_true rfl, Nat.le_of_ble_eq_true rfl⟩ ⟨show C + 0 + 0 ≤ 603072 by omega, show S + 0 + 0 ≤ 7149674 by omega⟩ (fun _ _ h => h.elim) (fun r1488 τ1488 hp => ?_)
  refine gz_norm (st' := [.int r1488, .int r1484]) (cells' := C + 0) (slots' := S + 0) rfl (show C + 0 + 0 = C + 0 by omega) (show S + 0 + 0 = S + 0 by omega) ?_
  refine gz_icmp_eq K 1933 dL_law_1491 (by decide) (fun h => ?_) (fun h => ?_)
  · have hp := hp.1 h
    refine gz_iinc K (v := (y5 + (4))) [(5, .int (y5 + (4))), (0, .ref b), (1, .ref (ad 0)), (2, .ref (ad 43)), (3, .ref (ad 66)), (4, .ref (ad 67))] dL_law_1933 5 rfl rfl (by decide) rfl ?_
    refine gz_goto K 28 dL_law_1936 (by decide) ?_
    refine gz_widen (k := C + 20) (n := S + 200) (show C + 0 ≤ C + 20 by omega) (show S + 0 ≤ S + 200 by omega) ?_
    refine gz_sub [1, 2, 3, 4, 5, 0] rfl ?_
    exact ih τ1488 (y5 + (4)) hp
  · have hp := hp.2 h
    refine gz_iconst K (v := (0 : Int32)) dL_law_1494 (by decide) ?_
    exact False.elim hp
set_option maxRecDepth 100000 in
set_option maxHeartbeats 4000000 in
theorem law_1496 {p : Program} {l : Launch} {e : Env} {s : State} {m : MethodId} {below : List Frame} {meth : Method} {c : Code} {D : va_G} {ad : Nat → Nat} {ty : Nat → ClassId} {b L : Nat} {xs : Nat → Int32} (K : Kz p l s m #[.ref b] meth c D ad ty code 10 RL) (hr : meth.sig.returnType = ret) (had : ∀ k, k < 68 → s.heap.size ≤ ad k) (hX : va_X b L xs s s.heap) (hbl : b < s.heap.size) (hbA : ¬ Az ad s.heap.size b) {rc : Dz → Int32 → Prop} {C S : Nat} (hC : C + 20 ≤ 603072) (hS : S + 200 ≤ 7149674) (ih : ∀ σ y5, rc σ y5 → Gz p l e room_1 s m #[.ref b] below meth c D ad ty 10 (C + 20) (S + 200) (lw_Z below #[.ref b] s) σ 28 [(0, .ref b), (1, .ref (ad 0)), (2, .ref (ad 43)), (3, .ref (ad 66)), (4, .ref (ad 67)), (5, .int y5)] []) {σ : Dz} {y5 : Int32} (hp : B_L_law_1496 L xs rc σ y5) : Gz p l e room_1 s m #[.ref b] below meth c D ad ty 10 C S (lw_Z below #[.ref b] s) σ 1496 [(0, .ref b), (1, .ref (ad 0)), (2, .ref (ad 43)), (3, .ref (ad 66)), (4, .ref (ad 67)), (5, .int y5)] [] := by
  unfold B_L_law_1496 at hp
  refine gz_norm (st' := []) (cells' := C + 0) (slots' := S + 0) rfl rfl rfl ?_
  refine gz_aload_n K dL_law_1496 1 rfl ?_
  refine gz_callVc K (c_X9_averageDepth K.2.2.2.2.2 K.2.2.1 hp) cf_X9_averageDepth zq2_82 (by decide) (ce_0 _ _ _ _ _ _) rfl dL_law_1497 rfl rfl (Nat.le_of_ble_eq_true rfl) ⟨Nat.le_of_ble_eq_true rfl, Nat.le_of_ble_eq_true rfl⟩ ⟨show C + 0 + 0 ≤ 603072 by omega, show S + 0 + 0 ≤ 7149674 by omega⟩ (fun _ _ h => h.elim) (fun r1497 τ1497 hp => ?_)
  refine gz_norm (st' := [.double r1497]) (cells' := C + 0) (slots' := S + 0) rfl (show C + 0 + 0 = C + 0 by omega) (show S + 0 + 0 = S + 0 by omega) ?_
  refine gz_dstore K [(6, .double r1497), (0, .ref b), (1, .ref (ad 0)), (2, .ref (ad 43)), (3, .ref (ad 66)), (4, .ref (ad 67)), (5, .int y5)] dL_law_1500 (by decide) rfl ?_
  refine gz_aload_n K dL_law_1502 3 rfl ?_
  refine gz_callVc K (c_X10_averageDepth K.2.2.2.2.2 K.2.2.1 hp) cf_X10_averageDepth zq6_106 (by decide) (ce_43 _ _ _ _ _ _) rfl dL_law_1503 rfl rfl (Nat.le_of_ble_eq_true rfl) ⟨Nat.le_of_ble_eq_true rfl, Nat.le_of_ble_eq_true rfl⟩ ⟨show C + 0 + 0 ≤ 603072 by omega, show S + 0 + 0 ≤ 7149674 by omega⟩ (fun _ _ h => h.elim) (fun r1503 τ1503 hp => ?_)
  refine gz_norm (st' := [.double r1503]) (cells' := C + 0) (slots' := S + 0) rfl (show C + 0 + 0 = C + 0 by omega) (show S + 0 + 0 = S + 0 by omega) ?_
  refine gz_dstore K [(8, .double r1503), (6, .double r1497), (0, .ref b), (1, .ref (ad 0)), (2, .ref (ad 43)), (3, .ref (ad 66)), (4, .ref (ad 67)), (5, .int y5)] dL_law_1506 (by decide) rfl ?_
  refine gz_dload K dL_law_1508 1 rfl ?_
  refine gz_dload K dL_law_1510 0 rfl ?_
  refine gz_dcmp K dL_law_1512 ?_
  refine gz_if_eq K 1534 dL_law_1513 (by decide) (fun h => ?_) (fun h => ?_)
  · have hp := hp.1 h
    refine gz_goto K 1933 dL_law_1534 (by decide) ?_
    refine gz_iinc K (v := (y5 + (4))) [(5, .int (y5 + (4))), (8, .double r1503), (6, .double r1497), (0, .ref b), (1, .ref (ad 0)), (2, .ref (ad 43)), (3, .ref (ad 66)), (4, .ref (ad 67))] dL_law_1933 7 rfl rfl (by decide) rfl ?_
    refine gz_goto K 28 dL_law_1936 (by decide) ?_
    refine gz_widen (k := C + 20) (n := S + 200) (show C + 0 ≤ C + 20 by omega) (show S + 0 ≤ S + 200 by omega) ?_
    refine gz_sub [3, 4, 5, 6, 7, 0] rfl ?_
    exact ih τ1503 (y5 + (4)) hp
  · have hp := hp.2 h
    refine gz_dload K dL_law_1516 1 rfl ?_
    refine gz_dload K dL_law_1518 1 rfl ?_
    refine gz_dcmp K dL_law_1520 ?_
    refine gz_if_eq K 1532 dL_law_1521 (by decide) (fun h => ?_) (fun h => ?_)
    · have hp := hp.1 h
      refine gz_iconst K (v := (0 : Int32)) dL_law_1532 (by decide) ?_
      exact False.elim hp
    · have hp := hp.2 h
      refine gz_dload K dL_law_1524 0 rfl ?_
      refine gz_dload K dL_law_1526 0 rfl ?_
      refine gz_dcmp K dL_law_1528 ?_
      refine gz_if_ne K 1534 dL_law_1529 (by decide) (fun h => ?_) (fun h => ?_)
      · have hp := hp.1 h
        refine gz_goto K 1933 dL_law_1534 (by decide) ?_
        refine gz_iinc K (v := (y5 + (4))) [(5, .int (y5 + (4))), (8, .double r1503), (6, .double r1497), (0, .ref b), (1, .ref (ad 0)), (2, .ref (ad 43)), (3, .ref (ad 66)), (4, .ref (ad 67))] dL_law_1933 7 rfl rfl (by decide) rfl ?_
        refine gz_goto K 28 dL_law_1936 (by decide) ?_
        refine gz_widen (k := C + 20) (n := S + 200) (show C + 0 ≤ C + 20 by omega) (show S + 0 ≤ S + 200 by omega) ?_
        refine gz_sub [3, 4, 5, 6, 7, 0] rfl ?_
        exact ih τ1503 (y5 + (4)) hp
      · have hp := hp.2 h
        refine gz_iconst K (v := (0 : Int32)) dL_law_1532 (by decide) ?_
        exact False.elim hp
set_option maxRecDepth 100000 in
set_option maxHeartbeats 4000000 in
theorem law_1537 {p : Program} {l : Launch} {e : Env} {s : State} {m : MethodId} {below : List Frame} {meth : Method} {c : Code} {D : va_G} {ad : Nat → Nat} {ty : Nat → ClassId} {b L : Nat} {xs : Nat → Int32} (K : Kz p l s m #[.ref b] meth c D ad ty code 10 RL) (hr : meth.sig.returnType = ret) (had : ∀ k, k < 68 → s.heap.size ≤ ad k) (hX : va_X b L xs s s.heap) (hbl : b < s.heap.size) (hbA : ¬ Az ad s.heap.size b) {rc : Dz → Int32 → Prop} {C S : Nat} (hC : C + 20 ≤ 603072) (hS : S + 200 ≤ 7149674) (ih : ∀ σ y5, rc σ y5 → Gz p l e room_1 s m #[.ref b] below meth c D ad ty 10 (C + 20) (S + 200) (lw_Z below #[.ref b] s) σ 28 [(0, .ref b), (1, .ref (ad 0)), (2, .ref (ad 43)), (3, .ref (ad 66)), (4, .ref (ad 67)), (5, .int y5)] []) {σ : Dz} {y5 : Int32} (hp : B_L_law_1537 L xs rc σ y5) : Gz p l e room_1 s m #[.ref b] below meth c D ad ty 10 C S (lw_Z below #[.ref b] s) σ 1537 [(0, .ref b), (1, .ref (ad 0)), (2, .ref (ad 43)), (3, .ref (ad 66)), (4, .ref (ad 67)), (5, .int y5)] [] := by
  unfold B_L_law_1537 at hp
  refine gz_norm (st' := []) (cells' := C + 0) (slots' := S + 0) rfl rfl rfl ?_
  refine gz_aload_n K dL_law_1537 1 rfl ?_
  refine gz_aload_n K dL_law_1538 0 rfl ?_
  refine gz_iload K dL_law_1539 5 rfl ?_
  refine gz_iconst K (v := (1 : Int32)) dL_law_1541 (by decide) ?_
  refine gz_iadd K dL_law_1542 ?_
  obtain ⟨h, hp⟩ := hp
  refine gz_sld K hX hbl hbA h dL_law_1543 ?_
  refine gz_aload_n K dL_law_1544 3 rfl ?_
  refine gz_callWq K (c_L_orbit K.2.2.2.2.2 K.2.2.1 hp) cf_L_orbit zq4_158 dL_law_1545 rfl rfl (Nat.le_of_ble_eq_true rfl) ⟨Nat.le_of_ble_eq_true rfl, Nat.le_of_ble_eq_true rfl⟩ ⟨show C + 0 + 1 ≤ 603072 by omega, show S + 0 + 6 ≤ 7149674 by omega⟩ (fun r1545 τ1545 hp => ?_)
  refine gz_norm (st' := [.int r1545]) (cells' := C + 1) (slots' := S + 6) rfl (show C + 0 + 1 = C + 1 by omega) (show S + 0 + 6 = S + 6 by omega) ?_
  refine gz_istore K [(6, .int r1545), (0, .ref b), (1, .ref (ad 0)), (2, .ref (ad 43)), (3, .ref (ad 66)), (4, .ref (ad 67)), (5, .int y5)] dL_law_1548 (by decide) rfl ?_
  refine gz_aload_n K dL_law_1550 3 rfl ?_
  refine gz_aload_n K dL_law_1551 1 rfl ?_
  refine gz_iload K dL_law_1552 6 rfl ?_
  refine gz_iconst K (v := (1 : Int32)) dL_law_1554 (by decide) ?_
  refine gz_iadd K dL_law_1555 ?_
  obtain ⟨h, hp⟩ := hp
  refine gz_sld K hX hbl hbA h dL_law_1556 ?_
  refine gz_callVc K (c_X10_orbit K.2.2.2.2.2 K.2.2.1 hp) cf_X10_orbit zq6_110 (by decide) (ce_43 _ _ _ _ _ _) rfl dL_law_1557 rfl rfl (Nat.le_of_ble_eq_true rfl) ⟨Nat.le_of_ble_eq_true rfl, Nat.le_of_ble_eq_true rfl⟩ ⟨show C + 1 + 0 ≤ 603072 by omega, show S + 6 + 0 ≤ 7149674 by omega⟩ (fun _ _ h => h.elim) (fun r1557 τ1557 hp => ?_)
  refine gz_norm (st' := [.int r1557]) (cells' := C + 1) (slots' := S + 6) rfl (show C + 1 + 0 = C + 1 by omega) (show S + 6 + 0 = S + 6 by omega) ?_
  refine gz_istore K [(7, .int r1557), (6, .int r1545), (0, .ref b), (1, .ref (ad 0)), (2, .ref (ad 43)), (3, .ref (ad 66)), (4, .ref (ad 67)), (5, .int y5)] dL_law_1560 (by decide) rfl ?_
  refine gz_aload_n K dL_law_1562 4 rfl ?_
  refine gz_callVc K (c_X10_thrown K.2.2.2.2.2 K.2.2.1 hp) cf_X10_thrown zq5_138 (by decide) (ce_43 _ _ _ _ _ _) rfl dL_law_1563 rfl rfl (Nat.le_of_ble_eq_true rfl) ⟨Nat.le_of_ble_eq_true rfl, Nat.le_of_ble_eq_true rfl⟩ ⟨show C + 1 + 0 ≤ 603072 by omega, show S + 6 + 0 ≤ 7149674 by omega⟩ (fun _ _ h => h.elim) (fun r1563 τ hp => ?_)
  obtain ⟨rfl, hp⟩ := hp
  refine gz_norm (st' := [.int r1563]) (cells' := C + 1) (slots' := S + 6) rfl (show C + 1 + 0 = C + 1 by omega) (show S + 6 + 0 = S + 6 by omega) ?_
  refine gz_iload K dL_law_1566 1 rfl ?_
  refine gz_icmp_eq K 1573 dL_law_1568 (by decide) (fun h => ?_) (fun h => ?_)
  · have hp := hp.1 h
    refine gz_iload K dL_law_1573 1 rfl ?_
    refine gz_if_ne K 1590 dL_law_1575 (by decide) (fun h => ?_) (fun h => ?_)
    · have hp := hp.1 h
      refine gz_goto K 1933 dL_law_1590 (by decide) ?_
      refine gz_iinc K (v := (y5 + (4))) [(5, .int (y5 + (4))), (7, .int r1557), (6, .int r1545), (0, .ref b), (1, .ref (ad 0)), (2, .ref (ad 43)), (3, .ref (ad 66)), (4, .ref (ad 67))] dL_law_1933 7 rfl rfl (by decide) rfl ?_
      refine gz_goto K 28 dL_law_1936 (by decide) ?_
      refine gz_widen (k := C + 20) (n := S + 200) (show C + 1 ≤ C + 20 by omega) (show S + 6 ≤ S + 200 by omega) ?_
      refine gz_sub [3, 4, 5, 6, 7, 0] rfl ?_
      exact ih τ1557 (y5 + (4)) hp
    · have hp := hp.2 h
      refine gz_aload_n K dL_law_1578 5 rfl ?_
      refine gz_iconst K (v := (0 : Int32)) dL_law_1579 (by decide) ?_
      refine gz_lald K (by decide) (ce_66 _ _ _ _ _ _) (by unfold vp_in; decide) dL_law_1580 ?_
      refine gz_iload K dL_law_1581 0 rfl ?_
      refine gz_i2l K dL_law_1583 ?_
      refine gz_lcmp K dL_law_1584 ?_
      refine gz_if_eq K 1590 dL_law_1585 (by decide) (fun h => ?_) (fun h => ?_)
      · have hp := hp.1 h
        refine gz_goto K 1933 dL_law_1590 (by decide) ?_
        refine gz_iinc K (v := (y5 + (4))) [(5, .int (y5 + (4))), (7, .int r1557), (6, .int r1545), (0, .ref b), (1, .ref (ad 0)), (2, .ref (ad 43)), (3, .ref (ad 66)), (4, .ref (ad 67))] dL_law_1933 7 rfl rfl (by decide) rfl ?_
        refine gz_goto K 28 dL_law_1936 (by decide) ?_
        refine gz_widen (k := C + 20) (n := S + 200) (show C + 1 ≤ C + 20 by omega) (show S + 6 ≤ S + 200 by omega) ?_
        refine gz_sub [3, 4, 5, 6, 7, 0] rfl ?_
        exact ih τ1557 (y5 + (4)) hp
      · have hp := hp.2 h
        refine gz_iconst K (v := (0 : Int32)) dL_law_1588 (by decide) ?_
        exact False.elim hp
  · have hp := hp.2 h
    refine gz_iconst K (v := (0 : Int32)) dL_law_1571 (by decide) ?_
    exact False.elim hp
set_option maxRecDepth 100000 in
set_option maxHeartbeats 4000000 in
theorem law_1593 {p : Program} {l : Launch} {e : Env} {s : State} {m : MethodId} {below : List Frame} {meth : Method} {c : Code} {D : va_G} {ad : Nat → Nat} {ty : Nat → ClassId} {b L : Nat} {xs : Nat → Int32} (K : Kz p l s m #[.ref b] meth c D ad ty code 10 RL) (hr : meth.sig.returnType = ret) (had : ∀ k, k < 68 → s.heap.size ≤ ad k) (hX : va_X b L xs s s.heap) (hbl : b < s.heap.size) (hbA : ¬ Az ad s.heap.size b) {rc : Dz → Int32 → Prop} {C S : Nat} (hC : C + 20 ≤ 603072) (hS : S + 200 ≤ 7149674) (ih : ∀ σ y5, rc σ y5 → Gz p l e room_1 s m #[.ref b] below meth c D ad ty 10 (C + 20) (S + 200) (lw_Z below #[.ref b] s) σ 28 [(0, .ref b), (1, .ref (ad 0)), (2, .ref (ad 43)), (3, .ref (ad 66)), (4, .ref (ad 67)), (5, .int y5)] []) {σ : Dz} {y5 : Int32} (hp : B_L_law_1593 L xs rc σ y5) : Gz p l e room_1 s m #[.ref b] below meth c D ad ty 10 C S (lw_Z below #[.ref b] s) σ 1593 [(0, .ref b), (1, .ref (ad 0)), (2, .ref (ad 43)), (3, .ref (ad 66)), (4, .ref (ad 67)), (5, .int y5)] [] := by
  unfold B_L_law_1593 at hp
  refine gz_norm (st' := []) (cells' := C + 0) (slots' := S + 0) rfl rfl rfl ?_
  refine gz_aload_n K dL_law_1593 1 rfl ?_
  refine gz_aload_n K dL_law_1594 0 rfl ?_
  refine gz_iload K dL_law_1595 5 rfl ?_
  refine gz_iconst K (v := (1 : Int32)) dL_law_1597 (by decide) ?_
  refine gz_iadd K dL_law_1598 ?_
  obtain ⟨h, hp⟩ := hp
  refine gz_sld K hX hbl hbA h dL_law_1599 ?_
  refine gz_aload_n K dL_law_1600 0 rfl ?_
  refine gz_iload K dL_law_1601 5 rfl ?_
  refine gz_iconst K (v := (2 : Int32)) dL_law_1603 (by decide) ?_
  refine gz_iadd K dL_law_1604 ?_
  obtain ⟨h, hp⟩ := hp
  refine gz_sld K hX hbl hbA h dL_law_1605 ?_
  refine gz_aload_n K dL_law_1606 3 rfl ?_
  refine gz_callWq K (c_L_findCommutator K.2.2.2.2.2 K.2.2.1 hp) cf_L_findCommutator zq4_170 dL_law_1607 rfl rfl (Nat.le_of_ble_eq_true rfl) ⟨Nat.le_of_ble_eq_true rfl, Nat.le_of_ble_eq_true rfl⟩ ⟨show C + 0 + 2 ≤ 603072 by omega, show S + 0 + 12 ≤ 7149674 by omega⟩ (fun r1607 τ1607 hp => ?_)
  refine gz_norm (st' := [.int r1607]) (cells' := C + 2) (slots' := S + 12) rfl (show C + 0 + 2 = C + 2 by omega) (show S + 0 + 12 = S + 12 by omega) ?_
  refine gz_istore K [(6, .int r1607), (0, .ref b), (1, .ref (ad 0)), (2, .ref (ad 43)), (3, .ref (ad 66)), (4, .ref (ad 67)), (5, .int y5)] dL_law_1610 (by decide) rfl ?_
  refine gz_aload_n K dL_law_1612 3 rfl ?_
  refine gz_aload_n K dL_law_1613 1 rfl ?_
  refine gz_iload K dL_law_1614 6 rfl ?_
  refine gz_iconst K (v := (1 : Int32)) dL_law_1616 (by decide) ?_
  refine gz_iadd K dL_law_1617 ?_
  obtain ⟨h, hp⟩ := hp
  refine gz_sld K hX hbl hbA h dL_law_1618 ?_
  refine gz_aload_n K dL_law_1619 1 rfl ?_
  refine gz_iload K dL_law_1620 6 rfl ?_
  refine gz_iconst K (v := (2 : Int32)) dL_law_1622 (by decide) ?_
  refine gz_iadd K dL_law_1623 ?_
  obtain ⟨h, hp⟩ := hp
  refine gz_sld K hX hbl hbA h dL_law_1624 ?_
  refine gz_callVc K (c_X10_findCommutator K.2.2.2.2.2 K.2.2.1 hp) cf_X10_findCommutator zq6_114 (by decide) (ce_43 _ _ _ _ _ _) rfl dL_law_1625 rfl rfl (Nat.le_of_ble_eq_true rfl) ⟨Nat.le_of_ble_eq_true rfl, Nat.le_of_ble_eq_true rfl⟩ ⟨show C + 2 + 0 ≤ 603072 by omega, show S + 12 + 0 ≤ 7149674 by omega⟩ (fun _ _ h => h.elim) (fun r1625 τ1625 hp => ?_)
  refine gz_norm (st' := [.int r1625]) (cells' := C + 2) (slots' := S + 12) rfl (show C + 2 + 0 = C + 2 by omega) (show S + 12 + 0 = S + 12 by omega) ?_
  refine gz_istore K [(7, .int r1625), (6, .int r1607), (0, .ref b), (1, .ref (ad 0)), (2, .ref (ad 43)), (3, .ref (ad 66)), (4, .ref (ad 67)), (5, .int y5)] dL_law_1628 (by decide) rfl ?_
  refine gz_aload_n K dL_law_1630 4 rfl ?_
  refine gz_callVc K (c_X10_thrown K.2.2.2.2.2 K.2.2.1 hp) cf_X10_thrown zq5_138 (by decide) (ce_43 _ _ _ _ _ _) rfl dL_law_1631 rfl rfl (Nat.le_of_ble_eq_true rfl) ⟨Nat.le_of_ble_eq_true rfl, Nat.le_of_ble_eq_true rfl⟩ ⟨show C + 2 + 0 ≤ 603072 by omega, show S + 12 + 0 ≤ 7149674 by omega⟩ (fun _ _ h => h.elim) (fun r1631 τ hp => ?_)
  obtain ⟨rfl, hp⟩ := hp
  refine gz_norm (st' := [.int r1631]) (cells' := C + 2) (slots' := S + 12) rfl (show C + 2 + 0 = C + 2 by omega) (show S + 12 + 0 = S + 12 by omega) ?_
  refine gz_iload K dL_law_1634 1 rfl ?_
  refine gz_icmp_eq K 1641 dL_law_1636 (by decide) (fun h => ?_) (fun h => ?_)
  · have hp := hp.1 h
    refine gz_iload K dL_law_1641 1 rfl ?_
    refine gz_if_ne K 1658 dL_law_1643 (by decide) (fun h => ?_) (fun h => ?_)
    · have hp := hp.1 h
      refine gz_goto K 1933 dL_law_1658 (by decide) ?_
      refine gz_iinc K (v := (y5 + (4))) [(5, .int (y5 + (4))), (7, .int r1625), (6, .int r1607), (0, .ref b), (1, .ref (ad 0)), (2, .ref (ad 43)), (3, .ref (ad 66)), (4, .ref (ad 67))] dL_law_1933 7 rfl rfl (by decide) rfl ?_
      refine gz_goto K 28 dL_law_1936 (by decide) ?_
      refine gz_widen (k := C + 20) (n := S + 200) (show C + 2 ≤ C + 20 by omega) (show S + 12 ≤ S + 200 by omega) ?_
      refine gz_sub [3, 4, 5, 6, 7, 0] rfl ?_
      exact ih τ1625 (y5 + (4)) hp
    · have hp := hp.2 h
      refine gz_aload_n K dL_law_1646 5 rfl ?_
      refine gz_iconst K (v := (0 : Int32)) dL_law_1647 (by decide) ?_
      refine gz_lald K (by decide) (ce_66 _ _ _ _ _ _) (by unfold vp_in; decide) dL_law_1648 ?_
      refine gz_iload K dL_law_1649 0 rfl ?_
      refine gz_i2l K dL_law_1651 ?_
      refine gz_lcmp K dL_law_1652 ?_
      refine gz_if_eq K 1658 dL_law_1653 (by decide) (fun h => ?_) (fun h => ?_)
      · have hp := hp.1 h
        refine gz_goto K 1933 dL_law_1658 (by decide) ?_
        refine gz_iinc K (v := (y5 + (4))) [(5, .int (y5 + (4))), (7, .int r1625), (6, .int r1607), (0, .ref b), (1, .ref (ad 0)), (2, .ref (ad 43)), (3, .ref (ad 66)), (4, .ref (ad 67))] dL_law_1933 7 rfl rfl (by decide) rfl ?_
        refine gz_goto K 28 dL_law_1936 (by decide) ?_
        refine gz_widen (k := C + 20) (n := S + 200) (show C + 2 ≤ C + 20 by omega) (show S + 12 ≤ S + 200 by omega) ?_
        refine gz_sub [3, 4, 5, 6, 7, 0] rfl ?_
        exact ih τ1625 (y5 + (4)) hp
      · have hp := hp.2 h
        refine gz_iconst K (v := (0 : Int32)) dL_law_1656 (by decide) ?_
        exact False.elim hp
  · have hp := hp.2 h
    refine gz_iconst K (v := (0 : Int32)) dL_law_1639 (by decide) ?_
    exact False.elim hp
set_option maxRecDepth 100000 in
set_option maxHeartbeats 4000000 in
theorem law_1661 {p : Program} {l : Launch} {e : Env} {s : State} {m : MethodId} {below : List Frame} {meth : Method} {c : Code} {D : va_G} {ad : Nat → Nat} {ty : Nat → ClassId} {b L : Nat} {xs : Nat → Int32} (K : Kz p l s m #[.ref b] meth c D ad ty code 10 RL) (hr : meth.sig.returnType = ret) (had : ∀ k, k < 68 → s.heap.size ≤ ad k) (hX : va_X b L xs s s.heap) (hbl : b < s.heap.size) (hbA : ¬ Az ad s.heap.size b) {rc : Dz → Int32 → Prop} {C S : Nat} (hC : C + 20 ≤ 603072) (hS : S + 200 ≤ 7149674) (ih : ∀ σ y5, rc σ y5 → Gz p l e room_1 s m #[.ref b] below meth c D ad ty 10 (C + 20) (S + 200) (lw_Z below #[.ref b] s) σ 28 [(0, .ref b), (1, .ref (ad 0)), (2, .ref (ad 43)), (3, .ref (ad 66)), (4, .ref (ad 67)), (5, .int y5)] []) {σ : Dz} {y5 : Int32} (hp : B_L_law_1661 L xs rc σ y5) : Gz p l e room_1 s m #[.ref b] below meth c D ad ty 10 C S (lw_Z below #[.ref b] s) σ 1661 [(0, .ref b), (1, .ref (ad 0)), (2, .ref (ad 43)), (3, .ref (ad 66)), (4, .ref (ad 67)), (5, .int y5)] [] := by
  unfold B_L_law_1661 at hp
  refine gz_norm (st' := []) (cells' := C + 0) (slots' := S + 0) rfl rfl rfl ?_
  refine gz_aload_n K dL_law_1661 1 rfl ?_
  refine gz_aload_n K dL_law_1662 0 rfl ?_
  refine gz_iload K dL_law_1663 5 rfl ?_
  refine gz_iconst K (v := (1 : Int32)) dL_law_1665 (by decide) ?_
  refine gz_iadd K dL_law_1666 ?_
  obtain ⟨h, hp⟩ := hp
  refine gz_sld K hX hbl hbA h dL_law_1667 ?_
  refine gz_aload_n K dL_law_1668 3 rfl ?_
  refine gz_callWq K (c_L_fillShares K.2.2.2.2.2 K.2.2.1 hp) cf_L_fillShares zq4_209 dL_law_1669 rfl rfl (Nat.le_of_ble_eq_true rfl) ⟨Nat.le_of_ble_eq_true rfl, Nat.le_of_ble_eq_true rfl⟩ ⟨show C + 0 + 1 ≤ 603072 by omega, show S + 0 + 6 ≤ 7149674 by omega⟩ (fun r1669 τ1669 hp => ?_)
  refine gz_norm (st' := [.int r1669]) (cells' := C + 1) (slots' := S + 6) rfl (show C + 0 + 1 = C + 1 by omega) (show S + 0 + 6 = S + 6 by omega) ?_
  refine gz_istore K [(6, .int r1669), (0, .ref b), (1, .ref (ad 0)), (2, .ref (ad 43)), (3, .ref (ad 66)), (4, .ref (ad 67)), (5, .int y5)] dL_law_1672 (by decide) rfl ?_
  refine gz_aload_n K dL_law_1674 3 rfl ?_
  refine gz_aload_n K dL_law_1675 1 rfl ?_
  refine gz_iload K dL_law_1676 6 rfl ?_
  refine gz_iconst K (v := (1 : Int32)) dL_law_1678 (by decide) ?_
  refine gz_iadd K dL_law_1679 ?_
  obtain ⟨h, hp⟩ := hp
  refine gz_sld K hX hbl hbA h dL_law_1680 ?_
  refine gz_callVc K (c_X10_fillShares K.2.2.2.2.2 K.2.2.1 hp) cf_X10_fillShares zq6_138 (by decide) (ce_43 _ _ _ _ _ _) rfl dL_law_1681 rfl rfl (Nat.le_of_ble_eq_true rfl) ⟨Nat.le_of_ble_eq_true rfl, Nat.le_of_ble_eq_true rfl⟩ ⟨show C + 1 + 0 ≤ 603072 by omega, show S + 6 + 0 ≤ 7149674 by omega⟩ (fun _ _ h => h.elim) (fun r1681 τ1681 hp => ?_)
  refine gz_norm (st' := [.int r1681]) (cells' := C + 1) (slots' := S + 6) rfl (show C + 1 + 0 = C + 1 by omega) (show S + 6 + 0 = S + 6 by omega) ?_
  refine gz_istore K [(7, .int r1681), (6, .int r1669), (0, .ref b), (1, .ref (ad 0)), (2, .ref (ad 43)), (3, .ref (ad 66)), (4, .ref (ad 67)), (5, .int y5)] dL_law_1684 (by decide) rfl ?_
  refine gz_aload_n K dL_law_1686 4 rfl ?_
  refine gz_callVc K (c_X10_thrown K.2.2.2.2.2 K.2.2.1 hp) cf_X10_thrown zq5_138 (by decide) (ce_43 _ _ _ _ _ _) rfl dL_law_1687 rfl rfl (Nat.le_of_ble_eq_true rfl) ⟨Nat.le_of_ble_eq_true rfl, Nat.le_of_ble_eq_true rfl⟩ ⟨show C + 1 + 0 ≤ 603072 by omega, show S + 6 + 0 ≤ 7149674 by omega⟩ (fun _ _ h => h.elim) (fun r1687 τ hp => ?_)
  obtain ⟨rfl, hp⟩ := hp
  refine gz_norm (st' := [.int r1687]) (cells' := C + 1) (slots' := S + 6) rfl (show C + 1 + 0 = C + 1 by omega) (show S + 6 + 0 = S + 6 by omega) ?_
  refine gz_iload K dL_law_1690 1 rfl ?_
  refine gz_icmp_eq K 1697 dL_law_1692 (by decide) (fun h => ?_) (fun h => ?_)
  · have hp := hp.1 h
    refine gz_iload K dL_law_1697 1 rfl ?_
    refine gz_if_ne K 1714 dL_law_1699 (by decide) (fun h => ?_) (fun h => ?_)
    · have hp := hp.1 h
      refine gz_goto K 1933 dL_law_1714 (by decide) ?_
      refine gz_iinc K (v := (y5 + (4))) [(5, .int (y5 + (4))), (7, .int r1681), (6, .int r1669), (0, .ref b), (1, .ref (ad 0)), (2, .ref (ad 43)), (3, .ref (ad 66)), (4, .ref (ad 67))] dL_law_1933 7 rfl rfl (by decide) rfl ?_
      refine gz_goto K 28 dL_law_1936 (by decide) ?_
      refine gz_widen (k := C + 20) (n := S + 200) (show C + 1 ≤ C + 20 by omega) (show S + 6 ≤ S + 200 by omega) ?_
      refine gz_sub [3, 4, 5, 6, 7, 0] rfl ?_
      exact ih τ1681 (y5 + (4)) hp
    · have hp := hp.2 h
      refine gz_aload_n K dL_law_1702 5 rfl ?_
      refine gz_iconst K (v := (0 : Int32)) dL_law_1703 (by decide) ?_
      refine gz_lald K (by decide) (ce_66 _ _ _ _ _ _) (by unfold vp_in; decide) dL_law_1704 ?_
      refine gz_iload K dL_law_1705 0 rfl ?_
      refine gz_i2l K dL_law_1707 ?_
      refine gz_lcmp K dL_law_1708 ?_
      refine gz_if_eq K 1714 dL_law_1709 (by decide) (fun h => ?_) (fun h => ?_)
      · have hp := hp.1 h
        refine gz_goto K 1933 dL_law_1714 (by decide) ?_
        refine gz_iinc K (v := (y5 + (4))) [(5, .int (y5 + (4))), (7, .int r1681), (6, .int r1669), (0, .ref b), (1, .ref (ad 0)), (2, .ref (ad 43)), (3, .ref (ad 66)), (4, .ref (ad 67))] dL_law_1933 7 rfl rfl (by decide) rfl ?_
        refine gz_goto K 28 dL_law_1936 (by decide) ?_
        refine gz_widen (k := C + 20) (n := S + 200) (show C + 1 ≤ C + 20 by omega) (show S + 6 ≤ S + 200 by omega) ?_
        refine gz_sub [3, 4, 5, 6, 7, 0] rfl ?_
        exact ih τ1681 (y5 + (4)) hp
      · have hp := hp.2 h
        refine gz_iconst K (v := (0 : Int32)) dL_law_1712 (by decide) ?_
        exact False.elim hp
  · have hp := hp.2 h
    refine gz_iconst K (v := (0 : Int32)) dL_law_1695 (by decide) ?_
    exact False.elim hp
set_option maxRecDepth 100000 in
set_option maxHeartbeats 4000000 in
theorem law_1717 {p : Program} {l : Launch} {e : Env} {s : State} {m : MethodId} {below : List Frame} {meth : Method} {c : Code} {D : va_G} {ad : Nat → Nat} {ty : Nat → ClassId} {b L : Nat} {xs : Nat → Int32} (K : Kz p l s m #[.ref b] meth c D ad ty code 10 RL) (hr : meth.sig.returnType = ret) (had : ∀ k, k < 68 → s.heap.size ≤ ad k) (hX : va_X b L xs s s.heap) (hbl : b < s.heap.size) (hbA : ¬ Az ad s.heap.size b) {rc : Dz → Int32 → Prop} {C S : Nat} (hC : C + 20 ≤ 603072) (hS : S + 200 ≤ 7149674) (ih : ∀ σ y5, rc σ y5 → Gz p l e room_1 s m #[.ref b] below meth c D ad ty 10 (C + 20) (S + 200) (lw_Z below #[.ref b] s) σ 28 [(0, .ref b), (1, .ref (ad 0)), (2, .ref (ad 43)), (3, .ref (ad 66)), (4, .ref (ad 67)), (5, .int y5)] []) {σ : Dz} {y5 : Int32} (hp : B_L_law_1717 L xs rc σ y5) : Gz p l e room_1 s m #[.ref b] below meth c D ad ty 10 C S (lw_Z below #[.ref b] s) σ 1717 [(0, .ref b), (1, .ref (ad 0)), (2, .ref (ad 43)), (3, .ref (ad 66)), (4, .ref (ad 67)), (5, .int y5)] [] := by
  unfold B_L_law_1717 at hp
  refine gz_norm (st' := []) (cells' := C + 0) (slots' := S + 0) rfl rfl rfl ?_
  refine gz_aload_n K dL_law_1717 1 rfl ?_
  refine gz_aload_n K dL_law_1718 0 rfl ?_
  refine gz_iload K dL_law_1719 5 rfl ?_
  refine gz_iconst K (v := (1 : Int32)) dL_law_1721 (by decide) ?_
  refine gz_iadd K dL_law_1722 ?_
  obtain ⟨h, hp⟩ := hp
  refine gz_sld K hX hbl hbA h dL_law_1723 ?_
  refine gz_aload_n K dL_law_1724 0 rfl ?_
  refine gz_iload K dL_law_1725 5 rfl ?_
  refine gz_iconst K (v := (2 : Int32)) dL_law_1727 (by decide) ?_
  refine gz_iadd K dL_law_1728 ?_
  obtain ⟨h, hp⟩ := hp
  refine gz_sld K hX hbl hbA h dL_law_1729 ?_
  refine gz_aload_n K dL_law_1730 0 rfl ?_
  refine gz_iload K dL_law_1731 5 rfl ?_
  refine gz_iconst K (v := (3 : Int32)) dL_law_1733 (by decide) ?_
  refine gz_iadd K dL_law_1734 ?_
  obtain ⟨h, hp⟩ := hp
  refine gz_sld K hX hbl hbA h dL_law_1735 ?_
  refine gz_aload_n K dL_law_1736 3 rfl ?_
  refine gz_callWq K (c_L_scale K.2.2.2.2.2 K.2.2.1 hp) cf_L_scale zq4_223 dL_law_1737 rfl rfl (Nat.le_of_ble_eq_true rfl) ⟨Nat.le_of_ble_eq_true rfl, Nat.le_of_ble_eq_true rfl⟩ ⟨show C + 0 + 3 ≤ 603072 by omega, show S + 0 + 18 ≤ 7149674 by omega⟩ (fun r1737 τ1737 hp => ?_)
  refine gz_norm (st' := [.int r1737]) (cells' := C + 3) (slots' := S + 18) rfl (show C + 0 + 3 = C + 3 by omega) (show S + 0 + 18 = S + 18 by omega) ?_
  refine gz_istore K [(6, .int r1737), (0, .ref b), (1, .ref (ad 0)), (2, .ref (ad 43)), (3, .ref (ad 66)), (4, .ref (ad 67)), (5, .int y5)] dL_law_1740 (by decide) rfl ?_
  refine gz_aload_n K dL_law_1742 3 rfl ?_
  refine gz_aload_n K dL_law_1743 1 rfl ?_
  refine gz_iload K dL_law_1744 6 rfl ?_
  refine gz_iconst K (v := (1 : Int32)) dL_law_1746 (by decide) ?_
  refine gz_iadd K dL_law_1747 ?_
  obtain ⟨h, hp⟩ := hp
  refine gz_sld K hX hbl hbA h dL_law_1748 ?_
  refine gz_aload_n K dL_law_1749 1 rfl ?_
  refine gz_iload K dL_law_1750 6 rfl ?_
  refine gz_iconst K (v := (2 : Int32)) dL_law_1752 (by decide) ?_
  refine gz_iadd K dL_law_1753 ?_
  obtain ⟨h, hp⟩ := hp
  refine gz_sld K hX hbl hbA h dL_law_1754 ?_
  refine gz_aload_n K dL_law_1755 1 rfl ?_
  refine gz_iload K dL_law_1756 6 rfl ?_
  refine gz_iconst K (v := (3 : Int32)) dL_law_1758 (by decide) ?_
  refine gz_iadd K dL_law_1759 ?_
  obtain ⟨h, hp⟩ := hp
  refine gz_sld K hX hbl hbA h dL_law_1760 ?_
  refine gz_callVc K (c_X10_scale K.2.2.2.2.2 K.2.2.1 hp) cf_X10_scale zq6_145 (by decide) (ce_43 _ _ _ _ _ _) rfl dL_law_1761 rfl rfl (Nat.le_of_ble_eq_true rfl) ⟨Nat.le_of_ble_eq_true rfl, Nat.le_of_ble_eq_true rfl⟩ ⟨show C + 3 + 0 ≤ 603072 by omega, show S + 18 + 0 ≤ 7149674 by omega⟩ (fun _ _ h => h.elim) (fun r1761 τ1761 hp => ?_)
  refine gz_norm (st' := [.int r1761]) (cells' := C + 3) (slots' := S + 18) rfl (show C + 3 + 0 = C + 3 by omega) (show S + 18 + 0 = S + 18 by omega) ?_
  refine gz_istore K [(7, .int r1761), (6, .int r1737), (0, .ref b), (1, .ref (ad 0)), (2, .ref (ad 43)), (3, .ref (ad 66)), (4, .ref (ad 67)), (5, .int y5)] dL_law_1764 (by decide) rfl ?_
  refine gz_aload_n K dL_law_1766 4 rfl ?_
  refine gz_callVc K (c_X10_thrown K.2.2.2.2.2 K.2.2.1 hp) cf_X10_thrown zq5_138 (by decide) (ce_43 _ _ _ _ _ _) rfl dL_law_1767 rfl rfl (Nat.le_of_ble_eq_true rfl) ⟨Nat.le_of_ble_eq_true rfl, Nat.le_of_ble_eq_true rfl⟩ ⟨show C + 3 + 0 ≤ 603072 by omega, show S + 18 + 0 ≤ 7149674 by omega⟩ (fun _ _ h => h.elim) (fun r1767 τ hp => ?_)
  obtain ⟨rfl, hp⟩ := hp
  refine gz_norm (st' := [.int r1767]) (cells' := C + 3) (slots' := S + 18) rfl (show C + 3 + 0 = C + 3 by omega) (show S + 18 + 0 = S + 18 by omega) ?_
  refine gz_iload K dL_law_1770 1 rfl ?_
  refine gz_icmp_eq K 1777 dL_law_1772 (by decide) (fun h => ?_) (fun h => ?_)
  · have hp := hp.1 h
    refine gz_iload K dL_law_1777 1 rfl ?_
    refine gz_if_ne K 1794 dL_law_1779 (by decide) (fun h => ?_) (fun h => ?_)
    · have hp := hp.1 h
      refine gz_goto K 1933 dL_law_1794 (by decide) ?_
      refine gz_iinc K (v := (y5 + (4))) [(5, .int (y5 + (4))), (7, .int r1761), (6, .int r1737), (0, .ref b), (1, .ref (ad 0)), (2, .ref (ad 43)), (3, .ref (ad 66)), (4, .ref (ad 67))] dL_law_1933 7 rfl rfl (by decide) rfl ?_
      refine gz_goto K 28 dL_law_1936 (by decide) ?_
      refine gz_widen (k := C + 20) (n := S + 200) (show C + 3 ≤ C + 20 by omega) (show S + 18 ≤ S + 200 by omega) ?_
      refine gz_sub [3, 4, 5, 6, 7, 0] rfl ?_
      exact ih τ1761 (y5 + (4)) hp
    · have hp := hp.2 h
      refine gz_aload_n K dL_law_1782 5 rfl ?_
      refine gz_iconst K (v := (0 : Int32)) dL_law_1783 (by decide) ?_
      refine gz_lald K (by decide) (ce_66 _ _ _ _ _ _) (by unfold vp_in; decide) dL_law_1784 ?_
      refine gz_iload K dL_law_1785 0 rfl ?_
      refine gz_i2l K dL_law_1787 ?_
      refine gz_lcmp K dL_law_1788 ?_
      refine gz_if_eq K 1794 dL_law_1789 (by decide) (fun h => ?_) (fun h => ?_)
      · have hp := hp.1 h
        refine gz_goto K 1933 dL_law_1794 (by decide) ?_
        refine gz_iinc K (v := (y5 + (4))) [(5, .int (y5 + (4))), (7, .int r1761), (6, .int r1737), (0, .ref b), (1, .ref (ad 0)), (2, .ref (ad 43)), (3, .ref (ad 66)), (4, .ref (ad 67))] dL_law_1933 7 rfl rfl (by decide) rfl ?_
        refine gz_goto K 28 dL_law_1936 (by decide) ?_
        refine gz_widen (k := C + 20) (n := S + 200) (show C + 3 ≤ C + 20 by omega) (show S + 18 ≤ S + 200 by omega) ?_
        refine gz_sub [3, 4, 5, 6, 7, 0] rfl ?_
        exact ih τ1761 (y5 + (4)) hp
      · have hp := hp.2 h
        refine gz_iconst K (v := (0 : Int32)) dL_law_1792 (by decide) ?_
        exact False.elim hp
  · have hp := hp.2 h
    refine gz_iconst K (v := (0 : Int32)) dL_law_1775 (by decide) ?_
    exact False.elim hp
set_option maxRecDepth 100000 in
set_option maxHeartbeats 4000000 in
theorem law_1797 {p : Program} {l : Launch} {e : Env} {s : State} {m : MethodId} {below : List Frame} {meth : Method} {c : Code} {D : va_G} {ad : Nat → Nat} {ty : Nat → ClassId} {b L : Nat} {xs : Nat → Int32} (K : Kz p l s m #[.ref b] meth c D ad ty code 10 RL) (hr : meth.sig.returnType = ret) (had : ∀ k, k < 68 → s.heap.size ≤ ad k) (hX : va_X b L xs s s.heap) (hbl : b < s.heap.size) (hbA : ¬ Az ad s.heap.size b) {rc : Dz → Int32 → Prop} {C S : Nat} (hC : C + 20 ≤ 603072) (hS : S + 200 ≤ 7149674) (ih : ∀ σ y5, rc σ y5 → Gz p l e room_1 s m #[.ref b] below meth c D ad ty 10 (C + 20) (S + 200) (lw_Z below #[.ref b] s) σ 28 [(0, .ref b), (1, .ref (ad 0)), (2, .ref (ad 43)), (3, .ref (ad 66)), (4, .ref (ad 67)), (5, .int y5)] []) {σ : Dz} {y5 : Int32} (hp : B_L_law_1797 L xs rc σ y5) : Gz p l e room_1 s m #[.ref b] below meth c D ad ty 10 C S (lw_Z below #[.ref b] s) σ 1797 [(0, .ref b), (1, .ref (ad 0)), (2, .ref (ad 43)), (3, .ref (ad 66)), (4, .ref (ad 67)), (5, .int y5)] [] := by
  unfold B_L_law_1797 at hp
  refine gz_norm (st' := []) (cells' := C + 0) (slots' := S + 0) rfl rfl rfl ?_
  refine gz_aload_n K dL_law_1797 1 rfl ?_
  refine gz_aload_n K dL_law_1798 0 rfl ?_
  refine gz_iload K dL_law_1799 5 rfl ?_
  refine gz_iconst K (v := (1 : Int32)) dL_law_1801 (by decide) ?_
  refine gz_iadd K dL_law_1802 ?_
  obtain ⟨h, hp⟩ := hp
  refine gz_sld K hX hbl hbA h dL_law_1803 ?_
  refine gz_aload_n K dL_law_1804 0 rfl ?_
  refine gz_iload K dL_law_1805 5 rfl ?_
  refine gz_iconst K (v := (2 : Int32)) dL_law_1807 (by decide) ?_
  refine gz_iadd K dL_law_1808 ?_
  obtain ⟨h, hp⟩ := hp
  refine gz_sld K hX hbl hbA h dL_law_1809 ?_
  refine gz_aload_n K dL_law_1810 0 rfl ?_
  refine gz_iload K dL_law_1811 5 rfl ?_
  refine gz_iconst K (v := (3 : Int32)) dL_law_1813 (by decide) ?_
  refine gz_iadd K dL_law_1814 ?_
  obtain ⟨h, hp⟩ := hp
  refine gz_sld K hX hbl hbA h dL_law_1815 ?_
  refine gz_aload K dL_law_1816 4 rfl ?_
  refine gz_callWq K (c_L_remainder K.2.2.2.2.2 K.2.2.1 hp) cf_L_remainder zq5_6 dL_law_1818 rfl rfl (Nat.le_of_ble_eq_true rfl) ⟨Nat.le_of_ble_eq_true rfl, Nat.le_of_ble_eq_true rfl⟩ ⟨show C + 0 + 3 ≤ 603072 by omega, show S + 0 + 18 ≤ 7149674 by omega⟩ (fun r1818 τ1818 hp => ?_)
  refine gz_norm (st' := [.int r1818]) (cells' := C + 3) (slots' := S + 18) rfl (show C + 0 + 3 = C + 3 by omega) (show S + 0 + 18 = S + 18 by omega) ?_
  refine gz_istore K [(6, .int r1818), (0, .ref b), (1, .ref (ad 0)), (2, .ref (ad 43)), (3, .ref (ad 66)), (4, .ref (ad 67)), (5, .int y5)] dL_law_1821 (by decide) rfl ?_
  refine gz_aload_n K dL_law_1823 3 rfl ?_
  refine gz_aload_n K dL_law_1824 1 rfl ?_
  refine gz_iload K dL_law_1825 6 rfl ?_
  refine gz_iconst K (v := (1 : Int32)) dL_law_1827 (by decide) ?_
  refine gz_iadd K dL_law_1828 ?_
  obtain ⟨h, hp⟩ := hp
  refine gz_sld K hX hbl hbA h dL_law_1829 ?_
  refine gz_aload_n K dL_law_1830 1 rfl ?_
  refine gz_iload K dL_law_1831 6 rfl ?_
  refine gz_iconst K (v := (2 : Int32)) dL_law_1833 (by decide) ?_
  refine gz_iadd K dL_law_1834 ?_
  obtain ⟨h, hp⟩ := hp
  refine gz_sld K hX hbl hbA h dL_law_1835 ?_
  refine gz_aload_n K dL_law_1836 1 rfl ?_
  refine gz_iload K dL_law_1837 6 rfl ?_
  refine gz_iconst K (v := (3 : Int32)) dL_law_1839 (by decide) ?_
  refine gz_iadd K dL_law_1840 ?_
  obtain ⟨h, hp⟩ := hp
  refine gz_sld K hX hbl hbA h dL_law_1841 ?_
  refine gz_callVc K (c_X10_remainder K.2.2.2.2.2 K.2.2.1 hp) cf_X10_remainder zq6_153 (by decide) (ce_43 _ _ _ _ _ _) rfl dL_law_1842 rfl rfl (Nat.le_of_ble_eq_true rfl) ⟨Nat.le_of_ble_eq_true rfl, Nat.le_of_ble_eq_true rfl⟩ ⟨show C + 3 + 0 ≤ 603072 by omega, show S + 18 + 0 ≤ 7149674 by omega⟩ (fun _ _ h => h.elim) (fun r1842 τ1842 hp => ?_)
  refine gz_norm (st' := [.double r1842]) (cells' := C + 3) (slots' := S + 18) rfl (show C + 3 + 0 = C + 3 by omega) (show S + 18 + 0 = S + 18 by omega) ?_
  refine gz_dstore K [(7, .double r1842), (6, .int r1818), (0, .ref b), (1, .ref (ad 0)), (2, .ref (ad 43)), (3, .ref (ad 66)), (4, .ref (ad 67)), (5, .int y5)] dL_law_1845 (by decide) rfl ?_
  refine gz_aload_n K dL_law_1847 4 rfl ?_
  refine gz_callVc K (c_X10_thrown K.2.2.2.2.2 K.2.2.1 hp) cf_X10_thrown zq5_138 (by decide) (ce_43 _ _ _ _ _ _) rfl dL_law_1848 rfl rfl (Nat.le_of_ble_eq_true rfl) ⟨Nat.le_of_ble_eq_true rfl, Nat.le_of_ble_eq_true rfl⟩ ⟨show C + 3 + 0 ≤ 603072 by omega, show S + 18 + 0 ≤ 7149674 by omega⟩ (fun _ _ h => h.elim) (fun r1848 τ hp => ?_)
  obtain ⟨rfl, hp⟩ := hp
  refine gz_norm (st' := [.int r1848]) (cells' := C + 3) (slots' := S + 18) rfl (show C + 3 + 0 = C + 3 by omega) (show S + 18 + 0 = S + 18 by omega) ?_
  refine gz_iload K dL_law_1851 1 rfl ?_
  refine gz_icmp_eq K 1858 dL_law_1853 (by decide) (fun h => ?_) (fun h => ?_)
  · have hp := hp.1 h
    refine gz_iload K dL_law_1858 1 rfl ?_
    refine gz_if_ne K 1895 dL_law_1860 (by decide) (fun h => ?_) (fun h => ?_)
    · have hp := hp.1 h
      refine gz_goto K 1933 dL_law_1895 (by decide) ?_
      refine gz_iinc K (v := (y5 + (4))) [(5, .int (y5 + (4))), (7, .double r1842), (6, .int r1818), (0, .ref b), (1, .ref (ad 0)), (2, .ref (ad 43)), (3, .ref (ad 66)), (4, .ref (ad 67))] dL_law_1933 7 rfl rfl (by decide) rfl ?_
      refine gz_goto K 28 dL_law_1936 (by decide) ?_
      refine gz_widen (k := C + 20) (n := S + 200) (show C + 3 ≤ C + 20 by omega) (show S + 18 ≤ S + 200 by omega) ?_
      refine gz_sub [3, 4, 5, 6, 7, 0] rfl ?_
      exact ih τ1842 (y5 + (4)) hp
    · have hp := hp.2 h
      refine gz_aload K dL_law_1863 6 rfl ?_
      refine gz_iconst K (v := (0 : Int32)) dL_law_1865 (by decide) ?_
      refine gz_dald K (by decide) (ce_67 _ _ _ _ _ _) (by unfold vp_in; decide) dL_law_1866 ?_
      refine gz_dload K dL_law_1867 0 rfl ?_
      refine gz_dcmp K dL_law_1869 ?_
      refine gz_if_eq K 1895 dL_law_1870 (by decide) (fun h => ?_) (fun h => ?_)
      · have hp := hp.1 h
        refine gz_goto K 1933 dL_law_1895 (by decide) ?_
        refine gz_iinc K (v := (y5 + (4))) [(5, .int (y5 + (4))), (7, .double r1842), (6, .int r1818), (0, .ref b), (1, .ref (ad 0)), (2, .ref (ad 43)), (3, .ref (ad 66)), (4, .ref (ad 67))] dL_law_1933 7 rfl rfl (by decide) rfl ?_
        refine gz_goto K 28 dL_law_1936 (by decide) ?_
        refine gz_widen (k := C + 20) (n := S + 200) (show C + 3 ≤ C + 20 by omega) (show S + 18 ≤ S + 200 by omega) ?_
        refine gz_sub [3, 4, 5, 6, 7, 0] rfl ?_
        exact ih τ1842 (y5 + (4)) hp
      · have hp := hp.2 h
        refine gz_aload K dL_law_1873 6 rfl ?_
        refine gz_iconst K (v := (0 : Int32)) dL_law_1875 (by decide) ?_
        refine gz_dald K (by decide) (ce_67 _ _ _ _ _ _) (by unfold vp_in; decide) dL_law_1876 ?_
        refine gz_aload K dL_law_1877 6 rfl ?_
        refine gz_iconst K (v := (0 : Int32)) dL_law_1879 (by decide) ?_
        refine gz_dald K (by decide) (ce_67 _ _ _ _ _ _) (by unfold vp_in; decide) dL_law_1880 ?_
        refine gz_dcmp K dL_law_1881 ?_
        refine gz_if_eq K 1893 dL_law_1882 (by decide) (fun h => ?_) (fun h => ?_)
        · have hp := hp.1 h
          refine gz_iconst K (v := (0 : Int32)) dL_law_1893 (by decide) ?_
          exact False.elim hp
        · have hp := hp.2 h
          refine gz_dload K dL_law_1885 0 rfl ?_
          refine gz_dload K dL_law_1887 0 rfl ?_
          refine gz_dcmp K dL_law_1889 ?_
          refine gz_if_ne K 1895 dL_law_1890 (by decide) (fun h => ?_) (fun h => ?_)
          · have hp := hp.1 h
            refine gz_goto K 1933 dL_law_1895 (by decide) ?_
            refine gz_iinc K (v := (y5 + (4))) [(5, .int (y5 + (4))), (7, .double r1842), (6, .int r1818), (0, .ref b), (1, .ref (ad 0)), (2, .ref (ad 43)), (3, .ref (ad 66)), (4, .ref (ad 67))] dL_law_1933 7 rfl rfl (by decide) rfl ?_
            refine gz_goto K 28 dL_law_1936 (by decide) ?_
            refine gz_widen (k := C + 20) (n := S + 200) (show C + 3 ≤ C + 20 by omega) (show S + 18 ≤ S + 200 by omega) ?_
            refine gz_sub [3, 4, 5, 6, 7, 0] rfl ?_
            exact ih τ1842 (y5 + (4)) hp
          · have hp := hp.2 h
            refine gz_iconst K (v := (0 : Int32)) dL_law_1893 (by decide) ?_
            exact False.elim hp
  · have hp := hp.2 h
    refine gz_iconst K (v := (0 : Int32)) dL_law_1856 (by decide) ?_
    exact False.elim hp
set_option maxRecDepth 100000 in
set_option maxHeartbeats 4000000 in
theorem law_1898 {p : Program} {l : Launch} {e : Env} {s : State} {m : MethodId} {below : List Frame} {meth : Method} {c : Code} {D : va_G} {ad : Nat → Nat} {ty : Nat → ClassId} {b L : Nat} {xs : Nat → Int32} (K : Kz p l s m #[.ref b] meth c D ad ty code 10 RL) (hr : meth.sig.returnType = ret) (had : ∀ k, k < 68 → s.heap.size ≤ ad k) (hX : va_X b L xs s s.heap) (hbl : b < s.heap.size) (hbA : ¬ Az ad s.heap.size b) {rc : Dz → Int32 → Prop} {C S : Nat} (hC : C + 20 ≤ 603072) (hS : S + 200 ≤ 7149674) (ih : ∀ σ y5, rc σ y5 → Gz p l e room_1 s m #[.ref b] below meth c D ad ty 10 (C + 20) (S + 200) (lw_Z below #[.ref b] s) σ 28 [(0, .ref b), (1, .ref (ad 0)), (2, .ref (ad 43)), (3, .ref (ad 66)), (4, .ref (ad 67)), (5, .int y5)] []) {σ : Dz} {y5 : Int32} (hp : B_L_law_1898 L xs rc σ y5) : Gz p l e room_1 s m #[.ref b] below meth c D ad ty 10 C S (lw_Z below #[.ref b] s) σ 1898 [(0, .ref b), (1, .ref (ad 0)), (2, .ref (ad 43)), (3, .ref (ad 66)), (4, .ref (ad 67)), (5, .int y5)] [] := by
  unfold B_L_law_1898 at hp
  refine gz_norm (st' := []) (cells' := C + 0) (slots' := S + 0) rfl rfl rfl ?_
  refine gz_aload_n K dL_law_1898 1 rfl ?_
  refine gz_callVc K (c_X9_snapshot K.2.2.2.2.2 K.2.2.1 hp) cf_X9_snapshot zq2_91 (by decide) (ce_0 _ _ _ _ _ _) rfl dL_law_1899 rfl rfl (Nat.le_of_ble_eq_true rfl) ⟨Nat.le_of_ble_eq_true rfl, Nat.le_of_ble_eq_true rfl⟩ ⟨show C + 0 + 0 ≤ 603072 by omega, show S + 0 + 0 ≤ 7149674 by omega⟩ (fun _ _ h => h.elim) (fun _ τ1899 hp => ?_)
  refine gz_norm (st' := []) (cells' := C + 0) (slots' := S + 0) rfl (show C + 0 + 0 = C + 0 by omega) (show S + 0 + 0 = S + 0 by omega) ?_
  refine gz_aload_n K dL_law_1902 2 rfl ?_
  refine gz_callVc K (c_X10_snapshot K.2.2.2.2.2 K.2.2.1 hp) cf_X10_snapshot zq6_157 (by decide) (ce_43 _ _ _ _ _ _) rfl dL_law_1903 rfl rfl (Nat.le_of_ble_eq_true rfl) ⟨Nat.le_of_ble_eq_true rfl, Nat.le_of_ble_eq_true rfl⟩ ⟨show C + 0 + 0 ≤ 603072 by omega, show S + 0 + 0 ≤ 7149674 by omega⟩ (fun _ _ h => h.elim) (fun _ τ1903 hp => ?_)
  refine gz_norm (st' := []) (cells' := C + 0) (slots' := S + 0) rfl (show C + 0 + 0 = C + 0 by omega) (show S + 0 + 0 = S + 0 by omega) ?_
  refine gz_goto K 1933 dL_law_1906 (by decide) ?_
  refine gz_iinc K (v := (y5 + (4))) [(5, .int (y5 + (4))), (0, .ref b), (1, .ref (ad 0)), (2, .ref (ad 43)), (3, .ref (ad 66)), (4, .ref (ad 67))] dL_law_1933 5 rfl rfl (by decide) rfl ?_
  refine gz_goto K 28 dL_law_1936 (by decide) ?_
  refine gz_widen (k := C + 20) (n := S + 200) (show C + 0 ≤ C + 20 by omega) (show S + 0 ≤ S + 200 by omega) ?_
  refine gz_sub [1, 2, 3, 4, 5, 0] rfl ?_
  exact ih τ1903 (y5 + (4)) hp
set_option maxRecDepth 100000 in
set_option maxHeartbeats 4000000 in
theorem law_1909 {p : Program} {l : Launch} {e : Env} {s : State} {m : MethodId} {below : List Frame} {meth : Method} {c : Code} {D : va_G} {ad : Nat → Nat} {ty : Nat → ClassId} {b L : Nat} {xs : Nat → Int32} (K : Kz p l s m #[.ref b] meth c D ad ty code 10 RL) (hr : meth.sig.returnType = ret) (had : ∀ k, k < 68 → s.heap.size ≤ ad k) (hX : va_X b L xs s s.heap) (hbl : b < s.heap.size) (hbA : ¬ Az ad s.heap.size b) {rc : Dz → Int32 → Prop} {C S : Nat} (hC : C + 20 ≤ 603072) (hS : S + 200 ≤ 7149674) (ih : ∀ σ y5, rc σ y5 → Gz p l e room_1 s m #[.ref b] below meth c D ad ty 10 (C + 20) (S + 200) (lw_Z below #[.ref b] s) σ 28 [(0, .ref b), (1, .ref (ad 0)), (2, .ref (ad 43)), (3, .ref (ad 66)), (4, .ref (ad 67)), (5, .int y5)] []) {σ : Dz} {y5 : Int32} (hp : B_L_law_1909 L xs rc σ y5) : Gz p l e room_1 s m #[.ref b] below meth c D ad ty 10 C S (lw_Z below #[.ref b] s) σ 1909 [(0, .ref b), (1, .ref (ad 0)), (2, .ref (ad 43)), (3, .ref (ad 66)), (4, .ref (ad 67)), (5, .int y5)] [] := by
  unfold B_L_law_1909 at hp
  refine gz_norm (st' := []) (cells' := C + 0) (slots' := S + 0) rfl rfl rfl ?_
  refine gz_aload_n K dL_law_1909 1 rfl ?_
  refine gz_callWq K (c_L_restore K.2.2.2.2.2 K.2.2.1 hp) cf_L_restore zq5_17 dL_law_1910 rfl rfl (Nat.le_of_ble_eq_true rfl) ⟨Nat.le_of_ble_eq_true rfl, Nat.le_of_ble_eq_true rfl⟩ ⟨show C + 0 + 1 ≤ 603072 by omega, show S + 0 + 6 ≤ 7149674 by omega⟩ (fun r1910 τ1910 hp => ?_)
  refine gz_norm (st' := [.int r1910]) (cells' := C + 1) (slots' := S + 6) rfl (show C + 0 + 1 = C + 1 by omega) (show S + 0 + 6 = S + 6 by omega) ?_
  refine gz_istore K [(6, .int r1910), (0, .ref b), (1, .ref (ad 0)), (2, .ref (ad 43)), (3, .ref (ad 66)), (4, .ref (ad 67)), (5, .int y5)] dL_law_1913 (by decide) rfl ?_
  refine gz_aload_n K dL_law_1915 3 rfl ?_
  refine gz_callVc K (c_X10_restore K.2.2.2.2.2 K.2.2.1 hp) cf_X10_restore zq6_164 (by decide) (ce_43 _ _ _ _ _ _) rfl dL_law_1916 rfl rfl (Nat.le_of_ble_eq_true rfl) ⟨Nat.le_of_ble_eq_true rfl, Nat.le_of_ble_eq_true rfl⟩ ⟨show C + 1 + 0 ≤ 603072 by omega, show S + 6 + 0 ≤ 7149674 by omega⟩ (fun _ _ h => h.elim) (fun _ τ1916 hp => ?_)
  refine gz_norm (st' := []) (cells' := C + 1) (slots' := S + 6) rfl (show C + 1 + 0 = C + 1 by omega) (show S + 6 + 0 = S + 6 by omega) ?_
  refine gz_aload_n K dL_law_1919 3 rfl ?_
  refine gz_callVc K (c_X10_thrown K.2.2.2.2.2 K.2.2.1 hp) cf_X10_thrown zq5_138 (by decide) (ce_43 _ _ _ _ _ _) rfl dL_law_1920 rfl rfl (Nat.le_of_ble_eq_true rfl) ⟨Nat.le_of_ble_eq_true rfl, Nat.le_of_ble_eq_true rfl⟩ ⟨show C + 1 + 0 ≤ 603072 by omega, show S + 6 + 0 ≤ 7149674 by omega⟩ (fun _ _ h => h.elim) (fun r1920 τ hp => ?_)
  obtain ⟨rfl, hp⟩ := hp
  refine gz_norm (st' := [.int r1920]) (cells' := C + 1) (slots' := S + 6) rfl (show C + 1 + 0 = C + 1 by omega) (show S + 6 + 0 = S + 6 by omega) ?_
  refine gz_iload K dL_law_1923 0 rfl ?_
  refine gz_icmp_eq K 1930 dL_law_1925 (by decide) (fun h => ?_) (fun h => ?_)
  · have hp := hp.1 h
    refine gz_goto K 1933 dL_law_1930 (by decide) ?_
    refine gz_iinc K (v := (y5 + (4))) [(5, .int (y5 + (4))), (6, .int r1910), (0, .ref b), (1, .ref (ad 0)), (2, .ref (ad 43)), (3, .ref (ad 66)), (4, .ref (ad 67))] dL_law_1933 6 rfl rfl (by decide) rfl ?_
    refine gz_goto K 28 dL_law_1936 (by decide) ?_
    refine gz_widen (k := C + 20) (n := S + 200) (show C + 1 ≤ C + 20 by omega) (show S + 6 ≤ S + 200 by omega) ?_
    refine gz_sub [2, 3, 4, 5, 6, 0] rfl ?_
    exact ih τ1916 (y5 + (4)) hp
  · have hp := hp.2 h
    refine gz_iconst K (v := (0 : Int32)) dL_law_1928 (by decide) ?_
    exact False.elim hp
set_option maxRecDepth 100000 in
set_option maxHeartbeats 4000000 in
theorem law_loop {p : Program} {l : Launch} {e : Env} {s : State} {m : MethodId} {below : List Frame} {meth : Method} {c : Code} {D : va_G} {ad : Nat → Nat} {ty : Nat → ClassId} {b L : Nat} {xs : Nat → Int32} (K : Kz p l s m #[.ref b] meth c D ad ty code 10 RL) (hr : meth.sig.returnType = ret) (had : ∀ k, k < 68 → s.heap.size ≤ ad k) (hX : va_X b L xs s s.heap) (hbl : b < s.heap.size) (hbA : ¬ Az ad s.heap.size b) : ∀ (n C S : Nat) (σ : Dz) (y5 : Int32), C + 20 * n ≤ 603072 → S + 200 * n ≤ 7149674 → L_L_law L xs n σ y5 → Gz p l e room_1 s m #[.ref b] below meth c D ad ty 10 C S (lw_Z below #[.ref b] s) σ 28 [(0, .ref b), (1, .ref (ad 0)), (2, .ref (ad 43)), (3, .ref (ad 66)), (4, .ref (ad 67)), (5, .int y5)] [] := by
  intro n; induction n with
  | zero => intro C S σ y5 _ _ hp; exact False.elim hp
  | succ n ihn =>
    intro C S σ y5 hC hS hp
    have hp : B_L_law_28 L xs (L_L_law L xs n) σ y5 := hp
    unfold B_L_law_28 at hp
    have ih : ∀ σ y5, L_L_law L xs n σ y5 → Gz p l e room_1 s m #[.ref b] below meth c D ad ty 10 (C + 20) (S + 200) (lw_Z below #[.ref b] s) σ 28 [(0, .ref b), (1, .ref (ad 0)), (2, .ref (ad 43)), (3, .ref (ad 66)), (4, .ref (ad 67)), (5, .int y5)] [] := fun σ y5 h => ihn (C + 20) (S + 200) σ y5 (by omega) (by omega) h
    have hC : C + 20 ≤ 603072 := by omega
    have hS : S + 200 ≤ 7149674 := by omega
    refine gz_norm (st' := []) (cells' := C + 0) (slots' := S + 0) rfl rfl rfl ?_
    refine gz_iload K dL_law_28 5 rfl ?_
    refine gz_aload_n K dL_law_30 0 rfl ?_
    refine gz_slen K hX hbl hbA dL_law_31 ?_
    refine gz_iconst K (v := (4 : Int32)) dL_law_32 (by decide) ?_
    refine gz_isub K dL_law_33 ?_
    refine gz_icmp_gt K 1939 dL_law_34 (by decide) (fun h => ?_) (fun h => ?_)
    · have hp := hp.1 h
      refine gz_iconst K (v := (1 : Int32)) dL_law_1939 (by decide) ?_
      exact gz_lawret K hr had (show C + 0 ≤ 603072 by omega) (show S + 0 ≤ 7149674 by omega) dL_law_1940
    · have hp := hp.2 h
      refine gz_aload_n K dL_law_37 0 rfl ?_
      refine gz_iload K dL_law_38 5 rfl ?_
      obtain ⟨h, hp⟩ := hp
      refine gz_sld K hX hbl hbA h dL_law_40 ?_
      refine gz_bipush K (v := (31 : Int32)) dL_law_41 (by decide) ?_
      refine gz_iand K dL_law_43 ?_
      obtain ⟨j, hj, hv⟩ := pk_andE (xs y5.toNatClampNeg) (m := 31) 5 (by decide)
      match j, hj, hv with
      | 0, _, hv => exact gz_tsw K (j := 0) (by decide) hv dL_law_44 rfl (tgt := 188) (by decide) (law_188 K hr had hX hbl hbA hC hS ih (hp.1 hv))
      | 1, _, hv => exact gz_tsw K (j := 1) (by decide) hv dL_law_44 rfl (tgt := 244) (by decide) (law_244 K hr had hX hbl hbA hC hS ih (hp.2.1 hv))
      | 2, _, hv => exact gz_tsw K (j := 2) (by decide) hv dL_law_44 rfl (tgt := 257) (by decide) (law_257 K hr had hX hbl hbA hC hS ih (hp.2.2.1 hv))
      | 3, _, hv => exact gz_tsw K (j := 3) (by decide) hv dL_law_44 rfl (tgt := 315) (by decide) (law_315 K hr had hX hbl hbA hC hS ih (hp.2.2.2.1 hv))
      | 4, _, hv => exact gz_tsw K (j := 4) (by decide) hv dL_law_44 rfl (tgt := 371) (by decide) (law_371 K hr had hX hbl hbA hC hS ih (hp.2.2.2.2.1 hv))
      | 5, _, hv => exact gz_tsw K (j := 5) (by decide) hv dL_law_44 rfl (tgt := 427) (by decide) (law_427 K hr had hX hbl hbA hC hS ih (hp.2.2.2.2.2.1 hv))
      | 6, _, hv => exact gz_tsw K (j := 6) (by decide) hv dL_law_44 rfl (tgt := 471) (by decide) (law_471 K hr had hX hbl hbA hC hS ih (hp.2.2.2.2.2.2.1 hv))
      | 7, _, hv => exact gz_tsw K (j := 7) (by decide) hv dL_law_44 rfl (tgt := 539) (by decide) (law_539 K hr had hX hbl hbA hC hS ih (hp.2.2.2.2.2.2.2.1 hv))
      | 8, _, hv => exact gz_tsw K (j := 8) (by decide) hv dL_law_44 rfl (tgt := 595) (by decide) (law_595 K hr had hX hbl hbA hC hS ih (hp.2.2.2.2.2.2.2.2.1 hv))
      | 9, _, hv => exact gz_tsw K (j := 9) (by decide) hv dL_law_44 rfl (tgt := 663) (by decide) (law_663 K hr had hX hbl hbA hC hS ih (hp.2.2.2.2.2.2.2.2.2.1 hv))
      | 10, _, hv => exact gz_tsw K (j := 10) (by decide) hv dL_law_44 rfl (tgt := 731) (by decide) (law_731 K hr had hX hbl hbA hC hS ih (hp.2.2.2.2.2.2.2.2.2.2.1 hv))
      | 11, _, hv => exact gz_tsw K (j := 11) (by decide) hv dL_law_44 rfl (tgt := 811) (by decide) (law_811 K hr had hX hbl hbA hC hS ih (hp.2.2.2.2.2.2.2.2.2.2.2.1 hv))
      | 12, _, hv => exact gz_tsw K (j := 12) (by decide) hv dL_law_44 rfl (tgt := 891) (by decide) (law_891 K hr had hX hbl hbA hC hS ih (hp.2.2.2.2.2.2.2.2.2.2.2.2.1 hv))
      | 13, _, hv => exact gz_tsw K (j := 13) (by decide) hv dL_law_44 rfl (tgt := 947) (by decide) (law_947 K hr had hX hbl hbA hC hS ih (hp.2.2.2.2.2.2.2.2.2.2.2.2.2.1 hv))
      | 14, _, hv => exact gz_tsw K (j := 14) (by decide) hv dL_law_44 rfl (tgt := 1010) (by decide) (law_1010 K hr had hX hbl hbA hC hS ih (hp.2.2.2.2.2.2.2.2.2.2.2.2.2.2.1 hv))
      | 15, _, hv => exact gz_tsw K (j := 15) (by decide) hv dL_law_44 rfl (tgt := 1078) (by decide) (law_1078 K hr had hX hbl hbA hC hS ih (hp.2.2.2.2.2.2.2.2.2.2.2.2.2.2.2.1 hv))
      | 16, _, hv => exact gz_tsw K (j := 16) (by decide) hv dL_law_44 rfl (tgt := 1153) (by decide) (law_1153 K hr had hX hbl hbA hC hS ih (hp.2.2.2.2.2.2.2.2.2.2.2.2.2.2.2.2.1 hv))
      | 17, _, hv => exact gz_tsw K (j := 17) (by decide) hv dL_law_44 rfl (tgt := 1221) (by decide) (law_1221 K hr had hX hbl hbA hC hS ih (hp.2.2.2.2.2.2.2.2.2.2.2.2.2.2.2.2.2.1 hv))
      | 18, _, hv => exact gz_tsw K (j := 18) (by decide) hv dL_law_44 rfl (tgt := 1289) (by decide) (law_1289 K hr had hX hbl hbA hC hS ih (hp.2.2.2.2.2.2.2.2.2.2.2.2.2.2.2.2.2.2.1 hv))
      | 19, _, hv => exact gz_tsw K (j := 19) (by decide) hv dL_law_44 rfl (tgt := 1345) (by decide) (law_1345 K hr had hX hbl hbA hC hS ih (hp.2.2.2.2.2.2.2.2.2.2.2.2.2.2.2.2.2.2.2.1 hv))
      | 20, _, hv => exact gz_tsw K (j := 20) (by decide) hv dL_law_44 rfl (tgt := 1389) (by decide) (law_1389 K hr had hX hbl hbA hC hS ih (hp.2.2.2.2.2.2.2.2.2.2.2.2.2.2.2.2.2.2.2.2.1 hv))
      | 21, _, hv => exact gz_tsw K (j := 21) (by decide) hv dL_law_44 rfl (tgt := 1445) (by decide) (law_1445 K hr had hX hbl hbA hC hS ih (hp.2.2.2.2.2.2.2.2.2.2.2.2.2.2.2.2.2.2.2.2.2.1 hv))
      | 22, _, hv => exact gz_tsw K (j := 22) (by decide) hv dL_law_44 rfl (tgt := 1470) (by decide) (law_1470 K hr had hX hbl hbA hC hS ih (hp.2.2.2.2.2.2.2.2.2.2.2.2.2.2.2.2.2.2.2.2.2.2.1 hv))
      | 23, _, hv => exact gz_tsw K (j := 23) (by decide) hv dL_law_44 rfl (tgt := 1483) (by decide) (law_1483 K hr had hX hbl hbA hC hS ih (hp.2.2.2.2.2.2.2.2.2.2.2.2.2.2.2.2.2.2.2.2.2.2.2.1 hv))
      | 24, _, hv => exact gz_tsw K (j := 24) (by decide) hv dL_law_44 rfl (tgt := 1496) (by decide) (law_1496 K hr had hX hbl hbA hC hS ih (hp.2.2.2.2.2.2.2.2.2.2.2.2.2.2.2.2.2.2.2.2.2.2.2.2.1 hv))
      | 25, _, hv => exact gz_tsw K (j := 25) (by decide) hv dL_law_44 rfl (tgt := 1537) (by decide) (law_1537 K hr had hX hbl hbA hC hS ih (hp.2.2.2.2.2.2.2.2.2.2.2.2.2.2.2.2.2.2.2.2.2.2.2.2.2.1 hv))
      | 26, _, hv => exact gz_tsw K (j := 26) (by decide) hv dL_law_44 rfl (tgt := 1593) (by decide) (law_1593 K hr had hX hbl hbA hC hS ih (hp.2.2.2.2.2.2.2.2.2.2.2.2.2.2.2.2.2.2.2.2.2.2.2.2.2.2.1 hv))
      | 27, _, hv => exact gz_tsw K (j := 27) (by decide) hv dL_law_44 rfl (tgt := 1661) (by decide) (law_1661 K hr had hX hbl hbA hC hS ih (hp.2.2.2.2.2.2.2.2.2.2.2.2.2.2.2.2.2.2.2.2.2.2.2.2.2.2.2.1 hv))
      | 28, _, hv => exact gz_tsw K (j := 28) (by decide) hv dL_law_44 rfl (tgt := 1717) (by decide) (law_1717 K hr had hX hbl hbA hC hS ih (hp.2.2.2.2.2.2.2.2.2.2.2.2.2.2.2.2.2.2.2.2.2.2.2.2.2.2.2.2.1 hv))
      | 29, _, hv => exact gz_tsw K (j := 29) (by decide) hv dL_law_44 rfl (tgt := 1797) (by decide) (law_1797 K hr had hX hbl hbA hC hS ih (hp.2.2.2.2.2.2.2.2.2.2.2.2.2.2.2.2.2.2.2.2.2.2.2.2.2.2.2.2.2.1 hv))
      | 30, _, hv => exact gz_tsw K (j := 30) (by decide) hv dL_law_44 rfl (tgt := 1898) (by decide) (law_1898 K hr had hX hbl hbA hC hS ih (hp.2.2.2.2.2.2.2.2.2.2.2.2.2.2.2.2.2.2.2.2.2.2.2.2.2.2.2.2.2.2.1 hv))
      | 31, _, hv => exact gz_tsw K (j := 31) (by decide) hv dL_law_44 rfl (tgt := 1909) (by decide) (law_1909 K hr had hX hbl hbA hC hS ih (hp.2.2.2.2.2.2.2.2.2.2.2.2.2.2.2.2.2.2.2.2.2.2.2.2.2.2.2.2.2.2.2 hv))
      | j + 32, hj, _ => exact absurd hj (by omega)
