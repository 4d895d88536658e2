/-! more rows. Written by wip/whole/genall.py -/
section ZMore
theorem nB {v : Int32} (h : v = 0 ∨ v = 1) : narrow .boolean (.int v) = .int v := by rcases h with rfl | rfl <;> rfl
theorem fB {v : Int32} (h : v = 0 ∨ v = 1) : fits .boolean (.int v) = true := by rcases h with rfl | rfl <;> rfl
theorem vp_lt {i : Int32} {n : Nat} (h : vp_in i n) : i.toNatClampNeg < n := Nat.not_le.mp fun q => h (Or.inr q)
theorem vp_nB {v : Int32} (h : v = 0 ∨ v = 1) : vp_nar .boolean v = v := by rcases h with rfl | rfl <;> rfl
theorem vp_nC {v : Int32} (h : narrow .char (.int v) = .int v) : vp_nar .char v = v := by unfold vp_nar; rw [h]
variable {p : Program} {l : Launch} {e : Env} {R : Room} {s : State} {m : MethodId} {args : Array Value} {below : List Frame} {meth : Method} {c : Code} {D : va_G} {ad : Nat → Nat} {ty : Nat → ClassId} {cc : ByteArray} {nL cells slots : Nat} {own : String} {Q : State → Prop} {σ : Dz} {pc : Nat} {lv : List (Nat × Value)} {st : List Value}
theorem gz_norm {st' : List Value} {cells' slots' : Nat} (h1 : st = st') (h2 : cells = cells') (h3 : slots = slots') (kk : Gz p l e R s m args below meth c D ad ty nL cells' slots' Q σ pc lv st') : Gz p l e R s m args below meth c D ad ty nL cells slots Q σ pc lv st := by
  subst h1; subst h2; subst h3; exact kk
theorem gz_zastB (K : Kz p l s m args meth c D ad ty cc nL own) {k n : Nat} {i : Int32} {x : Int32} (hk : k < 68) (he : ∀ f g h q, cz ad ty f g h q k = .inl (ty 4, n, .inl f)) (hin : vp_in i n) (hB : x = 0 ∨ x = 1) (hdg : decode cc pc = .ok (.bastore, 1)) (kk : Gz p l e R s m args below meth c D ad ty nL cells slots Q (sz_i σ k i.toNatClampNeg x) (pc + 1) lv st) : Gz p l e R s m args below meth c D ad ty nL cells slots Q σ pc lv (.int x :: .int i :: .ref (ad k) :: st) :=
  gz_zast K hk he hin hdg (by rw [vp_nB hB]; exact kk)
theorem gz_castC (K : Kz p l s m args meth c D ad ty cc nL own) {k n : Nat} {i : Int32} {x : Int32} (hk : k < 68) (he : ∀ f g h q, cz ad ty f g h q k = .inl (ty 0, n, .inl f)) (hin : vp_in i n) (hC : narrow .char (.int x) = .int x) (hdg : decode cc pc = .ok (.castore, 1)) (kk : Gz p l e R s m args below meth c D ad ty nL cells slots Q (sz_i σ k i.toNatClampNeg x) (pc + 1) lv st) : Gz p l e R s m args below meth c D ad ty nL cells slots Q σ pc lv (.int x :: .int i :: .ref (ad k) :: st) :=
  gz_cast K hk he hin hdg (by rw [vp_nC hC]; exact kk)
theorem gz_mabs (K : Kz p l s m args meth c D ad ty cc nL own) {idx : Nat} {x : Int32} (hlink : Cond.methodLink own idx Lib.Math.abs.name ∈ zW) (hstat : Cond.static Lib.Math.abs.name ∈ zW) (hini : Cond.initialized "java/lang/Math" ∈ zW) (hcode : Cond.code Lib.Math.abs.name Lib.Math.abs.code 1 (some .int) ∈ zW) (hdg : decode cc pc = .ok (.invokestatic idx, 3)) (hfr : 1 ≤ R.frames) (hlo : (st.map fun v => v.category).sum + 13 ≤ R.locals) (hc : cells ≤ R.cells) (hs : slots ≤ R.slots) (kk : Gz p l e R s m args below meth c D ad ty nL cells slots Q σ (pc + 3) lv (.int (if 0 ≤ x then x else 0 - x) :: st)) : Gz p l e R s m args below meth c D ad ty nL cells slots Q σ pc lv (.int x :: st) := fun H locs ls hP hS hl =>
  va_mabs K.1.1 K.1.2.1 (K.1.2.2.1.trans hl.1.symm) K.1.2.2.2.1 (K.1.2.2.2.2 _ hlink) (K.1.2.2.2.2 _ hstat) (K.1.2.2.2.2 _ hini) (K.1.2.2.2.2 _ hcode) hfr hlo hc hs hdg (kk H locs ls hP hS hl)
theorem gz_mmax (K : Kz p l s m args meth c D ad ty cc nL own) {idx : Nat} {x y : Int32} (hlink : Cond.methodLink own idx Lib.Math.max.name ∈ zW) (hstat : Cond.static Lib.Math.max.name ∈ zW) (hini : Cond.initialized "java/lang/Math" ∈ zW) (hcode : Cond.code Lib.Math.max.name Lib.Math.max.code 2 (some .int) ∈ zW) (hdg : decode cc pc = .ok (.invokestatic idx, 3)) (hfr : 1 ≤ R.frames) (hlo : (st.map fun v => v.category).sum + 13 ≤ R.locals) (hc : cells ≤ R.cells) (hs : slots ≤ R.slots) (kk : Gz p l e R s m args below meth c D ad ty nL cells slots Q σ (pc + 3) lv (.int (if x < y then y else x) :: st)) : Gz p l e R s m args below meth c D ad ty nL cells slots Q σ pc lv (.int y :: .int x :: st) := fun H locs ls hP hS hl =>
  va_mmax K.1.1 K.1.2.1 (K.1.2.2.1.trans hl.1.symm) K.1.2.2.2.1 (K.1.2.2.2.2 _ hlink) (K.1.2.2.2.2 _ hstat) (K.1.2.2.2.2 _ hini) (K.1.2.2.2.2 _ hcode) hfr hlo hc hs hdg (kk H locs ls hP hS hl)
theorem gz_ldc_w (K : Kz p l s m args meth c D ad ty cc nL own) {idx : Nat} {v : Int32} (hc : Cond.constant own idx v ∈ zW) (hdg : decode cc pc = .ok (.ldc_w idx, 3)) (kk : Gz p l e R s m args below meth c D ad ty nL cells slots Q σ (pc + 3) lv (.int v :: st)) : Gz p l e R s m args below meth c D ad ty nL cells slots Q σ pc lv st := fun H locs ls hP hS hl => lv_ldcw K.1.1 K.1.2.1 K.1.2.2.2.1 (K.1.2.2.2.2 _ hc) hdg (kk H locs ls hP hS hl)
theorem gz_ldcf_w (K : Kz p l s m args meth c D ad ty cc nL own) {idx : Nat} {v : UInt32} (hc : Cond.constantFloat own idx v ∈ zW) (hdg : decode cc pc = .ok (.ldc_w idx, 3)) (kk : Gz p l e R s m args below meth c D ad ty nL cells slots Q σ (pc + 3) lv (.float v :: st)) : Gz p l e R s m args below meth c D ad ty nL cells slots Q σ pc lv st := fun H locs ls hP hS hl => by
  intro T hT X
  obtain ⟨t, a, b⟩ := kk H locs ls hP hS hl T hT X
  refine ⟨t, ?_, b⟩
  obtain ⟨k, cf, hk, hcf, hcp⟩ := Cond.constantFloat_spec K.1.2.2.2.1 (K.1.2.2.2.2 _ hc)
  obtain ⟨k', hk', he⟩ := X.warmed.alike.2.2 _ _ hk
  have hexec := K.1.1
  have hdg' : decode c.code pc = .ok (.ldc_w idx, 3) := by rw [K.1.2.1]; exact hdg
  jvm_step X.here [hexec, hdg', ldc_w.wp_float (s := T) (f := F0 m pc ls st) X.here.top hk' (by rw [he]; exact hcf) hcp]
  exact a
theorem gz_throw (K : Kz p l s m args meth c D ad ty cc nL own) (hex : ∀ x ∈ c.exceptionTable.toList, False) {ρ : Type} {enc : ρ → Option Value} {post : ρ → Dz → Prop} {px : String → Dz → Prop} {mc ms : Nat} {cls text : String} {ik is ic ix n : Nat} {rx : ByteArray} {sa : Nat} (wide : Bool) (hn : n = if wide = true then 3 else 2)
    (x0 : decode rx 0 = .ok (.aload_n 0, 1)) (x1 : decode rx 1 = .ok (.aload_n 1, 1)) (x2 : decode rx 2 = .ok (.invokespecial ix, 3)) (x5 : decode rx 5 = .ok (.return_, 1)) (hcls : Bundle.fit cls = true)
    (hk : Cond.classLink own ik cls ∈ zW) (hini : Cond.initialized cls ∈ zW) (hstr : vk_R own is text sa s) (hat : ∀ w ∈ zx_all own ic cls ix rx, vx_no w = true → zx_ok w)
    (d0 : decode cc pc = .ok (.new ik, 3)) (d3 : decode cc (pc + 3) = .ok (.dup, 1)) (d4 : decode cc (pc + 4) = .ok (if wide = true then .ldc_w is else .ldc is, n)) (d6 : decode cc (pc + 4 + n) = .ok (.invokespecial ic, 3)) (d9 : decode cc (pc + 4 + n + 3) = .ok (.athrow, 1))
    (hRframes : 5 < R.frames) (hRlocals : 82 ≤ R.locals) (hRcells : cells + 1 ≤ R.cells) (hRslots : slots + 6 ≤ R.slots) (hp : px cls σ) (hc : cells + 1 ≤ mc) (hs : slots + 6 ≤ ms) :
    Gz p l e R s m args below meth c D ad ty nL cells slots (Ez below D ad ty enc post px args s mc ms) σ pc lv [] := fun H locs ls hP hS hl =>
  zx_throw K hex wide hn x0 x1 x2 x5 hcls hk hini hstr hat d0 d3 d4 d6 d9 hP hS hl hRframes hRlocals hRcells hRslots hp hc hs
end ZMore
