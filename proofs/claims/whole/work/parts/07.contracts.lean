/-! contracts: every method returns or throws; Mz. Written by wip/whole/gencontracts.py -/
section ZMet
def Qz (D : va_G) (ad : Nat → Nat) (ty : Nat → ClassId) (sz : Nat) {ρ : Type} (enc : ρ → Option Value) (post : ρ → Dz → Prop) : Array Value → State → Outcome → State → Prop := fun _ st oc t => (∃ (r : ρ) (σ' : Dz), oc = .returned (enc r) ∧ post r σ' ∧ va_P D zCl (wz ad ty σ') t.heap) ∧ va_F (Az ad sz) st t
def Xz (D : va_G) (ad : Nat → Nat) (ty : Nat → ClassId) (sz : Nat) (px : String → Dz → Prop) : String → State → State → Prop := fun E st t => (∃ σ' : Dz, px E σ' ∧ va_P D zCl (wz ad ty σ') t.heap) ∧ va_F (Az ad sz) st t
def Pz (D : va_G) (ad : Nat → Nat) (ty : Nat → ClassId) (sz : Nat) (σ : Dz) (av : List Value) : Array Value → State → Prop := va_Pc av (fun U => U.heap.size = sz ∧ va_P D zCl (wz ad ty σ) U.heap ∧ va_K D zCl (tz ty) U ∧ Yz ad U)
/-- the contract of a method: from the world σ with the arguments av it returns (post) or throws (px) -/
def Mz (l : Launch) (D : va_G) (ad : Nat → Nat) (ty : Nat → ClassId) (y : MethodName) (cc : ByteArray) (maxL : Nat) (ret : Option FieldType) (rm : Room) {ρ : Type} (enc : ρ → Option Value) (σ : Dz) (av : List Value) (post : ρ → Dz → Prop) (px : String → Dz → Prop) : Prop :=
  ∀ sz, vx_Met l y (Cond.code y cc maxL ret :: zW) rm (Pz D ad ty sz σ av) (Qz D ad ty sz enc post) (Xz D ad ty sz px) rm.cells rm.slots (Az ad sz)
def Ez (below : List Frame) (D : va_G) (ad : Nat → Nat) (ty : Nat → ClassId) {ρ : Type} (enc : ρ → Option Value) (post : ρ → Dz → Prop) (px : String → Dz → Prop) (args : Array Value) (s : State) (mc ms : Nat) : State → Prop := vx_MQ below (Qz D ad ty s.heap.size enc post) (Xz D ad ty s.heap.size px) args s mc ms (Az ad s.heap.size)
abbrev nI0 : Int32 → Option Value := fun r => some (.int r)
abbrev nD0 : UInt64 → Option Value := fun r => some (.double r)
abbrev nV0 : Unit → Option Value := fun _ => none
abbrev nR0 (ad : Nat → Nat) : Nat → Option Value := fun w => some (.ref (ad w))
theorem Pz_blind {D : va_G} {ad : Nat → Nat} {ty : Nat → ClassId} {sz : Nat} {σ : Dz} {av : List Value} : FrameBlind (Pz D ad ty sz σ av) := by
  intro a U g mk h
  obtain ⟨h1, h2, h3, h4, h5⟩ := h
  exact ⟨h1, h2, h3, va_K.moved (u := U) (U := U.calling g mk a) (Vm.Alike.refl U.vm) h4, h5.calling g mk a⟩
theorem mz_of {l : Launch} {D : va_G} {ad : Nat → Nat} {ty : Nat → ClassId} {y : MethodName} {cc : ByteArray} {maxL : Nat} {ret : Option FieldType} {rm : Room} {ρ : Type} {enc : ρ → Option Value} {σ : Dz} {av : List Value} {post : ρ → Dz → Prop} {px : String → Dz → Prop}
    (hy : plainName y.cls = true) (hl : l.stackTraces = false) (hj : ∀ i j, i < 68 → j < 68 → ad i = ad j → i = j) (hav : (lg_sl av).length ≤ maxL)
    (body : ∀ p e s m args below meth c, Kz p l s m args meth c D ad ty cc maxL y.cls → (∀ x ∈ c.exceptionTable.toList, False) → meth.sig.returnType = ret → Gz p l e rm s m args below meth c D ad ty maxL 0 0 (Ez below D ad ty enc post px args s rm.cells rm.slots) σ 0 (lv_args 0 av) []) :
    Mz l D ad ty y cc maxL ret rm enc σ av post px := by
  intro sz
  refine vx_ofW (cc := cc) (maxL := maxL) (ret := ret) hy rfl ?_
  intro p e s m args below meth c s₁ B hml hex hv
  obtain ⟨h1, hsz, hP, hK, hY⟩ := hv
  have hts := atoms_spec (ws := Cond.code y cc maxL ret :: zW) B.pre
  have K : Kz p l s m args meth c D ad ty cc maxL y.cls := ⟨⟨B.exec, B.bytes, hml, findClass_of_methodNamed B.named, fun w h => hts w (List.mem_cons_of_mem _ h)⟩, hK, hj, B.notSynchronized, hY, hl⟩
  subst hsz
  have hb := body p e s m args below meth c K hex B.returns
  have hen := lv_entry av (n := maxL) hav
  have hw := hb s.heap [] _ hP va_S.rf hen
  rw [h1, lg_entry_eq]
  subst h1
  exact hw
variable {p : Program} {l : Launch} {e : Env} {R : Room} {s : State} {m : MethodId} {args : Array Value} {below : List Frame} {meth : Method} {c : Code} {D : va_G} {ad : Nat → Nat} {ty : Nat → ClassId} {cc : ByteArray} {nL cells slots : Nat} {own : String} {Q : State → Prop} {σ : Dz} {pc : Nat} {lv : List (Nat × Value)} {st : List Value} {ρ : Type} {enc : ρ → Option Value} {post : ρ → Dz → Prop} {px : String → Dz → Prop} {mc ms : Nat}
-- ends
theorem gz_vret (K : Kz p l s m args meth c D ad ty cc nL own) (hr : meth.sig.returnType = none) {post : Unit → Dz → Prop} (hp : post () σ) (hdg : decode cc pc = .ok (.return_, 1)) (h1 : cells ≤ mc) (h2 : slots ≤ ms) : Gz p l e R s m args below meth c D ad ty nL cells slots (Ez below D ad ty nV0 post px args s mc ms) σ pc lv [] := fun H locs ls hP hS hl =>
  W.widen h1 h2 (vx_ret (W.vret K.1.1 K.1.2.1 hr (fun t ht hW => ⟨⟨(), σ, rfl, hp, by rw [ht]; exact hP⟩, hS.F ht⟩) hS.2.2 hdg K.2.2.2.1))
theorem gz_iret (K : Kz p l s m args meth c D ad ty cc nL own) (hr : meth.sig.returnType = some .int) {post : Int32 → Dz → Prop} {v : Int32} (hp : post v σ) (hdg : decode cc pc = .ok (.ireturn, 1)) (h1 : cells ≤ mc) (h2 : slots ≤ ms) : Gz p l e R s m args below meth c D ad ty nL cells slots (Ez below D ad ty nI0 post px args s mc ms) σ pc lv [.int v] := fun H locs ls hP hS hl =>
  W.widen h1 h2 (vx_ret (W.iret K.1.1 K.1.2.1 hr (fun t ht hW => ⟨⟨v, σ, rfl, hp, by rw [ht]; exact hP⟩, hS.F ht⟩) hS.2.2 hdg K.2.2.2.1))
theorem gz_zret (K : Kz p l s m args meth c D ad ty cc nL own) {rt : FieldType} (hr : meth.sig.returnType = some rt) {post : Int32 → Dz → Prop} {v : Int32} (hn : narrow rt (.int v) = .int v) (hp : post v σ) (hdg : decode cc pc = .ok (.ireturn, 1)) (h1 : cells ≤ mc) (h2 : slots ≤ ms) : Gz p l e R s m args below meth c D ad ty nL cells slots (Ez below D ad ty nI0 post px args s mc ms) σ pc lv [.int v] := fun H locs ls hP hS hl =>
  W.widen h1 h2 (vx_ret (W.zret K.1.1 K.1.2.1 hr hn (fun t ht hW => ⟨⟨v, σ, rfl, hp, by rw [ht]; exact hP⟩, hS.F ht⟩) hS.2.2 hdg K.2.2.2.1))
theorem gz_dret (K : Kz p l s m args meth c D ad ty cc nL own) (hr : meth.sig.returnType = some .double) {post : UInt64 → Dz → Prop} {v : UInt64} (hp : post v σ) (hdg : decode cc pc = .ok (.dreturn, 1)) (h1 : cells ≤ mc) (h2 : slots ≤ ms) : Gz p l e R s m args below meth c D ad ty nL cells slots (Ez below D ad ty nD0 post px args s mc ms) σ pc lv [.double v] := fun H locs ls hP hS hl =>
  W.widen h1 h2 (vx_ret (W.dret K.1.1 K.1.2.1 hr (fun t ht hW => ⟨⟨v, σ, rfl, hp, by rw [ht]; exact hP⟩, hS.F ht⟩) hS.2.2 hdg K.2.2.2.1))
theorem gz_aret (K : Kz p l s m args meth c D ad ty cc nL own) {nm : String} (hr : meth.sig.returnType = some (.object nm)) {post : Nat → Dz → Prop} {v : Nat} (hp : post v σ) (hdg : decode cc pc = .ok (.areturn, 1)) (h1 : cells ≤ mc) (h2 : slots ≤ ms) : Gz p l e R s m args below meth c D ad ty nL cells slots (Ez below D ad ty (nR0 ad) post px args s mc ms) σ pc lv [.ref (ad v)] := fun H locs ls hP hS hl =>
  W.widen h1 h2 (vx_ret (W.aret K.1.1 K.1.2.1 hr (Or.inl ⟨nm, rfl⟩) (Or.inr ⟨_, rfl⟩) (fun t ht hW => ⟨⟨v, σ, rfl, hp, by rw [ht]; exact hP⟩, hS.F ht⟩) hS.2.2 hdg K.2.2.2.1))
-- calls
def CfV (y : MethodName) (bytes : ByteArray) (maxL : Nat) (ret : Option FieldType) (C : String) (n : Nat) : Prop := Cond.instanceMethod y ∈ zW ∧ Cond.selects C y y ∈ zW ∧ Cond.initialized C ∈ zW ∧ Cond.code y bytes maxL ret ∈ zW ∧ (y.cls = C ∧ y.cls ≠ "java/lang/invoke/MethodHandle" ∧ y.cls ≠ "java/lang/invoke/VarHandle" ∧ (parseMethodDescriptor y.desc).map (fun d => d.parameters.length) = some n)
def CfS (y : MethodName) (bytes : ByteArray) (maxL : Nat) (ret : Option FieldType) (n : Nat) : Prop := Cond.static y ∈ zW ∧ Cond.initialized y.cls ∈ zW ∧ Cond.code y bytes maxL ret ∈ zW ∧ (y.cls ≠ "java/lang/invoke/MethodHandle" ∧ y.cls ≠ "java/lang/invoke/VarHandle" ∧ (parseMethodDescriptor y.desc).map (fun d => d.parameters.length) = some n)
theorem zg_cons {w : Cond} (h : w ∈ zW) : GoodIn zW (w :: zW) := fun x hx => (List.mem_cons.mp hx).elim (fun e => ⟨e ▸ h, e ▸ zW_good h⟩) (fun z => ⟨z, zW_good z⟩)
theorem zg_V {own C : String} {idx n maxL : Nat} {y : MethodName} {bytes : ByteArray} {ret : Option FieldType} (h : CfV y bytes maxL ret C n) (h1 : Cond.methodLink own idx y ∈ zW) : GoodIn zW (wsV own idx C y (Cond.code y bytes maxL ret :: zW)) := by
  intro w hw
  rcases List.mem_append.mp hw with z | z
  · rcases List.mem_cons.mp z with rfl | z
    · exact ⟨h1, zW_good h1⟩
    rcases List.mem_cons.mp z with rfl | z
    · exact ⟨h.1, zW_good h.1⟩
    rcases List.mem_cons.mp z with rfl | z
    · exact ⟨h.2.1, zW_good h.2.1⟩
    rcases List.mem_cons.mp z with rfl | z
    · exact ⟨h.2.2.1, zW_good h.2.2.1⟩
    · cases z
  · exact zg_cons h.2.2.2.1 w z
theorem zg_S {own : String} {idx n maxL : Nat} {y : MethodName} {bytes : ByteArray} {ret : Option FieldType} (h : CfS y bytes maxL ret n) (h1 : Cond.methodLink own idx y ∈ zW) : GoodIn zW (va_wsS own idx y (Cond.code y bytes maxL ret :: zW)) := by
  intro w hw
  rcases List.mem_append.mp hw with z | z
  · rcases List.mem_cons.mp z with rfl | z
    · exact ⟨h1, zW_good h1⟩
    rcases List.mem_cons.mp z with rfl | z
    · exact ⟨h.1, zW_good h.1⟩
    rcases List.mem_cons.mp z with rfl | z
    · exact ⟨h.2.1, zW_good h.2.1⟩
    · cases z
  · exact zg_cons h.2.2.1 w z
theorem Pz_at (K : Kz p l s m args meth c D ad ty cc nL own) {H : Heap} {locs : List Loc} (hP : va_P D zCl (wz ad ty σ) H) (hS : va_S (Az ad s.heap.size) s.heap H locs) (av : List Value) : ∀ U : State, U.heap = H → s.WarmedH U.vm → Pz D ad ty H.size σ av av.toArray U := fun U hU hW =>
  ⟨rfl, by rw [hU], by rw [hU]; exact hP, va_K.moved hW.alike K.2.1, K.2.2.2.2.1.at hS hU hW⟩
/-- behind a call: it came back, or threw out of this method too -/
theorem gz_back {H : Heap} {locs : List Loc} {ls : Array Slot} {rm : Room} {rest st0 : List Value} {a : Array Value} {ρ1 : Type} {enc1 : ρ1 → Option Value} {post1 : ρ1 → Dz → Prop} {px1 : String → Dz → Prop} (K : Kz p l s m args meth c D ad ty cc nL own) (hex : ∀ x ∈ c.exceptionTable.toList, False)
    (hr : vx_Run p l e R s m args below meth c H locs cells slots rm.cells rm.slots (F0 m pc ls st0) rest (Qz D ad ty H.size enc1 post1 a) (Xz D ad ty H.size px1) (Az ad H.size)) (hS : va_S (Az ad s.heap.size) s.heap H locs) (hl : lv_has ls nL lv) (hc : cells + rm.cells ≤ mc) (hs : slots + rm.slots ≤ ms)
    (kx : ∀ E σ', px1 E σ' → px E σ') (kk : ∀ r σ', post1 r σ' → Gz p l e R s m args below meth c D ad ty nL (cells + rm.cells) (slots + rm.slots) (Ez below D ad ty enc post px args s mc ms) σ' (pc + 3) lv ((enc1 r).toList ++ rest)) :
    W p l e R s m args below meth c H locs cells slots (Ez below D ad ty enc post px args s mc ms) (F0 m pc ls st0) := by
  intro T hT X
  have hA : ∀ q, Az ad H.size q → Az ad s.heap.size q := Az_le hS.1
  rcases hr T hT X with ⟨v, st₀, t, T', L, h0, X', hL, e1, e2, ⟨⟨r, u, hv, hp, hb⟩, hF⟩, st⟩ | ⟨q, st₀, t, T', L, E, ce, h0, X', hL, e1, e2, ⟨⟨u, hp, hb⟩, hF⟩, hce, hcv, hcl, st⟩
  · cases hv
    obtain ⟨k1, k2, k3⟩ := vx_keep h0 e1 hS (fun q _ h => hA q h) hA hL hF
    obtain ⟨t2, a1, b1⟩ := kk r u hp T'.heap (locs ++ L) ls (by rw [e1]; exact hb) k3 hl T' rfl X'
    exact ⟨t2, st t2 a1, b1⟩
  · obtain ⟨k1, k2, k3⟩ := vx_keep h0 e1 hS (fun q _ h => hA q h) hA hL hF
    have hw : vx_W p l e R s m args below meth c T'.heap (locs ++ L) (cells + rm.cells) (slots + rm.slots) (Ez below D ad ty enc post px args s mc ms) (F0 m pc ls rest) q :=
      vx_out (fun x hx => (hex x hx).elim) K.2.2.2.1 (by rw [e1]; exact hce) hcv hcl (fun t' ht' _ => ⟨⟨u, kx E u hp, by rw [ht', e1]; exact hb⟩, k3.F ht'⟩) k3.2.2 hc hs
    obtain ⟨t2, a1, b1⟩ := hw T' rfl X'
    exact ⟨t2, st.trans a1, b1⟩
theorem gz_callV (K : Kz p l s m args meth c D ad ty cc nL own) (hex : ∀ x ∈ c.exceptionTable.toList, False) {y : MethodName} {bytes : ByteArray} {maxL n idx k ci N : Nat} {ret : Option FieldType} {Cn : String} {T : u_T} {fs : List Value} {rm : Room} {ρ1 : Type} {enc1 : ρ1 → Option Value} {As rest : List Value} {post1 : ρ1 → Dz → Prop} {px1 : String → Dz → Prop}
    (hM : Mz l D ad ty y bytes maxL ret rm enc1 σ (.ref (ad k) :: As) post1 px1) (hcf : CfV y bytes maxL ret Cn n) (hlink : Cond.methodLink own idx y ∈ zW) (hk : k < 68) (he : ez ad ty σ k = .inr (ci, fs)) (hci : zCl[ci]? = some (Cn, T, N)) (hdg : decode cc pc = .ok (.invokevirtual idx, 3)) (hn : As.length = n) (hst : st = As.reverse ++ .ref (ad k) :: rest) (hW : (rest.map fun v => v.category).sum ≤ 8)
    (hR : rm.frames + 1 ≤ R.frames ∧ 8 + (maxL + 11) + rm.locals ≤ R.locals) (hf : cells + rm.cells ≤ R.cells ∧ slots + rm.slots ≤ R.slots) (hc : cells + rm.cells ≤ mc) (hs : slots + rm.slots ≤ ms)
    (kx : ∀ E σ', px1 E σ' → px E σ') (kk : ∀ r σ', post1 r σ' → Gz p l e R s m args below meth c D ad ty nL (cells + rm.cells) (slots + rm.slots) (Ez below D ad ty enc post px args s mc ms) σ' (pc + 3) lv ((enc1 r).toList ++ rest)) :
    Gz p l e R s m args below meth c D ad ty nL cells slots (Ez below D ad ty enc post px args s mc ms) σ pc lv st := fun H locs ls hP hS hl => by
  subst hst
  exact gz_back K hex (vx_runV (As := As) (rest := rest) K.1 (hM H.size) (cwV n K.1.2.2.2.2 (zg_V hcf hlink) rfl rfl rfl hcf.2.2.2.2 hR) ⟨Pz_blind, va_recv K.2.1 hP hci ((wz_get hk).trans (congrArg (fun z => some (ad k, z)) he)), Pz_at K hP hS _⟩ rfl hn hl.1 rfl (lv_room hW) hdg hf) hS hl hc hs kx kk
theorem gz_callS (K : Kz p l s m args meth c D ad ty cc nL own) (hex : ∀ x ∈ c.exceptionTable.toList, False) {y : MethodName} {bytes : ByteArray} {maxL n idx : Nat} {ret : Option FieldType} {rm : Room} {ρ1 : Type} {enc1 : ρ1 → Option Value} {As rest : List Value} {post1 : ρ1 → Dz → Prop} {px1 : String → Dz → Prop}
    (hM : Mz l D ad ty y bytes maxL ret rm enc1 σ As post1 px1) (hcf : CfS y bytes maxL ret n) (hlink : Cond.methodLink own idx y ∈ zW) (hdg : decode cc pc = .ok (.invokestatic idx, 3)) (hn : As.length = n) (hst : st = As.reverse ++ rest) (hW : (rest.map fun v => v.category).sum ≤ 8)
    (hR : rm.frames + 1 ≤ R.frames ∧ 8 + (maxL + 11) + rm.locals ≤ R.locals) (hf : cells + rm.cells ≤ R.cells ∧ slots + rm.slots ≤ R.slots) (hc : cells + rm.cells ≤ mc) (hs : slots + rm.slots ≤ ms)
    (kx : ∀ E σ', px1 E σ' → px E σ') (kk : ∀ r σ', post1 r σ' → Gz p l e R s m args below meth c D ad ty nL (cells + rm.cells) (slots + rm.slots) (Ez below D ad ty enc post px args s mc ms) σ' (pc + 3) lv ((enc1 r).toList ++ rest)) :
    Gz p l e R s m args below meth c D ad ty nL cells slots (Ez below D ad ty enc post px args s mc ms) σ pc lv st := fun H locs ls hP hS hl => by
  subst hst
  exact gz_back K hex (vx_runS (As := As) (rest := rest) K.1 (hM H.size) (va_cwS n K.1.2.2.2.2 (zg_S hcf hlink) rfl rfl rfl hcf.2.2.2 hR) ⟨Pz_blind, Pz_at K hP hS _⟩ rfl hn hl.1 rfl (lv_room hW) hdg hf) hS hl hc hs kx kk
end ZMet
