/-! methods that catch: their contract, and the rows of a call whose throws are caught here -/
section ZCatch
def MzW (l : Launch) (D : va_G) (ad : Nat → Nat) (ty : Nat → ClassId) (y : MethodName) (cc : ByteArray) (maxL : Nat) (ret : Option FieldType) (hh : List (Nat × Nat × Nat × Nat)) (rm : Room) {ρ : Type} (enc : ρ → Option Value) (σ : Dz) (av : List Value) (post : ρ → Dz → Prop) (px : String → Dz → Prop) : Prop :=
  ∀ sz, vx_Met l y (Cond.codeWith y cc maxL ret hh :: zW) rm (Pz D ad ty sz σ av) (Qz D ad ty sz enc post) (Xz D ad ty sz px) rm.cells rm.slots (Az ad sz)
theorem mzw_of {l : Launch} {D : va_G} {ad : Nat → Nat} {ty : Nat → ClassId} {y : MethodName} {cc : ByteArray} {maxL : Nat} {ret : Option FieldType} {hh : List (Nat × Nat × Nat × Nat)} {rm : Room} {ρ : Type} {enc : ρ → Option Value} {σ : Dz} {av : List Value} {post : ρ → Dz → Prop} {px : String → Dz → Prop}
    (hy : plainName y.cls = true) (hl : l.stackTraces = false) (hj : ∀ i j, i < 68 → j < 68 → ad i = ad j → i = j) (hav : (lg_sl av).length ≤ maxL)
    (body : ∀ p e s m args below meth c, Kz p l s m args meth c D ad ty cc maxL y.cls → c.exceptionTable.toList = tableOf hh → meth.sig.returnType = ret → Gz p l e rm s m args below meth c D ad ty maxL 0 0 (Ez below D ad ty enc post px args s rm.cells rm.slots) σ 0 (lv_args 0 av) []) :
    MzW l D ad ty y cc maxL ret hh rm enc σ av post px := by
  intro sz
  refine vx_ofWH (cc := cc) (maxL := maxL) (ret := ret) (hh := hh) hy rfl ?_
  intro p e s m args below meth c s₁ B hml hv
  obtain ⟨h1, hsz, hP, hK, hY⟩ := hv
  have hts := atoms_spec (ws := Cond.codeWith y cc maxL ret hh :: zW) B.pre
  have K : Kz p l s m args meth c D ad ty cc maxL y.cls := ⟨⟨B.exec, B.bytes, hml, findClass_of_methodNamed B.named, fun w h => hts w (List.mem_cons_of_mem _ h)⟩, hK, hj, B.notSynchronized, hY, hl⟩
  subst hsz
  have hb := body p e s m args below meth c K (vx_table (x := y) B (hts _ List.mem_cons_self)) B.returns
  have hen := lv_entry av (n := maxL) hav
  have hw := hb s.heap [] _ hP va_S.rf hen
  rw [h1, lg_entry_eq]
  subst h1
  exact hw
def Cz (p : Program) (l : Launch) (e : Env) (R : Room) (s : State) (m : MethodId) (args : Array Value) (below : List Frame) (meth : Method) (c : Code) (D : va_G) (ad : Nat → Nat) (ty : Nat → ClassId) (nL cells slots : Nat) (Q : State → Prop) (σ : Dz) (pc : Nat) (lv : List (Nat × Value)) (rest : List Value) (E : String) : Prop :=
  ∀ (H : Heap) (locs : List Loc) (ls : Array Slot) (q : Addr) (ce : Cell), va_P D zCl (wz ad ty σ) H → va_S (Az ad s.heap.size) s.heap H locs → lv_has ls nL lv → H[q]? = some ce → ce.vm = .none → s.vm.findClass E = some ce.cls → vx_W p l e R s m args below meth c H locs cells slots Q (F0 m pc ls rest) q
variable {p : Program} {l : Launch} {e : Env} {R : Room} {s : State} {m : MethodId} {args : Array Value} {below : List Frame} {meth : Method} {c : Code} {D : va_G} {ad : Nat → Nat} {ty : Nat → ClassId} {cc : ByteArray} {nL cells slots : Nat} {own : String} {Q : State → Prop} {σ : Dz} {pc : Nat} {lv : List (Nat × Value)} {st : List Value}
theorem cz_catch (K : Kz p l s m args meth c D ad ty cc nL own) {rest : List Value} {E : String} (pre : List ExceptionTableEntry) (x : ExceptionTableEntry) (suf : List ExceptionTableEntry) (hsplit : c.exceptionTable.toList = pre ++ x :: suf)
    (hpass : ∀ z ∈ pre, z.catchType ≠ 0 ∧ ∃ nm : String, Cond.classLink own z.catchType nm ∈ zW ∧ (E, nm) ∈ zNc) (hx : covers x pc = true) (h0 : x.catchType ≠ 0) (hlink : Cond.classLink own x.catchType E ∈ zW) (hcs : (E, E) ∈ zCs)
    (kk : ∀ q : Addr, Gz p l e R s m args below meth c D ad ty nL cells slots Q σ x.handlerPc lv [.ref q]) : Cz p l e R s m args below meth c D ad ty nL cells slots Q σ pc lv rest E := fun H locs ls q ce hP hS hl hcell hv hcl =>
  vx_catch K.1.2.2.2.1 pre x suf hsplit (fun z hz => Or.inr ⟨(hpass z hz).1, (hpass z hz).2.elim (fun nm h => ⟨nm, K.1.2.2.2.2 _ h.1, K.2.2.2.2.1.2.2.2.1 _ h.2⟩)⟩) hx h0 (K.1.2.2.2.2 _ hlink) (va_Nw.use rfl (K.2.2.2.2.1.2.2.2.2.2 _ hcs)) hcell hv hcl (kk q H locs ls hP hS hl)
theorem gz_backC {H : Heap} {locs : List Loc} {ls : Array Slot} {rm : Room} {rest st0 : List Value} {a : Array Value} {ρ1 : Type} {enc1 : ρ1 → Option Value} {post1 : ρ1 → Dz → Prop} {px1 : String → Dz → Prop}
    (hr : vx_Run p l e R s m args below meth c H locs cells slots rm.cells rm.slots (F0 m pc ls st0) rest (Qz D ad ty H.size enc1 post1 a) (Xz D ad ty H.size px1) (Az ad H.size)) (hS : va_S (Az ad s.heap.size) s.heap H locs) (hl : lv_has ls nL lv)
    (kx : ∀ E σ', px1 E σ' → Cz p l e R s m args below meth c D ad ty nL (cells + rm.cells) (slots + rm.slots) Q σ' pc lv rest E) (kk : ∀ r σ', post1 r σ' → Gz p l e R s m args below meth c D ad ty nL (cells + rm.cells) (slots + rm.slots) Q σ' (pc + 3) lv ((enc1 r).toList ++ rest)) :
    W p l e R s m args below meth c H locs cells slots Q (F0 m pc ls st0) := by
  intro T hT X
  have hA : ∀ q, Az ad H.size q → Az ad s.heap.size q := Az_le hS.1
  rcases hr T hT X with ⟨v, st₀, t, T', L, h0, X', hL, e1, e2, ⟨⟨r, u, hv, hp, hb⟩, hF⟩, st⟩ | ⟨q, st₀, t, T', L, E, ce, h0, X', hL, e1, e2, ⟨⟨u, hp, hb⟩, hF⟩, hce, hcv, hcl, st⟩
  · cases hv
    obtain ⟨k1, k2, k3⟩ := vx_keep h0 e1 hS (fun q _ h => hA q h) hA hL hF
    obtain ⟨t2, a1, b1⟩ := kk r u hp T'.heap (locs ++ L) ls (by rw [e1]; exact hb) k3 hl T' rfl X'
    exact ⟨t2, st t2 a1, b1⟩
  · obtain ⟨k1, k2, k3⟩ := vx_keep h0 e1 hS (fun q _ h => hA q h) hA hL hF
    obtain ⟨t2, a1, b1⟩ := kx E u hp T'.heap (locs ++ L) ls q ce (by rw [e1]; exact hb) k3 hl (by rw [e1]; exact hce) hcv hcl T' rfl X'
    exact ⟨t2, st.trans a1, b1⟩
theorem gz_callVc (K : Kz p l s m args meth c D ad ty cc nL own) {y : MethodName} {bytes : ByteArray} {maxL n idx k ci N : Nat} {ret : Option FieldType} {Cn : String} {T : u_T} {fs : List Value} {rm : Room} {ρ1 : Type} {enc1 : ρ1 → Option Value} {As rest : List Value} {post1 : ρ1 → Dz → Prop} {px1 : String → Dz → Prop}
    (hM : Mz l D ad ty y bytes maxL ret rm enc1 σ (.ref (ad k) :: As) post1 px1) (hcf : CfV y bytes maxL ret Cn n) (hlink : Cond.methodLink own idx y ∈ zW) (hk : k < 68) (he : ez ad ty σ k = .inr (ci, fs)) (hci : zCl[ci]? = some (Cn, T, N)) (hdg : decode cc pc = .ok (.invokevirtual idx, 3)) (hn : As.length = n) (hst : st = As.reverse ++ .ref (ad k) :: rest) (hW : (rest.map fun v => v.category).sum ≤ 8)
    (hR : rm.frames + 1 ≤ R.frames ∧ 8 + (maxL + 11) + rm.locals ≤ R.locals) (hf : cells + rm.cells ≤ R.cells ∧ slots + rm.slots ≤ R.slots)
    (kx : ∀ E σ', px1 E σ' → Cz p l e R s m args below meth c D ad ty nL (cells + rm.cells) (slots + rm.slots) Q σ' pc lv rest E) (kk : ∀ r σ', post1 r σ' → Gz p l e R s m args below meth c D ad ty nL (cells + rm.cells) (slots + rm.slots) Q σ' (pc + 3) lv ((enc1 r).toList ++ rest)) :
    Gz p l e R s m args below meth c D ad ty nL cells slots Q σ pc lv st := fun H locs ls hP hS hl => by
  subst hst
  exact gz_backC (vx_runV (As := As) (rest := rest) K.1 (hM H.size) (cwV n K.1.2.2.2.2 (zg_V hcf hlink) rfl rfl rfl hcf.2.2.2.2 hR) ⟨Pz_blind, va_recv K.2.1 hP hci ((wz_get hk).trans (congrArg (fun z => some (ad k, z)) he)), Pz_at K hP hS _⟩ rfl hn hl.1 rfl (lv_room hW) hdg hf) hS hl kx kk
def CfW (y : MethodName) (bytes : ByteArray) (maxL : Nat) (ret : Option FieldType) (hh : List (Nat × Nat × Nat × Nat)) (n : Nat) : Prop := Cond.static y ∈ zW ∧ Cond.initialized y.cls ∈ zW ∧ Cond.codeWith y bytes maxL ret hh ∈ zW ∧ (y.cls ≠ "java/lang/invoke/MethodHandle" ∧ y.cls ≠ "java/lang/invoke/VarHandle" ∧ (parseMethodDescriptor y.desc).map (fun d => d.parameters.length) = some n)
theorem zg_W {own : String} {idx n maxL : Nat} {y : MethodName} {bytes : ByteArray} {ret : Option FieldType} {hh : List (Nat × Nat × Nat × Nat)} (h : CfW y bytes maxL ret hh n) (h1 : Cond.methodLink own idx y ∈ zW) : GoodIn zW (va_wsS own idx y (Cond.codeWith y bytes maxL ret hh :: zW)) := by
  intro w hw
  rcases List.mem_append.mp hw with z | z
  · rcases List.mem_cons.mp z with rfl | z
    · exact ⟨h1, zW_good h1⟩
    rcases List.mem_cons.mp z with rfl | z
    · exact ⟨h.1, zW_good h.1⟩
    rcases List.mem_cons.mp z with rfl | z
    · exact ⟨h.2.1, zW_good h.2.1⟩
    · cases z
  · exact zg_cons h.2.2.1 w z
/-- a static method that catches, called where nothing is thrown out of it -/
theorem gz_callWq (K : Kz p l s m args meth c D ad ty cc nL own) {y : MethodName} {bytes : ByteArray} {maxL n idx : Nat} {ret : Option FieldType} {hh : List (Nat × Nat × Nat × Nat)} {rm : Room} {ρ1 : Type} {enc1 : ρ1 → Option Value} {As rest : List Value} {post1 : ρ1 → Dz → Prop}
    (hM : MzW l D ad ty y bytes maxL ret hh rm enc1 σ As post1 (fun _ _ => False)) (hcf : CfW y bytes maxL ret hh n) (hlink : Cond.methodLink own idx y ∈ zW) (hdg : decode cc pc = .ok (.invokestatic idx, 3)) (hn : As.length = n) (hst : st = As.reverse ++ rest) (hW : (rest.map fun v => v.category).sum ≤ 8)
    (hR : rm.frames + 1 ≤ R.frames ∧ 8 + (maxL + 11) + rm.locals ≤ R.locals) (hf : cells + rm.cells ≤ R.cells ∧ slots + rm.slots ≤ R.slots)
    (kk : ∀ r σ', post1 r σ' → Gz p l e R s m args below meth c D ad ty nL (cells + rm.cells) (slots + rm.slots) Q σ' (pc + 3) lv ((enc1 r).toList ++ rest)) :
    Gz p l e R s m args below meth c D ad ty nL cells slots Q σ pc lv st := fun H locs ls hP hS hl => by
  subst hst
  exact gz_backC (vx_runSX (As := As) (rest := rest) K.1 (hM H.size) (vx_cwSW n K.1.2.2.2.2 (zg_W hcf hlink) rfl rfl rfl hcf.2.2.2 hR) ⟨Pz_blind, Pz_at K hP hS _⟩ rfl hn hl.1 rfl (lv_room hW) hdg hf) hS hl (fun _ _ h => h.elim) kk
theorem gz_callSq (K : Kz p l s m args meth c D ad ty cc nL own) {y : MethodName} {bytes : ByteArray} {maxL n idx : Nat} {ret : Option FieldType} {rm : Room} {ρ1 : Type} {enc1 : ρ1 → Option Value} {As rest : List Value} {post1 : ρ1 → Dz → Prop}
    (hM : Mz l D ad ty y bytes maxL ret rm enc1 σ As post1 (fun _ _ => False)) (hcf : CfS y bytes maxL ret n) (hlink : Cond.methodLink own idx y ∈ zW) (hdg : decode cc pc = .ok (.invokestatic idx, 3)) (hn : As.length = n) (hst : st = As.reverse ++ rest) (hW : (rest.map fun v => v.category).sum ≤ 8)
    (hR : rm.frames + 1 ≤ R.frames ∧ 8 + (maxL + 11) + rm.locals ≤ R.locals) (hf : cells + rm.cells ≤ R.cells ∧ slots + rm.slots ≤ R.slots)
    (kk : ∀ r σ', post1 r σ' → Gz p l e R s m args below meth c D ad ty nL (cells + rm.cells) (slots + rm.slots) Q σ' (pc + 3) lv ((enc1 r).toList ++ rest)) :
    Gz p l e R s m args below meth c D ad ty nL cells slots Q σ pc lv st := fun H locs ls hP hS hl => by
  subst hst
  exact gz_backC (vx_runS (As := As) (rest := rest) K.1 (hM H.size) (va_cwS n K.1.2.2.2.2 (zg_S hcf hlink) rfl rfl rfl hcf.2.2.2 hR) ⟨Pz_blind, Pz_at K hP hS _⟩ rfl hn hl.1 rfl (lv_room hW) hdg hf) hS hl (fun _ _ h => h.elim) kk
end ZCatch
