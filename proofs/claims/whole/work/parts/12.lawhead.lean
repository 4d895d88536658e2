/-! THE CLAIM OUT OF ONE WALK OF THE LAW'S BODY. Your part is whole_start (and what it stands on); all else here is the same for every law, but numbers. -/
def R_law : String := "PermutationPuzzleLaw"
def lw_P (b : Addr) (xs : List Int32) (args : Array Value) (s : State) : Prop := args = #[.ref b] ∧ s.IntsAt b xs ∧ xs.length ≤ 2048 ∧ (Jvm.Cond.and given_1 narrow_1).before args s = true
/-- what a walk over the start with the record d0 says of its end, said of the start itself -/
theorem lw_closed {s t : State} {o : Outcome} {d0 : Drawn} {L : List Loc} {k n : Nat} (hd0 : s.drawn.sameBut d0 lw_cs) (hv : ∃ v, o = .returned v) (hW : (s.setDrawn d0).WarmedH t.vm) (hs : (s.setDrawn d0).sameButNew ({ t with vm := s.vm } : State) L k n) : State.butDraws s t lw_cs (fun t1 => Framed s o t1 L k n) := by
  have h2 : t.drawn = d0 := congrArg State.drawn hs.1
  refine ⟨⟨hv, hW, State.sameButNew.setDrawn hs s.drawn⟩, ?_, by decide⟩
  rw [h2]
  exact hd0
def lw_Q (_ : Array Value) (s : State) (o : Outcome) (t : State) : Prop := o = .returned (some (.int 1)) ∧ State.butDraws s t lw_cs (fun t1 => Framed s o t1 [] 603072 7149674)
def lw_Z (below : List Frame) (a : Array Value) (s : State) : State → Prop := fun t => ∃ o, t.status = .running ∧ Ended t below o ∧ lw_Q a s o t
/-- the law's own end, with 1 on the stack, nothing written that was there before, its room as the claim has it; d0: the record of draws at this point (at the entry s.drawn: begin with 'refine W.base ?_' and 'have hd0 := Drawn.sameBut.refl s.drawn lw_cs') -/
theorem lw_ret {p : Program} {l : Launch} {e : Env} {s : State} {m : MethodId} {below : List Frame} {meth : Method} {c : Code} {b : Nat} {d0 : Drawn} (hd0 : s.drawn.sameBut d0 lw_cs) (hx : p.tables.exec = Jvm.exec) (hb : c.code = code) (hr : meth.sig.returnType = ret) (hlocks : meth.locks = false) {pc : Nat} {H : Heap} {ls : Array Slot} (hdg : decode code pc = .ok (.ireturn, 1)) : W p l e room_1 (s.setDrawn d0) m #[Value.ref b] below meth c H [] 603072 7149674 (lw_Z below #[Value.ref b] s) (F0 m pc ls [.int 1]) := by
  intro T hT X
  obtain ⟨fs, hret, hrun, hended, hW, hframe⟩ := X.leave (v := some (.int 1)) (hlocks := hlocks) (fun h => by rw [hr] at h; cases h)
  have hmeth' : T.vm.method? m = some meth := X.method'
  refine ⟨T.setFrames fs, ?_, .returned (some (.int 1)), hrun, hended, rfl, lw_closed hd0 ⟨_, rfl⟩ hW hframe⟩
  jvm_step X.here [X.here.top, hx, hb, hdg, hmeth', hr, ret, narrow_b1]
  (try refine ⟨rfl, ?_⟩); (try refine ⟨rfl, ?_⟩)
  first | (intro acts; rw [hret _ acts rfl rfl rfl]) | rw [hret _ _ rfl rfl rfl]
  exact Steps.refl _
/-- what holds at the law's entry: the machine, the code, the tables' words (any of lw_tbl by 'hts w (by decide +kernel)'), the script of L ints xs at the cell b, what the Statement gives of the start (any of its parts by flat_of_before) -/
def lw_At (p : Program) (s : State) (m : MethodId) (meth : Method) (c : Code) (b L : Nat) (xs : Nat → Int32) : Prop :=
  p.tables.exec = Jvm.exec ∧ c.code = code ∧ meth.sig.returnType = ret ∧ c.maxLocals = 10 ∧ s.vm.findClass R_law = some m.cls ∧ (∀ w ∈ lw_tbl, w.before #[Value.ref b] s = true) ∧ va_X b L xs s s.heap ∧ b < s.heap.size ∧ meth.locks = false ∧ (Jvm.Cond.and given_1 narrow_1).before #[Value.ref b] s = true
/-! rows of the law's own frame -/
section ZLaw
variable {p : Program} {l : Launch} {e : Env} {s : State} {m : MethodId} {below : List Frame} {meth : Method} {c : Code} {D : va_G} {ad : Nat → Nat} {ty : Nat → ClassId} {b L : Nat} {xs : Nat → Int32} {args : Array Value} {R : Room} {cc : ByteArray} {nL cells slots : Nat} {own : String} {Q : State → Prop} {σ : Dz} {pc : Nat} {lv : List (Nat × Value)} {st : List Value}
theorem gz_sld (K : Kz p l s m args meth c D ad ty cc nL own) (hX : va_X b L xs s s.heap) (hbl : b < s.heap.size) (hbA : ¬ Az ad s.heap.size b) {i : Int32} (hin : vp_in i L) (hdg : decode cc pc = .ok (.iaload, 1)) (kk : Gz p l e R s m args below meth c D ad ty nL cells slots Q σ (pc + 1) lv (.int (xs i.toNatClampNeg) :: st)) : Gz p l e R s m args below meth c D ad ty nL cells slots Q σ pc lv (.int i :: .ref b :: st) := fun H locs ls hP hS hl => va_sld K.1.1 K.1.2.1 hX hbl hbA hS hin hdg (kk H locs ls hP hS hl)
theorem gz_slen (K : Kz p l s m args meth c D ad ty cc nL own) (hX : va_X b L xs s s.heap) (hbl : b < s.heap.size) (hbA : ¬ Az ad s.heap.size b) (hdg : decode cc pc = .ok (.arraylength, 1)) (kk : Gz p l e R s m args below meth c D ad ty nL cells slots Q σ (pc + 1) lv (.int (Int32.ofNat L) :: st)) : Gz p l e R s m args below meth c D ad ty nL cells slots Q σ pc lv (.ref b :: st) := fun H locs ls hP hS hl => va_slen K.1.1 K.1.2.1 hX hbl hbA hS hdg (kk H locs ls hP hS hl)
theorem gz_tsw (K : Kz p l s m args meth c D ad ty cc nL own) {dflt off : Int} {offs : Array Int} {len j tgt : Nat} {v : Int32} (hj : j < 32) (hv : v = nI j) (hdg : decode cc pc = .ok (.tableswitch dflt 0 31 offs, len)) (ho : offs[j]? = some off) (ht : (pc : Int) + off = (tgt : Int)) (kk : Gz p l e R s m args below meth c D ad ty nL cells slots Q σ tgt lv st) : Gz p l e R s m args below meth c D ad ty nL cells slots Q σ pc lv (.int v :: st) := fun H locs ls hP hS hl => by
  have hi : v.toInt = (j : Int) := by rw [hv]; exact nI_toInt (by omega)
  exact lv_tableIn K.1.1 K.1.2.1 hdg (by rw [hi]; omega) (by rw [hi]; omega) (by rw [hi]; simpa using ho) ht (kk H locs ls hP hS hl)
theorem gz_lawret (K : Kz p l s m #[.ref b] meth c D ad ty code 10 RL) (hr : meth.sig.returnType = ret) (had : ∀ k, k < 68 → s.heap.size ≤ ad k) (h1 : cells ≤ 603072) (h2 : slots ≤ 7149674) (hdg : decode code pc = .ok (.ireturn, 1)) : Gz p l e room_1 s m #[.ref b] below meth c D ad ty 10 cells slots (lw_Z below #[.ref b] s) σ pc lv [.int 1] := fun H locs ls hP hS hl => by
  refine va_forget (fun q hq => ?_) ?_
  · rcases hS.2.2 q hq with ⟨k, hk, e⟩ | h
    · rw [e]; exact had k hk
    · exact h
  · exact W.widen h1 h2 (lw_ret (s := s) (d0 := s.drawn) (Drawn.sameBut.refl s.drawn lw_cs) K.1.1 K.1.2.1 hr K.2.2.2.1 hdg)
end ZLaw
