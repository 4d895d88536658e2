/-! more rows. Written by wip/whole/genall.py -/
section ZMore
theorem nB {v : Int32} (h : v = 0 ∨ v = 1) : narrow .boolean (.int v) = .int v := by rcases h with rfl | rfl <;> rfl
theorem fB {v : Int32} (h : v = 0 ∨ v = 1) : fits .boolean (.int v) = true := by rcases h with rfl | rfl <;> rfl
theorem vp_lt {i : Int32} {n : Nat} (h : vp_in i n) : i.toNatClampNeg < n := Nat.not_le.mp fun q => h (Or.inr q)
theorem vp_nB {v : Int32} (h : v = 0 ∨ v = 1) : vp_nar .boolean v = v := by rcases h with rfl | rfl <;> rfl
theorem vp_nC {v : Int32} (h : narrow .char (.int v) = .int v) : vp_nar .char v = v := by unfold vp_nar; rw [h]
variable {p : Program} {l : Launch} {e : Env} {R : Room} {s : State} {m : MethodId} {args : Array Value} {below : List Frame} {meth : Method} {c : Code} {D : va_G} {ad : Nat → Nat} {ty : Nat → ClassId} {cc : ByteArray} {nL cells slots : Nat} {own : String} {Q : State → Prop} {σ : Dz} {pc : Nat} {lv : List (Nat × Value)} {st : List Value}
theorem gz_norm {st' : List Value} {cells' slots' : Nat} (h1 : st = st') (h2 : cells = cells') (h3 : slots = slots') (kk : Gz p l e R s m args below meth c D ad ty nL cells' slots' Q σ pc lv st') : Gz p l e R s m args below meth c D ad ty nL cells slots Q σ pc lv st := by
  subst h1; subst h2; subst h3; exact kk
theorem gz_zastB (K : Kz p l s m args meth c D ad ty cc nL own) {k n : Nat} {i : Int32} {x : Int32} (hk : k < 68) (he : ∀ f g h q, cz ad ty f g h q k = .inl (ty 4, n, .inl f)) (hin : vp_in i n) (hB : x = 0 ∨ x = 1) (hdg : decode cc pc = .ok (.bastore, 1)) (kk : Gz p l e R s m args below meth c D ad ty nL cells slots Q (sz_i σ k i.toNatClampNeg x) (pc + 1) lv st) : Gz p l e R s m args below meth c D ad ty nL cells slots Q σ pc lv (.int x :: .int i :: .ref (ad k) :: st) :=
  gz_zast K hk he hin hdg (by rw [vp_nB hB]; exact kk)
theorem gz_castC (K : Kz p l s m args meth c D ad ty cc nL own) {k n : Nat} {i : Int32} {x : Int32} (hk : k < 68) (he : ∀ f g h q, cz ad ty f g h q k = .inl (ty 0, n, .inl f)) (hin : vp_in i n) (hC : narrow .char (.int x) = .int x) (hdg : decode cc pc = .ok (.castore, 1)) (kk : Gz p l e R s m args below meth c D ad ty nL cells slots Q (sz_i σ k i.toNatClampNeg x) (pc + 1) lv st) : Gz p l e R s m args below meth c D ad ty nL cells slots Q σ pc lv (.int x :: .int i :: .ref (ad k) :: st) :=
  gz_cast K hk he hin hdg (by rw [vp_nC hC]; exact kk)
end ZMore
