/-! the start: what the law begins with, and the world when all is made. Written by wip/whole/genstart.py -/
section ZStart
abbrev zF : List Cond := flatC (Jvm.Cond.and given_1 narrow_1)
theorem zl1 {w : Cond} (i : Nat) (h : tables_1_1[i]? = some w) : w ∈ lw_tbl := List.mem_append_right _ (List.mem_append_left _ (List.mem_of_getElem? h))
theorem zl2 {w : Cond} (i : Nat) (h : tables_1_2[i]? = some w) : w ∈ lw_tbl := List.mem_append_right _ (List.mem_append_right _ (List.mem_append_left _ (List.mem_of_getElem? h)))
theorem zl3 {w : Cond} (i : Nat) (h : tables_1_3[i]? = some w) : w ∈ lw_tbl := List.mem_append_right _ (List.mem_append_right _ (List.mem_append_right _ (List.mem_append_left _ (List.mem_of_getElem? h))))
theorem zl4 {w : Cond} (i : Nat) (h : tables_1_4[i]? = some w) : w ∈ lw_tbl := List.mem_append_right _ (List.mem_append_right _ (List.mem_append_right _ (List.mem_append_right _ (List.mem_append_left _ (List.mem_of_getElem? h)))))
theorem zl5 {w : Cond} (i : Nat) (h : tables_1_5[i]? = some w) : w ∈ lw_tbl := List.mem_append_right _ (List.mem_append_right _ (List.mem_append_right _ (List.mem_append_right _ (List.mem_append_right _ (List.mem_append_left _ (List.mem_of_getElem? h))))))
theorem zl6 {w : Cond} (i : Nat) (h : tables_1_6[i]? = some w) : w ∈ lw_tbl := List.mem_append_right _ (List.mem_append_right _ (List.mem_append_right _ (List.mem_append_right _ (List.mem_append_right _ (List.mem_append_right _ ((List.mem_of_getElem? h)))))))
set_option maxRecDepth 100000 in
theorem zf_U : Cond.isRef (.static Bundle.tN "UNASSIGNED_STACK" Bundle.steD) ∈ zF := List.mem_of_getElem? (i := 4) (by decide +kernel)
set_option maxRecDepth 100000 in
theorem zf_N : Cond.isRef (.static Bundle.tN "SUPPRESSED_SENTINEL" Bundle.listD) ∈ zF := List.mem_of_getElem? (i := 5) (by decide +kernel)
set_option maxRecDepth 100000 in
theorem zf_s0 : Cond.exactly (.string "PermutationPuzzle" 92) "java/lang/String" ∈ zF := List.mem_of_getElem? (i := 80) (by decide +kernel)
theorem zt_s0 : Cond.stringRef "PermutationPuzzle" 92 "a puzzle has 2 to 7 positions" ∈ lw_tbl := zl2 175 rfl
set_option maxRecDepth 100000 in
theorem zf_s1 : Cond.exactly (.string "PermutationPuzzle" 100) "java/lang/String" ∈ zF := List.mem_of_getElem? (i := 113) (by decide +kernel)
theorem zt_s1 : Cond.stringRef "PermutationPuzzle" 100 "the code is not from 32 to 126" ∈ lw_tbl := zl2 211 rfl
set_option maxRecDepth 100000 in
theorem zf_s2 : Cond.exactly (.string "PermutationPuzzle" 108) "java/lang/String" ∈ zF := List.mem_of_getElem? (i := 148) (by decide +kernel)
theorem zt_s2 : Cond.stringRef "PermutationPuzzle" 108 "the buffer is full" ∈ lw_tbl := zl2 225 rfl
set_option maxRecDepth 100000 in
theorem zf_s3 : Cond.exactly (.string "PermutationPuzzle" 312) "java/lang/String" ∈ zF := List.mem_of_getElem? (i := 172) (by decide +kernel)
theorem zt_s3 : Cond.stringRef "PermutationPuzzle" 312 "no such move" ∈ lw_tbl := zl3 39 rfl
set_option maxRecDepth 100000 in
theorem zf_s4 : Cond.exactly (.string "PermutationPuzzle" 124) "java/lang/String" ∈ zF := List.mem_of_getElem? (i := 191) (by decide +kernel)
theorem zt_s4 : Cond.stringRef "PermutationPuzzle" 124 "the cycles are malformed" ∈ lw_tbl := zl3 67 rfl
set_option maxRecDepth 100000 in
theorem zf_s5 : Cond.exactly (.string "PermutationPuzzle" 314) "java/lang/String" ∈ zF := List.mem_of_getElem? (i := 223) (by decide +kernel)
theorem zt_s5 : Cond.stringRef "PermutationPuzzle" 314 "no such slot" ∈ lw_tbl := zl3 107 rfl
set_option maxRecDepth 100000 in
theorem zf_s6 : Cond.exactly (.string "PermutationPuzzle" 154) "java/lang/String" ∈ zF := List.mem_of_getElem? (i := 244) (by decide +kernel)
theorem zt_s6 : Cond.stringRef "PermutationPuzzle" 154 "the word is malformed" ∈ lw_tbl := zl3 182 rfl
set_option maxRecDepth 100000 in
theorem zf_s7 : Cond.exactly (.string "PermutationPuzzle" 156) "java/lang/String" ∈ zF := List.mem_of_getElem? (i := 275) (by decide +kernel)
theorem zt_s7 : Cond.stringRef "PermutationPuzzle" 156 "a name is that of an undefined move" ∈ lw_tbl := zl3 183 rfl
set_option maxRecDepth 100000 in
theorem zf_s8 : Cond.exactly (.string "PermutationPuzzle" 160) "java/lang/String" ∈ zF := List.mem_of_getElem? (i := 321) (by decide +kernel)
theorem zt_s8 : Cond.stringRef "PermutationPuzzle" 160 "the word has more than 200 letters" ∈ lw_tbl := zl3 185 rfl
set_option maxRecDepth 100000 in
theorem zf_s9 : Cond.exactly (.string "PermutationPuzzle" 169) "java/lang/String" ∈ zF := List.mem_of_getElem? (i := 367) (by decide +kernel)
theorem zt_s9 : Cond.stringRef "PermutationPuzzle" 169 "no text was malformed" ∈ lw_tbl := zl3 214 rfl
set_option maxRecDepth 100000 in
theorem zf_s10 : Cond.exactly (.string "PermutationPuzzle" 316) "java/lang/String" ∈ zF := List.mem_of_getElem? (i := 401) (by decide +kernel)
theorem zt_s10 : Cond.stringRef "PermutationPuzzle" 316 "no such position" ∈ lw_tbl := zl3 232 rfl
set_option maxRecDepth 100000 in
theorem zf_s11 : Cond.exactly (.string "PermutationPuzzle" 179) "java/lang/String" ∈ zF := List.mem_of_getElem? (i := 431) (by decide +kernel)
theorem zt_s11 : Cond.stringRef "PermutationPuzzle" 179 "the move is undefined" ∈ lw_tbl := zl3 234 rfl
set_option maxRecDepth 100000 in
theorem zf_s12 : Cond.exactly (.string "PermutationPuzzle" 194) "java/lang/String" ∈ zF := List.mem_of_getElem? (i := 467) (by decide +kernel)
theorem zt_s12 : Cond.stringRef "PermutationPuzzle" 194 "no such letter" ∈ lw_tbl := zl4 11 rfl
set_option maxRecDepth 100000 in
theorem zf_s13 : Cond.exactly (.string "PermutationPuzzle" 208) "java/lang/String" ∈ zF := List.mem_of_getElem? (i := 497) (by decide +kernel)
theorem zt_s13 : Cond.stringRef "PermutationPuzzle" 208 "the conjugate has more than 200 letters" ∈ lw_tbl := zl4 33 rfl
set_option maxRecDepth 100000 in
theorem zf_s14 : Cond.exactly (.string "PermutationPuzzle" 210) "java/lang/String" ∈ zF := List.mem_of_getElem? (i := 553) (by decide +kernel)
theorem zt_s14 : Cond.stringRef "PermutationPuzzle" 210 "the commutator has more than 200 letters" ∈ lw_tbl := zl4 41 rfl
set_option maxRecDepth 100000 in
theorem zf_s15 : Cond.exactly (.string "PermutationPuzzle" 224) "java/lang/String" ∈ zF := List.mem_of_getElem? (i := 611) (by decide +kernel)
theorem zt_s15 : Cond.stringRef "PermutationPuzzle" 224 "times is not from -100 to 100" ∈ lw_tbl := zl4 97 rfl
set_option maxRecDepth 100000 in
theorem zf_s16 : Cond.exactly (.string "PermutationPuzzle" 332) "java/lang/String" ∈ zF := List.mem_of_getElem? (i := 659) (by decide +kernel)
theorem zt_s16 : Cond.stringRef "PermutationPuzzle" 332 "the arrangement is not reachable" ∈ lw_tbl := zl4 145 rfl
set_option maxRecDepth 100000 in
theorem zf_s17 : Cond.exactly (.string "PermutationPuzzle" 281) "java/lang/String" ∈ zF := List.mem_of_getElem? (i := 711) (by decide +kernel)
theorem zt_s17 : Cond.stringRef "PermutationPuzzle" 281 "no such commutator" ∈ lw_tbl := zl4 208 rfl
set_option maxRecDepth 100000 in
theorem zf_s18 : Cond.exactly (.string "PermutationPuzzle" 318) "java/lang/String" ∈ zF := List.mem_of_getElem? (i := 750) (by decide +kernel)
theorem zt_s18 : Cond.stringRef "PermutationPuzzle" 318 "no such row" ∈ lw_tbl := zl4 219 rfl
set_option maxRecDepth 100000 in
theorem zf_s19 : Cond.exactly (.string "PermutationPuzzle" 320) "java/lang/String" ∈ zF := List.mem_of_getElem? (i := 783) (by decide +kernel)
theorem zt_s19 : Cond.stringRef "PermutationPuzzle" 320 "no such element" ∈ lw_tbl := zl4 233 rfl
set_option maxRecDepth 100000 in
theorem zf_s20 : Cond.exactly (.string "PermutationPuzzle" 292) "java/lang/String" ∈ zF := List.mem_of_getElem? (i := 821) (by decide +kernel)
theorem zt_s20 : Cond.stringRef "PermutationPuzzle" 292 "the factor is not from -1000 to 1000" ∈ lw_tbl := zl4 234 rfl
set_option maxRecDepth 100000 in
theorem zf_s21 : Cond.exactly (.string "PermutationPuzzle" 335) "java/lang/String" ∈ zF := List.mem_of_getElem? (i := 881) (by decide +kernel)
theorem zt_s21 : Cond.stringRef "PermutationPuzzle" 335 "the product is too great" ∈ lw_tbl := zl5 0 rfl
set_option maxRecDepth 100000 in
theorem zf_s22 : Cond.exactly (.string "PermutationPuzzle" 300) "java/lang/String" ∈ zF := List.mem_of_getElem? (i := 930) (by decide +kernel)
theorem zt_s22 : Cond.stringRef "PermutationPuzzle" 300 "the divisor is 0" ∈ lw_tbl := zl5 13 rfl
set_option maxRecDepth 100000 in
theorem zf_s23 : Cond.exactly (.string "PermutationPuzzle" 310) "java/lang/String" ∈ zF := List.mem_of_getElem? (i := 972) (by decide +kernel)
theorem zt_s23 : Cond.stringRef "PermutationPuzzle" 310 "there is no snapshot" ∈ lw_tbl := zl5 24 rfl
set_option maxRecDepth 100000 in
theorem zf_n0 : Cond.not (.castable "java/lang/IllegalStateException" "java/lang/IllegalArgumentException") ∈ zF := List.mem_of_getElem? (i := 16) (by decide +kernel)
set_option maxRecDepth 100000 in
theorem zf_n1 : Cond.not (.castable "java/lang/IndexOutOfBoundsException" "java/lang/IllegalArgumentException") ∈ zF := List.mem_of_getElem? (i := 18) (by decide +kernel)
set_option maxRecDepth 100000 in
theorem zf_n2 : Cond.not (.castable "java/lang/ArithmeticException" "java/lang/IllegalArgumentException") ∈ zF := List.mem_of_getElem? (i := 19) (by decide +kernel)
set_option maxRecDepth 100000 in
theorem zf_n3 : Cond.not (.castable "java/util/NoSuchElementException" "java/lang/IllegalArgumentException") ∈ zF := List.mem_of_getElem? (i := 20) (by decide +kernel)
set_option maxRecDepth 100000 in
theorem zf_n4 : Cond.not (.castable "java/lang/IllegalArgumentException" "java/lang/IllegalStateException") ∈ zF := List.mem_of_getElem? (i := 31) (by decide +kernel)
set_option maxRecDepth 100000 in
theorem zf_n5 : Cond.not (.castable "java/lang/IndexOutOfBoundsException" "java/lang/IllegalStateException") ∈ zF := List.mem_of_getElem? (i := 33) (by decide +kernel)
set_option maxRecDepth 100000 in
theorem zf_n6 : Cond.not (.castable "java/lang/ArithmeticException" "java/lang/IllegalStateException") ∈ zF := List.mem_of_getElem? (i := 34) (by decide +kernel)
set_option maxRecDepth 100000 in
theorem zf_n7 : Cond.not (.castable "java/util/NoSuchElementException" "java/lang/IllegalStateException") ∈ zF := List.mem_of_getElem? (i := 35) (by decide +kernel)
set_option maxRecDepth 100000 in
theorem zf_n8 : Cond.not (.castable "java/lang/IllegalArgumentException" "java/lang/IndexOutOfBoundsException") ∈ zF := List.mem_of_getElem? (i := 46) (by decide +kernel)
set_option maxRecDepth 100000 in
theorem zf_n9 : Cond.not (.castable "java/lang/IllegalStateException" "java/lang/IndexOutOfBoundsException") ∈ zF := List.mem_of_getElem? (i := 47) (by decide +kernel)
set_option maxRecDepth 100000 in
theorem zf_n10 : Cond.not (.castable "java/lang/ArithmeticException" "java/lang/IndexOutOfBoundsException") ∈ zF := List.mem_of_getElem? (i := 48) (by decide +kernel)
set_option maxRecDepth 100000 in
theorem zf_n11 : Cond.not (.castable "java/util/NoSuchElementException" "java/lang/IndexOutOfBoundsException") ∈ zF := List.mem_of_getElem? (i := 49) (by decide +kernel)
set_option maxRecDepth 100000 in
theorem zf_n12 : Cond.not (.castable "java/lang/IllegalArgumentException" "java/lang/ArithmeticException") ∈ zF := List.mem_of_getElem? (i := 60) (by decide +kernel)
set_option maxRecDepth 100000 in
theorem zf_n13 : Cond.not (.castable "java/lang/IllegalStateException" "java/lang/ArithmeticException") ∈ zF := List.mem_of_getElem? (i := 61) (by decide +kernel)
set_option maxRecDepth 100000 in
theorem zf_n14 : Cond.not (.castable "java/lang/IndexOutOfBoundsException" "java/lang/ArithmeticException") ∈ zF := List.mem_of_getElem? (i := 63) (by decide +kernel)
set_option maxRecDepth 100000 in
theorem zf_n15 : Cond.not (.castable "java/util/NoSuchElementException" "java/lang/ArithmeticException") ∈ zF := List.mem_of_getElem? (i := 64) (by decide +kernel)
set_option maxRecDepth 100000 in
theorem zf_n16 : Cond.not (.castable "java/lang/IllegalArgumentException" "java/util/NoSuchElementException") ∈ zF := List.mem_of_getElem? (i := 75) (by decide +kernel)
set_option maxRecDepth 100000 in
theorem zf_n17 : Cond.not (.castable "java/lang/IllegalStateException" "java/util/NoSuchElementException") ∈ zF := List.mem_of_getElem? (i := 76) (by decide +kernel)
set_option maxRecDepth 100000 in
theorem zf_n18 : Cond.not (.castable "java/lang/IndexOutOfBoundsException" "java/util/NoSuchElementException") ∈ zF := List.mem_of_getElem? (i := 78) (by decide +kernel)
set_option maxRecDepth 100000 in
theorem zf_n19 : Cond.not (.castable "java/lang/ArithmeticException" "java/util/NoSuchElementException") ∈ zF := List.mem_of_getElem? (i := 79) (by decide +kernel)
theorem zs_Y {s : State} {args : Array Value} {ad : Nat → Nat} (hts : ∀ w ∈ lw_tbl, w.before args s = true) (hgv : (Jvm.Cond.and given_1 narrow_1).before args s = true) (had : ∀ k, k < 68 → s.heap.size ≤ ad k) : Yz ad s := by
  have hf := flat_of_before _ hgv
  have hA : ∀ a : Nat, a < s.heap.size → ¬ Az ad s.heap.size a := fun a h z => z.elim (fun ⟨k, hk, e⟩ => absurd (had k hk) (by omega)) (fun z => absurd z (by omega))
  have hstr : ∀ (own : String) (k : Nat) (tx : String), Cond.stringRef own k tx ∈ lw_tbl → Cond.exactly (.string own k) "java/lang/String" ∈ zF → ∃ sa, vk_R own k tx sa s := fun own k tx h1 h2 => by
    obtain ⟨a, c, cA, kA, q1, -⟩ := Cond.exactly_spec (args := args) (first := s) (o := none) (s := s) (idx := []) (hf _ h2)
    exact ⟨a, vk_R.of (hts _ h1) q1⟩
  refine ⟨vx_Zqof (hts _ (zl2 158 rfl)) (hts _ (zl1 11 rfl)) (hf _ zf_U) hA, vx_Zqof (hts _ (zl2 160 rfl)) (hts _ (zl1 11 rfl)) (hf _ zf_N) hA, ?_, ?_, ?_, ?_⟩
  · exact List.forall_mem_cons.mpr ⟨hstr _ _ _ zt_s0 zf_s0, List.forall_mem_cons.mpr ⟨hstr _ _ _ zt_s1 zf_s1, List.forall_mem_cons.mpr ⟨hstr _ _ _ zt_s2 zf_s2, List.forall_mem_cons.mpr ⟨hstr _ _ _ zt_s3 zf_s3, List.forall_mem_cons.mpr ⟨hstr _ _ _ zt_s4 zf_s4, List.forall_mem_cons.mpr ⟨hstr _ _ _ zt_s5 zf_s5, List.forall_mem_cons.mpr ⟨hstr _ _ _ zt_s6 zf_s6, List.forall_mem_cons.mpr ⟨hstr _ _ _ zt_s7 zf_s7, List.forall_mem_cons.mpr ⟨hstr _ _ _ zt_s8 zf_s8, List.forall_mem_cons.mpr ⟨hstr _ _ _ zt_s9 zf_s9, List.forall_mem_cons.mpr ⟨hstr _ _ _ zt_s10 zf_s10, List.forall_mem_cons.mpr ⟨hstr _ _ _ zt_s11 zf_s11, List.forall_mem_cons.mpr ⟨hstr _ _ _ zt_s12 zf_s12, List.forall_mem_cons.mpr ⟨hstr _ _ _ zt_s13 zf_s13, List.forall_mem_cons.mpr ⟨hstr _ _ _ zt_s14 zf_s14, List.forall_mem_cons.mpr ⟨hstr _ _ _ zt_s15 zf_s15, List.forall_mem_cons.mpr ⟨hstr _ _ _ zt_s16 zf_s16, List.forall_mem_cons.mpr ⟨hstr _ _ _ zt_s17 zf_s17, List.forall_mem_cons.mpr ⟨hstr _ _ _ zt_s18 zf_s18, List.forall_mem_cons.mpr ⟨hstr _ _ _ zt_s19 zf_s19, List.forall_mem_cons.mpr ⟨hstr _ _ _ zt_s20 zf_s20, List.forall_mem_cons.mpr ⟨hstr _ _ _ zt_s21 zf_s21, List.forall_mem_cons.mpr ⟨hstr _ _ _ zt_s22 zf_s22, List.forall_mem_cons.mpr ⟨hstr _ _ _ zt_s23 zf_s23, fun _ h => absurd h List.not_mem_nil⟩⟩⟩⟩⟩⟩⟩⟩⟩⟩⟩⟩⟩⟩⟩⟩⟩⟩⟩⟩⟩⟩⟩⟩
  · exact List.forall_mem_cons.mpr ⟨va_Nc.of (hf _ zf_n0), List.forall_mem_cons.mpr ⟨va_Nc.of (hf _ zf_n1), List.forall_mem_cons.mpr ⟨va_Nc.of (hf _ zf_n2), List.forall_mem_cons.mpr ⟨va_Nc.of (hf _ zf_n3), List.forall_mem_cons.mpr ⟨va_Nc.of (hf _ zf_n4), List.forall_mem_cons.mpr ⟨va_Nc.of (hf _ zf_n5), List.forall_mem_cons.mpr ⟨va_Nc.of (hf _ zf_n6), List.forall_mem_cons.mpr ⟨va_Nc.of (hf _ zf_n7), List.forall_mem_cons.mpr ⟨va_Nc.of (hf _ zf_n8), List.forall_mem_cons.mpr ⟨va_Nc.of (hf _ zf_n9), List.forall_mem_cons.mpr ⟨va_Nc.of (hf _ zf_n10), List.forall_mem_cons.mpr ⟨va_Nc.of (hf _ zf_n11), List.forall_mem_cons.mpr ⟨va_Nc.of (hf _ zf_n12), List.forall_mem_cons.mpr ⟨va_Nc.of (hf _ zf_n13), List.forall_mem_cons.mpr ⟨va_Nc.of (hf _ zf_n14), List.forall_mem_cons.mpr ⟨va_Nc.of (hf _ zf_n15), List.forall_mem_cons.mpr ⟨va_Nc.of (hf _ zf_n16), List.forall_mem_cons.mpr ⟨va_Nc.of (hf _ zf_n17), List.forall_mem_cons.mpr ⟨va_Nc.of (hf _ zf_n18), List.forall_mem_cons.mpr ⟨va_Nc.of (hf _ zf_n19), fun _ h => absurd h List.not_mem_nil⟩⟩⟩⟩⟩⟩⟩⟩⟩⟩⟩⟩⟩⟩⟩⟩⟩⟩⟩⟩
  · exact List.forall_mem_cons.mpr ⟨va_Nw.of rfl (hts _ (zl2 134 rfl)), List.forall_mem_cons.mpr ⟨va_Nw.of rfl (hts _ (zl2 135 rfl)), List.forall_mem_cons.mpr ⟨va_Nw.of rfl (hts _ (zl2 136 rfl)), List.forall_mem_cons.mpr ⟨va_Nw.of rfl (hts _ (zl2 137 rfl)), List.forall_mem_cons.mpr ⟨va_Nw.of rfl (hts _ (zl2 138 rfl)), List.forall_mem_cons.mpr ⟨va_Nw.of rfl (hts _ (zl2 139 rfl)), List.forall_mem_cons.mpr ⟨va_Nw.of rfl (hts _ (zl3 15 rfl)), List.forall_mem_cons.mpr ⟨va_Nw.of rfl (hts _ (zl3 16 rfl)), fun _ h => absurd h List.not_mem_nil⟩⟩⟩⟩⟩⟩⟩⟩
  · exact List.forall_mem_cons.mpr ⟨va_Nw.of rfl (hts _ (zl2 133 rfl)), List.forall_mem_cons.mpr ⟨va_Nw.of rfl (hts _ (zl2 218 rfl)), List.forall_mem_cons.mpr ⟨va_Nw.of rfl (hts _ (zl3 32 rfl)), List.forall_mem_cons.mpr ⟨va_Nw.of rfl (hts _ (zl3 98 rfl)), List.forall_mem_cons.mpr ⟨va_Nw.of rfl (hts _ (zl3 207 rfl)), fun _ h => absurd h List.not_mem_nil⟩⟩⟩⟩⟩
theorem zs_U {s : State} {args : Array Value} (hts : ∀ w ∈ lw_tbl, w.before args s = true) : Uz s := ⟨List.forall_mem_cons.mpr ⟨va_Nw.of rfl (hts _ (zl1 34 rfl)), List.forall_mem_cons.mpr ⟨va_Nw.of rfl (hts _ (zl1 48 rfl)), List.forall_mem_cons.mpr ⟨va_Nw.of rfl (hts _ (zl1 74 rfl)), List.forall_mem_cons.mpr ⟨va_Nw.of rfl (hts _ (zl1 90 rfl)), List.forall_mem_cons.mpr ⟨va_Nw.of rfl (hts _ (zl1 110 rfl)), List.forall_mem_cons.mpr ⟨va_Nw.of rfl (hts _ (zl1 132 rfl)), List.forall_mem_cons.mpr ⟨va_Nw.of rfl (hts _ (zl1 168 rfl)), List.forall_mem_cons.mpr ⟨va_Nw.of rfl (hts _ (zl1 201 rfl)), fun _ h => absurd h List.not_mem_nil⟩⟩⟩⟩⟩⟩⟩⟩, va_AO.of (hts _ (zl1 165 rfl))⟩
theorem zs_K {s : State} {args : Array Value} (hts : ∀ w ∈ lw_tbl, w.before args s = true) : ∃ (D : va_G) (ty : Nat → ClassId), va_K D zCl (tz ty) s := by
  have hz : ∀ w ∈ zW, w.before args s = true := fun w h => hts w (List.mem_filter.mp h).1
  obtain ⟨c0, i0, k0⟩ := u_known (C := RX0) (T := TX0) (N := 5) (n := 5) hz inz_X0 (hts _ (zl1 109 rfl))
  obtain ⟨c1, i1, k1⟩ := u_known (C := RX1) (T := TX1) (N := 6) (n := 6) hz inz_X1 (hts _ (zl1 47 rfl))
  obtain ⟨c2, i2, k2⟩ := u_known (C := RX2) (T := TX2) (N := 7) (n := 7) hz inz_X2 (hts _ (zl1 131 rfl))
  obtain ⟨c3, i3, k3⟩ := u_known (C := RX4) (T := TX4) (N := 4) (n := 4) hz inz_X4 (hts _ (zl1 159 rfl))
  obtain ⟨c4, i4, k4⟩ := u_known (C := RX5) (T := TX5) (N := 2) (n := 2) hz inz_X5 (hts _ (zl1 33 rfl))
  obtain ⟨c5, i5, k5⟩ := u_known (C := RX6) (T := TX6) (N := 2) (n := 2) hz inz_X6 (hts _ (zl1 167 rfl))
  obtain ⟨c6, i6, k6⟩ := u_known (C := RX7) (T := TX7) (N := 3) (n := 3) hz inz_X7 (hts _ (zl1 73 rfl))
  obtain ⟨c7, i7, k7⟩ := u_known (C := RX8) (T := TX8) (N := 4) (n := 4) hz inz_X8 (hts _ (zl1 89 rfl))
  obtain ⟨c8, i8, k8⟩ := u_known (C := RX9) (T := TX9) (N := 15) (n := 15) hz inz_X9 (hts _ (zl1 25 rfl))
  obtain ⟨c9, i9, k9⟩ := u_known (C := RX10) (T := TX10) (N := 35) (n := 35) hz inz_X10 (hts _ (zl5 26 rfl))
  obtain ⟨a0, b0, m0, f0, g0, e0⟩ := Cond.arrayClass_spec (hts _ (zl1 45 rfl))
  obtain ⟨a1, b1, m1, f1, g1, e1⟩ := Cond.arrayClass_spec (hts _ (zl2 9 rfl))
  obtain ⟨a2, b2, m2, f2, g2, e2⟩ := Cond.arrayClass_spec (hts _ (zl2 8 rfl))
  obtain ⟨a3, b3, m3, f3, g3, e3⟩ := Cond.arrayClass_spec (hts _ (zl1 107 rfl))
  obtain ⟨a4, b4, m4, f4, g4, e4⟩ := Cond.arrayClass_spec (hts _ (zl5 137 rfl))
  obtain ⟨m5, a5, b5, n5, -, g5, e5, f5⟩ := Cond.arrayOver_spec (hts _ (zl1 165 rfl))
  obtain ⟨a6, b6, m6, f6, g6, e6⟩ := Cond.arrayClass_spec (hts _ (zl6 168 rfl))
  refine ⟨(fun k => [c0, c1, c2, c3, c4, c5, c6, c7, c8, c9].getD k c0, fun k => [i0, i1, i2, i3, i4, i5, i6, i7, i8, i9].getD k i0), fun k => [a0, a1, a2, a3, a4, a5, a6].getD k a0, ?_, ?_⟩
  · intro k q hq
    match k, hq with
    | 0, hq => cases hq; exact k0
    | 1, hq => cases hq; exact k1
    | 2, hq => cases hq; exact k2
    | 3, hq => cases hq; exact k3
    | 4, hq => cases hq; exact k4
    | 5, hq => cases hq; exact k5
    | 6, hq => cases hq; exact k6
    | 7, hq => cases hq; exact k7
    | 8, hq => cases hq; exact k8
    | 9, hq => cases hq; exact k9
    | k + 10, hq => exact absurd hq (by simp [zCl])
  · intro k q hq
    match k, hq with
    | 0, hq => cases hq; exact ⟨fun n z => ⟨fun k h => (by cases h), b0, g0, m0, e0⟩, f0⟩
    | 1, hq => cases hq; exact ⟨fun n z => ⟨fun k h => (by cases h), b1, g1, m1, e1⟩, f1⟩
    | 2, hq => cases hq; exact ⟨fun n z => ⟨fun k h => (by cases h), b2, g2, m2, e2⟩, f2⟩
    | 3, hq => cases hq; exact ⟨fun n z => ⟨fun k h => (by cases h), b3, g3, m3, e3⟩, f3⟩
    | 4, hq => cases hq; exact ⟨fun n z => ⟨fun k h => (by cases h), b4, g4, m4, e4⟩, f4⟩
    | 5, hq => cases hq; exact ⟨fun n z => ⟨fun k h => (by cases h), b5, g5, m5, e5⟩, b5, m5, g5, e5, n5, f5⟩
    | 6, hq => cases hq; exact ⟨fun n z => ⟨fun k h => (by cases h), b6, g6, m6, e6⟩, f6⟩
    | k + 7, hq => exact absurd hq (by simp [tz])
def zI0 : Nat → Nat → Int32 := fun k => match k with
  | 0 => fun j => match j with
    | 11 => (3 : Int32)
    | 12 => (-1 : Int32)
    | _ => 0
  | 3 => fun j => match j with
    | 0 => (1754760 : Int32)
    | _ => 0
  | 17 => fun j => match j with
    | 3 => (1754760 : Int32)
    | _ => 0
  | 18 => (upd (upd (upd (upd (upd (upd (upd (upd (upd (upd (fun _ => 0) 0 (1754760 : Int32)) 1 (1754760 : Int32)) 2 (1754760 : Int32)) 3 (1754760 : Int32)) 4 (1754760 : Int32)) 5 (1754760 : Int32)) 6 (1754760 : Int32)) 7 (1754760 : Int32)) 8 (1754760 : Int32)) 9 (1754760 : Int32))
  | 28 => fun j => match j with
    | 3 => (1754760 : Int32)
    | _ => 0
  | 29 => (upd (upd (upd (upd (upd (upd (upd (upd (upd (upd (fun _ => 0) 0 (1754760 : Int32)) 1 (1754760 : Int32)) 2 (1754760 : Int32)) 3 (1754760 : Int32)) 4 (1754760 : Int32)) 5 (1754760 : Int32)) 6 (1754760 : Int32)) 7 (1754760 : Int32)) 8 (1754760 : Int32)) 9 (1754760 : Int32))
  | 43 => fun j => match j with
    | 1 => (3 : Int32)
    | 9 => (-1 : Int32)
    | _ => 0
  | 44 => (upd (upd (upd (upd (upd (upd (upd (upd (fun _ => 0) 0 (0 : Int32)) 1 (1 : Int32)) 2 (2 : Int32)) 3 (3 : Int32)) 4 (4 : Int32)) 5 (5 : Int32)) 6 (6 : Int32)) 7 (7 : Int32))
  | _ => fun _ => 0
/-- the data when all is made -/
def σz : Dz := (zI0, fun _ _ => 0, fun _ _ => 0, fun _ _ => 0)
abbrev zAd (q0 q1 q2 q3 q4 q5 q6 q7 q8 q9 q10 q11 q12 q13 q14 q15 q16 q17 q18 q19 q20 q21 q22 q23 q24 q25 q26 q27 q28 q29 q30 q31 q32 q33 q34 q35 q36 q37 q38 q39 q40 q41 q42 q43 q44 q45 q46 q47 q48 q49 q50 q51 q52 q53 q54 q55 q56 q57 q58 q59 q60 q61 q62 q63 q64 q65 q66 q67 : Nat) : Nat → Nat := fun k => [q0, q1, q2, q3, q4, q5, q6, q7, q8, q9, q10, q11, q12, q13, q14, q15, q16, q17, q18, q19, q20, q21, q22, q23, q24, q25, q26, q27, q28, q29, q30, q31, q32, q33, q34, q35, q36, q37, q38, q39, q40, q41, q42, q43, q44, q45, q46, q47, q48, q49, q50, q51, q52, q53, q54, q55, q56, q57, q58, q59, q60, q61, q62, q63, q64, q65, q66, q67].getD k 0
abbrev zAll (ty : Nat → ClassId) (q0 q1 q2 q3 q4 q5 q6 q7 q8 q9 q10 q11 q12 q13 q14 q15 q16 q17 q18 q19 q20 q21 q22 q23 q24 q25 q26 q27 q28 q29 q30 q31 q32 q33 q34 q35 q36 q37 q38 q39 q40 q41 q42 q43 q44 q45 q46 q47 q48 q49 q50 q51 q52 q53 q54 q55 q56 q57 q58 q59 q60 q61 q62 q63 q64 q65 q66 q67 : Nat) : va_W := [(q0, .inr (8, [.ref q1, .ref q3, .ref q4, .ref q6, .ref q9, .ref q12, .ref q17, .ref q28, .ref q39, .ref q41, .ref q42, .int (3 : Int32), .int (-1 : Int32), .int (0 : Int32), .int (0 : Int32)])), (q1, .inr (4, [.ref q2, .int (0 : Int32)])), (q2, .inl (ty 0, 40, .inl (fun _ => 0))), (q3, .inr (1, [.int (1754760 : Int32), .int 0, .int 0, .int 0, .int 0, .int 0])), (q4, .inr (6, [.ref q5, .int 0, .int 0])), (q5, .inl (ty 0, 6, .inl (fun _ => 0))), (q6, .inr (7, [.ref q7, .ref q8, .int 0, .int 0])), (q7, .inl (ty 3, 6, .inl (fun _ => 0))), (q8, .inl (ty 3, 6, .inl (fun _ => 0))), (q9, .inr (0, [.ref q10, .ref q11, .int (0 : Int32), .int (0 : Int32), .int (0 : Int32)])), (q10, .inl (ty 3, 10, .inl (fun _ => 0))), (q11, .inl (ty 3, 110, .inl (fun _ => 0))), (q12, .inr (2, [.ref q13, .ref q14, .ref q15, .ref q16, .int (0 : Int32), .int (0 : Int32), .int (0 : Int32)])), (q13, .inl (ty 3, 5040, .inl (fun _ => 0))), (q14, .inl (ty 3, 5040, .inl (fun _ => 0))), (q15, .inl (ty 3, 5041, .inl (fun _ => 0))), (q16, .inl (ty 3, 10, .inl (fun _ => 0))), (q17, .inr (3, [.ref q18, .ref q19, .int (0 : Int32), .int (1754760 : Int32)])), (q18, .inl (ty 3, 10, .inl (upd (upd (upd (upd (upd (upd (upd (upd (upd (upd (fun _ => 0) 0 (1754760 : Int32)) 1 (1754760 : Int32)) 2 (1754760 : Int32)) 3 (1754760 : Int32)) 4 (1754760 : Int32)) 5 (1754760 : Int32)) 6 (1754760 : Int32)) 7 (1754760 : Int32)) 8 (1754760 : Int32)) 9 (1754760 : Int32)))), (q19, .inl (ty 5, 4, .inr (.inr (.inr (.inr (va_up (va_up (va_up (va_up (fun _ => none) 0 (some q20)) 1 (some q22)) 2 (some q24)) 3 (some q26))))))), (q20, .inr (5, [.ref q21, .int (0 : Int32)])), (q21, .inl (ty 3, 200, .inl (fun _ => 0))), (q22, .inr (5, [.ref q23, .int (0 : Int32)])), (q23, .inl (ty 3, 200, .inl (fun _ => 0))), (q24, .inr (5, [.ref q25, .int (0 : Int32)])), (q25, .inl (ty 3, 200, .inl (fun _ => 0))), (q26, .inr (5, [.ref q27, .int (0 : Int32)])), (q27, .inl (ty 3, 200, .inl (fun _ => 0))), (q28, .inr (3, [.ref q29, .ref q30, .int (0 : Int32), .int (1754760 : Int32)])), (q29, .inl (ty 3, 10, .inl (upd (upd (upd (upd (upd (upd (upd (upd (upd (upd (fun _ => 0) 0 (1754760 : Int32)) 1 (1754760 : Int32)) 2 (1754760 : Int32)) 3 (1754760 : Int32)) 4 (1754760 : Int32)) 5 (1754760 : Int32)) 6 (1754760 : Int32)) 7 (1754760 : Int32)) 8 (1754760 : Int32)) 9 (1754760 : Int32)))), (q30, .inl (ty 5, 4, .inr (.inr (.inr (.inr (va_up (va_up (va_up (va_up (fun _ => none) 0 (some q31)) 1 (some q33)) 2 (some q35)) 3 (some q37))))))), (q31, .inr (5, [.ref q32, .int (0 : Int32)])), (q32, .inl (ty 3, 200, .inl (fun _ => 0))), (q33, .inr (5, [.ref q34, .int (0 : Int32)])), (q34, .inl (ty 3, 200, .inl (fun _ => 0))), (q35, .inr (5, [.ref q36, .int (0 : Int32)])), (q36, .inl (ty 3, 200, .inl (fun _ => 0))), (q37, .inr (5, [.ref q38, .int (0 : Int32)])), (q38, .inl (ty 3, 200, .inl (fun _ => 0))), (q39, .inr (5, [.ref q40, .int (0 : Int32)])), (q40, .inl (ty 3, 200, .inl (fun _ => 0))), (q41, .inl (ty 2, 24, .inr (.inr (.inl (fun _ => 0))))), (q42, .inl (ty 1, 24, .inr (.inr (.inr (.inl (fun _ => 0)))))), (q43, .inr (9, [.int 0, .int (3 : Int32), .ref q44, .ref q45, .ref q46, .ref q47, .ref q48, .ref q49, .int 0, .int (-1 : Int32), .ref q50, .ref q51, .int 0, .ref q52, .ref q53, .ref q54, .ref q55, .ref q56, .int 0, .ref q57, .ref q58, .ref q59, .int 0, .int 0, .int 0, .int 0, .ref q60, .int 0, .ref q61, .ref q62, .ref q63, .ref q64, .int 0, .int 0, .ref q65])), (q44, .inl (ty 3, 8, .inl (upd (upd (upd (upd (upd (upd (upd (upd (fun _ => 0) 0 (0 : Int32)) 1 (1 : Int32)) 2 (2 : Int32)) 3 (3 : Int32)) 4 (4 : Int32)) 5 (5 : Int32)) 6 (6 : Int32)) 7 (7 : Int32)))), (q45, .inl (ty 4, 5, .inl (fun _ => 0))), (q46, .inl (ty 3, 80, .inl (fun _ => 0))), (q47, .inl (ty 3, 4, .inl (fun _ => 0))), (q48, .inl (ty 3, 800, .inl (fun _ => 0))), (q49, .inl (ty 0, 40, .inl (fun _ => 0))), (q50, .inl (ty 2, 24, .inr (.inr (.inl (fun _ => 0))))), (q51, .inl (ty 1, 24, .inr (.inr (.inr (.inl (fun _ => 0)))))), (q52, .inl (ty 3, 8, .inl (fun _ => 0))), (q53, .inl (ty 4, 5, .inl (fun _ => 0))), (q54, .inl (ty 3, 80, .inl (fun _ => 0))), (q55, .inl (ty 3, 4, .inl (fun _ => 0))), (q56, .inl (ty 3, 800, .inl (fun _ => 0))), (q57, .inl (ty 3, 8, .inl (fun _ => 0))), (q58, .inl (ty 4, 8, .inl (fun _ => 0))), (q59, .inl (ty 3, 300, .inl (fun _ => 0))), (q60, .inl (ty 3, 8, .inl (fun _ => 0))), (q61, .inl (ty 3, 5040, .inl (fun _ => 0))), (q62, .inl (ty 3, 5040, .inl (fun _ => 0))), (q63, .inl (ty 3, 8, .inl (fun _ => 0))), (q64, .inl (ty 3, 8, .inl (fun _ => 0))), (q65, .inl (ty 3, 5041, .inl (fun _ => 0))), (q66, .inl (ty 6, 1, .inr (.inl (fun _ => 0)))), (q67, .inl (ty 1, 1, .inr (.inr (.inr (.inl (fun _ => 0))))))]
theorem zs_words {D : va_G} {H : Heap} {a n : Nat} {cA : ClassId} {f g : Nat → Option Nat} (h : va_at D zCl (a, .inl (cA, n, .inr (.inr (.inr (.inr f))))) H) (hfg : ∀ j, j < n → f j = g j) : va_at D zCl (a, .inl (cA, n, .inr (.inr (.inr (.inr g))))) H := by
  have e : vp_cell cA (n, .inr (.inr (.inr (.inr f)))) = vp_cell cA (n, .inr (.inr (.inr (.inr g)))) := by
    rw [vp_cell_q, vp_cell_q]
    unfold arrV
    congr 1
    refine Array.ext (by simp) (fun j h1 h2 => ?_)
    simp at h1
    simp [hfg j h1]
  show H[a]? = some (vp_cell cA (n, .inr (.inr (.inr (.inr g)))))
  rw [← e]; exact h
set_option maxRecDepth 100000 in
set_option maxHeartbeats 4000000 in
theorem zs_P {D : va_G} {ty : Nat → ClassId} {H : Heap} {q0 q1 q2 q3 q4 q5 q6 q7 q8 q9 q10 q11 q12 q13 q14 q15 q16 q17 q18 q19 q20 q21 q22 q23 q24 q25 q26 q27 q28 q29 q30 q31 q32 q33 q34 q35 q36 q37 q38 q39 q40 q41 q42 q43 q44 q45 q46 q47 q48 q49 q50 q51 q52 q53 q54 q55 q56 q57 q58 q59 q60 q61 q62 q63 q64 q65 q66 q67 : Nat} (hP : va_P D zCl (zAll ty q0 q1 q2 q3 q4 q5 q6 q7 q8 q9 q10 q11 q12 q13 q14 q15 q16 q17 q18 q19 q20 q21 q22 q23 q24 q25 q26 q27 q28 q29 q30 q31 q32 q33 q34 q35 q36 q37 q38 q39 q40 q41 q42 q43 q44 q45 q46 q47 q48 q49 q50 q51 q52 q53 q54 q55 q56 q57 q58 q59 q60 q61 q62 q63 q64 q65 q66 q67) H) : va_P D zCl (wz (zAd q0 q1 q2 q3 q4 q5 q6 q7 q8 q9 q10 q11 q12 q13 q14 q15 q16 q17 q18 q19 q20 q21 q22 q23 q24 q25 q26 q27 q28 q29 q30 q31 q32 q33 q34 q35 q36 q37 q38 q39 q40 q41 q42 q43 q44 q45 q46 q47 q48 q49 q50 q51 q52 q53 q54 q55 q56 q57 q58 q59 q60 q61 q62 q63 q64 q65 q66 q67) ty σz) H := by
  intro k q hk
  obtain ⟨hk, rfl⟩ := wz_get' hk
  match k, hk with
  | 0, _ => exact hP 0 _ rfl
  | 1, _ => exact hP 1 _ rfl
  | 2, _ => exact hP 2 _ rfl
  | 3, _ => exact hP 3 _ rfl
  | 4, _ => exact hP 4 _ rfl
  | 5, _ => exact hP 5 _ rfl
  | 6, _ => exact hP 6 _ rfl
  | 7, _ => exact hP 7 _ rfl
  | 8, _ => exact hP 8 _ rfl
  | 9, _ => exact hP 9 _ rfl
  | 10, _ => exact hP 10 _ rfl
  | 11, _ => exact hP 11 _ rfl
  | 12, _ => exact hP 12 _ rfl
  | 13, _ => exact hP 13 _ rfl
  | 14, _ => exact hP 14 _ rfl
  | 15, _ => exact hP 15 _ rfl
  | 16, _ => exact hP 16 _ rfl
  | 17, _ => exact hP 17 _ rfl
  | 18, _ => exact hP 18 _ rfl
  | 19, _ => exact zs_words (hP 19 _ rfl) (fun j hj => by match j, hj with
    | 0, _ => rfl
    | 1, _ => rfl
    | 2, _ => rfl
    | 3, _ => rfl
    | j + 4, hj => exact absurd hj (by omega))
  | 20, _ => exact hP 20 _ rfl
  | 21, _ => exact hP 21 _ rfl
  | 22, _ => exact hP 22 _ rfl
  | 23, _ => exact hP 23 _ rfl
  | 24, _ => exact hP 24 _ rfl
  | 25, _ => exact hP 25 _ rfl
  | 26, _ => exact hP 26 _ rfl
  | 27, _ => exact hP 27 _ rfl
  | 28, _ => exact hP 28 _ rfl
  | 29, _ => exact hP 29 _ rfl
  | 30, _ => exact zs_words (hP 30 _ rfl) (fun j hj => by match j, hj with
    | 0, _ => rfl
    | 1, _ => rfl
    | 2, _ => rfl
    | 3, _ => rfl
    | j + 4, hj => exact absurd hj (by omega))
  | 31, _ => exact hP 31 _ rfl
  | 32, _ => exact hP 32 _ rfl
  | 33, _ => exact hP 33 _ rfl
  | 34, _ => exact hP 34 _ rfl
  | 35, _ => exact hP 35 _ rfl
  | 36, _ => exact hP 36 _ rfl
  | 37, _ => exact hP 37 _ rfl
  | 38, _ => exact hP 38 _ rfl
  | 39, _ => exact hP 39 _ rfl
  | 40, _ => exact hP 40 _ rfl
  | 41, _ => exact hP 41 _ rfl
  | 42, _ => exact hP 42 _ rfl
  | 43, _ => exact hP 43 _ rfl
  | 44, _ => exact hP 44 _ rfl
  | 45, _ => exact hP 45 _ rfl
  | 46, _ => exact hP 46 _ rfl
  | 47, _ => exact hP 47 _ rfl
  | 48, _ => exact hP 48 _ rfl
  | 49, _ => exact hP 49 _ rfl
  | 50, _ => exact hP 50 _ rfl
  | 51, _ => exact hP 51 _ rfl
  | 52, _ => exact hP 52 _ rfl
  | 53, _ => exact hP 53 _ rfl
  | 54, _ => exact hP 54 _ rfl
  | 55, _ => exact hP 55 _ rfl
  | 56, _ => exact hP 56 _ rfl
  | 57, _ => exact hP 57 _ rfl
  | 58, _ => exact hP 58 _ rfl
  | 59, _ => exact hP 59 _ rfl
  | 60, _ => exact hP 60 _ rfl
  | 61, _ => exact hP 61 _ rfl
  | 62, _ => exact hP 62 _ rfl
  | 63, _ => exact hP 63 _ rfl
  | 64, _ => exact hP 64 _ rfl
  | 65, _ => exact hP 65 _ rfl
  | 66, _ => exact hP 66 _ rfl
  | 67, _ => exact hP 67 _ rfl
  | k + 68, hk => exact absurd hk (by omega)
set_option maxRecDepth 100000 in
set_option maxHeartbeats 4000000 in
theorem zs_at {ty : Nat → ClassId} {q0 q1 q2 q3 q4 q5 q6 q7 q8 q9 q10 q11 q12 q13 q14 q15 q16 q17 q18 q19 q20 q21 q22 q23 q24 q25 q26 q27 q28 q29 q30 q31 q32 q33 q34 q35 q36 q37 q38 q39 q40 q41 q42 q43 q44 q45 q46 q47 q48 q49 q50 q51 q52 q53 q54 q55 q56 q57 q58 q59 q60 q61 q62 q63 q64 q65 q66 q67 : Nat} : ∀ k, k < 68 → ∃ x, (zAll ty q0 q1 q2 q3 q4 q5 q6 q7 q8 q9 q10 q11 q12 q13 q14 q15 q16 q17 q18 q19 q20 q21 q22 q23 q24 q25 q26 q27 q28 q29 q30 q31 q32 q33 q34 q35 q36 q37 q38 q39 q40 q41 q42 q43 q44 q45 q46 q47 q48 q49 q50 q51 q52 q53 q54 q55 q56 q57 q58 q59 q60 q61 q62 q63 q64 q65 q66 q67)[k]? = some (zAd q0 q1 q2 q3 q4 q5 q6 q7 q8 q9 q10 q11 q12 q13 q14 q15 q16 q17 q18 q19 q20 q21 q22 q23 q24 q25 q26 q27 q28 q29 q30 q31 q32 q33 q34 q35 q36 q37 q38 q39 q40 q41 q42 q43 q44 q45 q46 q47 q48 q49 q50 q51 q52 q53 q54 q55 q56 q57 q58 q59 q60 q61 q62 q63 q64 q65 q66 q67 k, x) := by
  intro k hk
  match k, hk with
  | 0, _ => exact ⟨_, rfl⟩
  | 1, _ => exact ⟨_, rfl⟩
  | 2, _ => exact ⟨_, rfl⟩
  | 3, _ => exact ⟨_, rfl⟩
  | 4, _ => exact ⟨_, rfl⟩
  | 5, _ => exact ⟨_, rfl⟩
  | 6, _ => exact ⟨_, rfl⟩
  | 7, _ => exact ⟨_, rfl⟩
  | 8, _ => exact ⟨_, rfl⟩
  | 9, _ => exact ⟨_, rfl⟩
  | 10, _ => exact ⟨_, rfl⟩
  | 11, _ => exact ⟨_, rfl⟩
  | 12, _ => exact ⟨_, rfl⟩
  | 13, _ => exact ⟨_, rfl⟩
  | 14, _ => exact ⟨_, rfl⟩
  | 15, _ => exact ⟨_, rfl⟩
  | 16, _ => exact ⟨_, rfl⟩
  | 17, _ => exact ⟨_, rfl⟩
  | 18, _ => exact ⟨_, rfl⟩
  | 19, _ => exact ⟨_, rfl⟩
  | 20, _ => exact ⟨_, rfl⟩
  | 21, _ => exact ⟨_, rfl⟩
  | 22, _ => exact ⟨_, rfl⟩
  | 23, _ => exact ⟨_, rfl⟩
  | 24, _ => exact ⟨_, rfl⟩
  | 25, _ => exact ⟨_, rfl⟩
  | 26, _ => exact ⟨_, rfl⟩
  | 27, _ => exact ⟨_, rfl⟩
  | 28, _ => exact ⟨_, rfl⟩
  | 29, _ => exact ⟨_, rfl⟩
  | 30, _ => exact ⟨_, rfl⟩
  | 31, _ => exact ⟨_, rfl⟩
  | 32, _ => exact ⟨_, rfl⟩
  | 33, _ => exact ⟨_, rfl⟩
  | 34, _ => exact ⟨_, rfl⟩
  | 35, _ => exact ⟨_, rfl⟩
  | 36, _ => exact ⟨_, rfl⟩
  | 37, _ => exact ⟨_, rfl⟩
  | 38, _ => exact ⟨_, rfl⟩
  | 39, _ => exact ⟨_, rfl⟩
  | 40, _ => exact ⟨_, rfl⟩
  | 41, _ => exact ⟨_, rfl⟩
  | 42, _ => exact ⟨_, rfl⟩
  | 43, _ => exact ⟨_, rfl⟩
  | 44, _ => exact ⟨_, rfl⟩
  | 45, _ => exact ⟨_, rfl⟩
  | 46, _ => exact ⟨_, rfl⟩
  | 47, _ => exact ⟨_, rfl⟩
  | 48, _ => exact ⟨_, rfl⟩
  | 49, _ => exact ⟨_, rfl⟩
  | 50, _ => exact ⟨_, rfl⟩
  | 51, _ => exact ⟨_, rfl⟩
  | 52, _ => exact ⟨_, rfl⟩
  | 53, _ => exact ⟨_, rfl⟩
  | 54, _ => exact ⟨_, rfl⟩
  | 55, _ => exact ⟨_, rfl⟩
  | 56, _ => exact ⟨_, rfl⟩
  | 57, _ => exact ⟨_, rfl⟩
  | 58, _ => exact ⟨_, rfl⟩
  | 59, _ => exact ⟨_, rfl⟩
  | 60, _ => exact ⟨_, rfl⟩
  | 61, _ => exact ⟨_, rfl⟩
  | 62, _ => exact ⟨_, rfl⟩
  | 63, _ => exact ⟨_, rfl⟩
  | 64, _ => exact ⟨_, rfl⟩
  | 65, _ => exact ⟨_, rfl⟩
  | 66, _ => exact ⟨_, rfl⟩
  | 67, _ => exact ⟨_, rfl⟩
  | k + 68, hk => exact absurd hk (by omega)
end ZStart
