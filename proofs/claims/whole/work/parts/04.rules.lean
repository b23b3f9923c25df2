/-! RULES, one an instruction: read from the last line to the first: what is wanted ahead of it follows from what is wanted behind it -/
section PWR
variable {G : GG} {μ : MD} {rm : Room} {Q : Option Value → Mem → Prop} {pc : Nat} {L : List (Option Value)} {st : List Value} {M : Mem} {k sl : Nat}
theorem s_iconst {n : Int} {v : Int32} (hc : cod μ pc (.iconst n) 1) (hv : Int32.ofInt n = v) (kk : PW G μ rm Q (pc + 1) L (.int v :: st) M k sl) : PW G μ rm Q pc L (st) M k sl := by
  intro p e s m args below meth c0 Z H locs ls C hl hR hS
  exact lv_iconst C.1 C.2.1 hc hv (kk p e s m args below meth c0 Z H locs _ C hl hR hS)
theorem s_bipush {n : Int} {v : Int32} (hc : cod μ pc (.bipush n) 2) (hv : (Int8.ofInt n).toInt32 = v) (kk : PW G μ rm Q (pc + 2) L (.int v :: st) M k sl) : PW G μ rm Q pc L (st) M k sl := by
  intro p e s m args below meth c0 Z H locs ls C hl hR hS
  exact lv_bipush C.1 C.2.1 hc hv (kk p e s m args below meth c0 Z H locs _ C hl hR hS)
theorem s_sipush {n : Int} {v : Int32} (hc : cod μ pc (.sipush n) 3) (hv : (Int16.ofInt n).toInt32 = v) (kk : PW G μ rm Q (pc + 3) L (.int v :: st) M k sl) : PW G μ rm Q pc L (st) M k sl := by
  intro p e s m args below meth c0 Z H locs ls C hl hR hS
  exact lv_sipush C.1 C.2.1 hc hv (kk p e s m args below meth c0 Z H locs _ C hl hR hS)
theorem s_lconst {n : Fin 2} {v : Int64} (hc : cod μ pc (.lconst n) 1) (hv : Int64.ofNat (n : Nat) = v) (kk : PW G μ rm Q (pc + 1) L (.long v :: st) M k sl) : PW G μ rm Q pc L (st) M k sl := by
  intro p e s m args below meth c0 Z H locs ls C hl hR hS
  exact lv_lconst C.1 C.2.1 hc hv (kk p e s m args below meth c0 Z H locs _ C hl hR hS)
theorem s_ldc {i : Nat} {v : Int32} (hc : cod μ pc (.ldc i) 2) (hw : Cond.constant μ.1 i v ∈ gT) (kk : PW G μ rm Q (pc + 2) L (.int v :: st) M k sl) : PW G μ rm Q pc L (st) M k sl := by
  intro p e s m args below meth c0 Z H locs ls C hl hR hS
  exact lv_ldc C.1 C.2.1 C.2.2.2.1 (C.2.2.2.2.1 _ hw) hc (kk p e s m args below meth c0 Z H locs _ C hl hR hS)
theorem s_ldc_w {i : Nat} {v : Int32} (hc : cod μ pc (.ldc_w i) 3) (hw : Cond.constant μ.1 i v ∈ gT) (kk : PW G μ rm Q (pc + 3) L (.int v :: st) M k sl) : PW G μ rm Q pc L (st) M k sl := by
  intro p e s m args below meth c0 Z H locs ls C hl hR hS
  exact lv_ldcw C.1 C.2.1 C.2.2.2.1 (C.2.2.2.2.1 _ hw) hc (kk p e s m args below meth c0 Z H locs _ C hl hR hS)
theorem s_ldc2 {i : Nat} {v : Int64} (hc : cod μ pc (.ldc2_w i) 3) (hw : Cond.constantLong μ.1 i v ∈ gT) (kk : PW G μ rm Q (pc + 3) L (.long v :: st) M k sl) : PW G μ rm Q pc L (st) M k sl := by
  intro p e s m args below meth c0 Z H locs ls C hl hR hS
  exact lv_ldc2 C.1 C.2.1 C.2.2.2.1 (C.2.2.2.2.1 _ hw) hc (kk p e s m args below meth c0 Z H locs _ C hl hR hS)
theorem s_null (hc : cod μ pc .aconst_null 1) (kk : PW G μ rm Q (pc + 1) L (.ref 0 :: st) M k sl) : PW G μ rm Q pc L (st) M k sl := by
  intro p e s m args below meth c0 Z H locs ls C hl hR hS
  exact lv_null C.1 C.2.1 hc (kk p e s m args below meth c0 Z H locs _ C hl hR hS)
theorem s_iload_n {i : Fin 4} {x : Int32} (hc : cod μ pc (.iload_n i) 1) (hl0 : L[(i : Nat)]? = some (some (.int x))) (kk : PW G μ rm Q (pc + 1) L (.int x :: st) M k sl) : PW G μ rm Q pc L (st) M k sl := by
  intro p e s m args below meth c0 Z H locs ls C hl hR hS
  exact lv_iload_n C.1 C.2.1 hc rfl (hl.2.2 _ _ hl0) (kk p e s m args below meth c0 Z H locs _ C hl hR hS)
theorem s_iload {i : Nat} {x : Int32} (hc : cod μ pc (.iload i) 2) (hl0 : L[i]? = some (some (.int x))) (kk : PW G μ rm Q (pc + 2) L (.int x :: st) M k sl) : PW G μ rm Q pc L (st) M k sl := by
  intro p e s m args below meth c0 Z H locs ls C hl hR hS
  exact lv_iload C.1 C.2.1 hc (hl.2.2 _ _ hl0) (kk p e s m args below meth c0 Z H locs _ C hl hR hS)
theorem s_lload_n {i : Fin 4} {x : Int64} (hc : cod μ pc (.lload_n i) 1) (hl0 : L[(i : Nat)]? = some (some (.long x))) (kk : PW G μ rm Q (pc + 1) L (.long x :: st) M k sl) : PW G μ rm Q pc L (st) M k sl := by
  intro p e s m args below meth c0 Z H locs ls C hl hR hS
  exact lv_lload_n C.1 C.2.1 hc rfl (hl.2.2 _ _ hl0) (kk p e s m args below meth c0 Z H locs _ C hl hR hS)
theorem s_lload {i : Nat} {x : Int64} (hc : cod μ pc (.lload i) 2) (hl0 : L[i]? = some (some (.long x))) (kk : PW G μ rm Q (pc + 2) L (.long x :: st) M k sl) : PW G μ rm Q pc L (st) M k sl := by
  intro p e s m args below meth c0 Z H locs ls C hl hR hS
  exact lv_lload C.1 C.2.1 hc (hl.2.2 _ _ hl0) (kk p e s m args below meth c0 Z H locs _ C hl hR hS)
theorem s_aload_n {i : Fin 4} {x : Nat} (hc : cod μ pc (.aload_n i) 1) (hl0 : L[(i : Nat)]? = some (some (.ref x))) (kk : PW G μ rm Q (pc + 1) L (.ref x :: st) M k sl) : PW G μ rm Q pc L st M k sl := by
  intro p e s m args below meth c0 Z H locs ls C hl hR hS
  have h9 := kk p e s m args below meth c0 Z H locs _ C hl hR hS
  have h8 := hl.2.2 _ _ hl0
  by_cases h0 : x = 0
  · subst h0
    exact lv_aload_nN C.1 C.2.1 hc rfl h8 h9
  · rw [List.map_cons, vj_ref h0] at h9
    rw [vj_ref h0] at h8
    exact lv_aload_n C.1 C.2.1 hc rfl h8 h9
theorem s_aload {i : Nat} {x : Nat} (hc : cod μ pc (.aload i) 2) (hl0 : L[i]? = some (some (.ref x))) (kk : PW G μ rm Q (pc + 2) L (.ref x :: st) M k sl) : PW G μ rm Q pc L st M k sl := by
  intro p e s m args below meth c0 Z H locs ls C hl hR hS
  have h9 := kk p e s m args below meth c0 Z H locs _ C hl hR hS
  have h8 := hl.2.2 _ _ hl0
  by_cases h0 : x = 0
  · subst h0
    exact lv_aloadN C.1 C.2.1 hc h8 h9
  · rw [List.map_cons, vj_ref h0] at h9
    rw [vj_ref h0] at h8
    exact lv_aload C.1 C.2.1 hc h8 h9
theorem s_istore_n {i : Fin 4} {x : Int32} {L1 : List (Option Value)} (hc : cod μ pc (.istore_n i) 1) (hn : (i : Nat) < μ.2.2.2.1) (hL : st1 L (i : Nat) (.int x) = L1) (kk : PW G μ rm Q (pc + 1) L1 st M k sl) : PW G μ rm Q pc L (.int x :: st) M k sl := by
  intro p e s m args below meth c0 Z H locs ls C hl hR hS
  subst hL
  exact lv_istore_n C.1 C.2.1 hc rfl hl.has hn rfl (fun ls h => kk p e s m args below meth c0 Z H locs _ C (lvL.one (fun _ q => q) h) hR hS)
theorem s_istore {i : Nat} {x : Int32} {L1 : List (Option Value)} (hc : cod μ pc (.istore i) 2) (hn : i < μ.2.2.2.1) (hL : st1 L i (.int x) = L1) (kk : PW G μ rm Q (pc + 2) L1 st M k sl) : PW G μ rm Q pc L (.int x :: st) M k sl := by
  intro p e s m args below meth c0 Z H locs ls C hl hR hS
  subst hL
  exact lv_istore C.1 C.2.1 hc hl.has hn rfl (fun ls h => kk p e s m args below meth c0 Z H locs _ C (lvL.one (fun _ q => q) h) hR hS)
theorem s_lstore_n {i : Fin 4} {x : Int64} {L1 : List (Option Value)} (hc : cod μ pc (.lstore_n i) 1) (hn : (i : Nat) + 1 < μ.2.2.2.1) (hL : st2 L (i : Nat) (.long x) = L1) (kk : PW G μ rm Q (pc + 1) L1 st M k sl) : PW G μ rm Q pc L (.long x :: st) M k sl := by
  intro p e s m args below meth c0 Z H locs ls C hl hR hS
  subst hL
  exact lv_lstore_n C.1 C.2.1 hc rfl hl.has hn rfl (fun ls h => kk p e s m args below meth c0 Z H locs _ C (lvL.two h) hR hS)
theorem s_lstore {i : Nat} {x : Int64} {L1 : List (Option Value)} (hc : cod μ pc (.lstore i) 2) (hn : i + 1 < μ.2.2.2.1) (hL : st2 L i (.long x) = L1) (kk : PW G μ rm Q (pc + 2) L1 st M k sl) : PW G μ rm Q pc L (.long x :: st) M k sl := by
  intro p e s m args below meth c0 Z H locs ls C hl hR hS
  subst hL
  exact lv_lstore C.1 C.2.1 hc hl.has hn rfl (fun ls h => kk p e s m args below meth c0 Z H locs _ C (lvL.two h) hR hS)
theorem s_astore_n {i : Fin 4} {x : Nat} {L1 : List (Option Value)} (hc : cod μ pc (.astore_n i) 1) (hn : (i : Nat) < μ.2.2.2.1) (hL : st1 L (i : Nat) (.ref x) = L1) (kk : PW G μ rm Q (pc + 1) L1 st M k sl) : PW G μ rm Q pc L (.ref x :: st) M k sl := by
  intro p e s m args below meth c0 Z H locs ls C hl hR hS
  subst hL
  by_cases h0 : x = 0
  · subst h0
    exact lv_astore_nN C.1 C.2.1 hc rfl hl.has hn rfl (fun ls h => kk p e s m args below meth c0 Z H locs _ C (lvL.one (v := .ref 0) (fun _ q => q) h) hR hS)
  · rw [List.map_cons, vj_ref h0]
    exact lv_astore_n C.1 C.2.1 hc rfl hl.has hn rfl (fun ls h => kk p e s m args below meth c0 Z H locs _ C (lvL.one (v := .ref x) (fun _ q => q) (by rw [vj_ref h0]; exact h)) hR hS)
theorem s_astore {i : Nat} {x : Nat} {L1 : List (Option Value)} (hc : cod μ pc (.astore i) 2) (hn : i < μ.2.2.2.1) (hL : st1 L i (.ref x) = L1) (kk : PW G μ rm Q (pc + 2) L1 st M k sl) : PW G μ rm Q pc L (.ref x :: st) M k sl := by
  intro p e s m args below meth c0 Z H locs ls C hl hR hS
  subst hL
  by_cases h0 : x = 0
  · subst h0
    exact lv_astoreN C.1 C.2.1 hc hl.has hn rfl (fun ls h => kk p e s m args below meth c0 Z H locs _ C (lvL.one (v := .ref 0) (fun _ q => q) h) hR hS)
  · rw [List.map_cons, vj_ref h0]
    exact lv_astore C.1 C.2.1 hc hl.has hn rfl (fun ls h => kk p e s m args below meth c0 Z H locs _ C (lvL.one (v := .ref x) (fun _ q => q) (by rw [vj_ref h0]; exact h)) hR hS)
theorem s_iinc {i : Nat} {n : Int} {x y : Int32} {L1 : List (Option Value)} (hc : cod μ pc (.iinc i n) 3) (hl0 : L[i]? = some (some (.int x))) (hy : Int32.ofInt n = y) (hn : i < μ.2.2.2.1) (hL : st1 L i (.int (x + y)) = L1) (kk : PW G μ rm Q (pc + 3) L1 st M k sl) : PW G μ rm Q pc L st M k sl := by
  intro p e s m args below meth c0 Z H locs ls C hl hR hS
  subst hL
  have h8 : lv_has ls μ.2.2.2.1 ((i, .int x) :: aL G L) := ⟨hl.1, hl.2.1, fun q hq => by
    rcases List.mem_cons.mp hq with h | h
    · rw [h]; exact hl.2.2 _ _ hl0
    · exact hl.has.2.2 q h⟩
  exact lv_iinc (k := 0) C.1 C.2.1 hc h8 rfl (by rw [hy]) hn rfl (fun ls h => kk p e s m args below meth c0 Z H locs _ C (lvL.one (v := .int (x + y)) (fun _ q => List.mem_cons_of_mem _ q) h) hR hS)
/-- as many places as a method has -/
theorem s_pad {L1 : List (Option Value)} (n : Nat) (h : pad L n = L1) (kk : PW G μ rm Q pc L1 st M k sl) : PW G μ rm Q pc L st M k sl := by
  intro p e s m args below meth c0 Z H locs ls C hl hR hS
  subst h
  exact kk p e s m args below meth c0 Z H locs _ C hl.pad hR hS
/-- locals that nobody asks for any more -/
theorem s_drop {L1 : List (Option Value)} (h : ∀ (i : Nat) (v : Value), L1[i]? = some (some v) → L[i]? = some (some v)) (kk : PW G μ rm Q pc L1 st M k sl) : PW G μ rm Q pc L st M k sl := by
  intro p e s m args below meth c0 Z H locs ls C hl hR hS
  exact kk p e s m args below meth c0 Z H locs _ C ⟨hl.1, hl.2.1, fun i v hv => hl.2.2 i v (h i v hv)⟩ hR hS
theorem s_widen {k1 sl1 : Nat} (h1 : k ≤ k1) (h2 : sl ≤ sl1) (kk : PW G μ rm Q pc L st M k1 sl1) : PW G μ rm Q pc L st M k sl := by
  intro p e s m args below meth c0 Z H locs ls C hl hR hS
  exact W.widen h1 h2 (kk p e s m args below meth c0 Z H locs _ C hl hR hS)
theorem s_iadd {x y : Int32} (hc : cod μ pc .iadd 1) (kk : PW G μ rm Q (pc + 1) L (.int (x + y) :: st) M k sl) : PW G μ rm Q pc L (.int y :: .int x :: st) M k sl := by
  intro p e s m args below meth c0 Z H locs ls C hl hR hS
  exact lv_iadd C.1 C.2.1 hc (kk p e s m args below meth c0 Z H locs _ C hl hR hS)
theorem s_ladd {x y : Int64} (hc : cod μ pc .ladd 1) (kk : PW G μ rm Q (pc + 1) L (.long (x + y) :: st) M k sl) : PW G μ rm Q pc L (.long y :: .long x :: st) M k sl := by
  intro p e s m args below meth c0 Z H locs ls C hl hR hS
  exact lv_ladd C.1 C.2.1 hc (kk p e s m args below meth c0 Z H locs _ C hl hR hS)
theorem s_isub {x y : Int32} (hc : cod μ pc .isub 1) (kk : PW G μ rm Q (pc + 1) L (.int (x - y) :: st) M k sl) : PW G μ rm Q pc L (.int y :: .int x :: st) M k sl := by
  intro p e s m args below meth c0 Z H locs ls C hl hR hS
  exact lv_isub C.1 C.2.1 hc (kk p e s m args below meth c0 Z H locs _ C hl hR hS)
theorem s_lsub {x y : Int64} (hc : cod μ pc .lsub 1) (kk : PW G μ rm Q (pc + 1) L (.long (x - y) :: st) M k sl) : PW G μ rm Q pc L (.long y :: .long x :: st) M k sl := by
  intro p e s m args below meth c0 Z H locs ls C hl hR hS
  exact lv_lsub C.1 C.2.1 hc (kk p e s m args below meth c0 Z H locs _ C hl hR hS)
theorem s_imul {x y : Int32} (hc : cod μ pc .imul 1) (kk : PW G μ rm Q (pc + 1) L (.int (x * y) :: st) M k sl) : PW G μ rm Q pc L (.int y :: .int x :: st) M k sl := by
  intro p e s m args below meth c0 Z H locs ls C hl hR hS
  exact lv_imul C.1 C.2.1 hc (kk p e s m args below meth c0 Z H locs _ C hl hR hS)
theorem s_lmul {x y : Int64} (hc : cod μ pc .lmul 1) (kk : PW G μ rm Q (pc + 1) L (.long (x * y) :: st) M k sl) : PW G μ rm Q pc L (.long y :: .long x :: st) M k sl := by
  intro p e s m args below meth c0 Z H locs ls C hl hR hS
  exact lv_lmul C.1 C.2.1 hc (kk p e s m args below meth c0 Z H locs _ C hl hR hS)
theorem s_iand {x y : Int32} (hc : cod μ pc .iand 1) (kk : PW G μ rm Q (pc + 1) L (.int (x &&& y) :: st) M k sl) : PW G μ rm Q pc L (.int y :: .int x :: st) M k sl := by
  intro p e s m args below meth c0 Z H locs ls C hl hR hS
  exact lv_iand C.1 C.2.1 hc (kk p e s m args below meth c0 Z H locs _ C hl hR hS)
theorem s_ior {x y : Int32} (hc : cod μ pc .ior 1) (kk : PW G μ rm Q (pc + 1) L (.int (x ||| y) :: st) M k sl) : PW G μ rm Q pc L (.int y :: .int x :: st) M k sl := by
  intro p e s m args below meth c0 Z H locs ls C hl hR hS
  exact lv_ior C.1 C.2.1 hc (kk p e s m args below meth c0 Z H locs _ C hl hR hS)
theorem s_idiv {x y : Int32} (hc : cod μ pc .idiv 1) (hy : ¬ y = 0) (kk : PW G μ rm Q (pc + 1) L (.int (x / y) :: st) M k sl) : PW G μ rm Q pc L (.int y :: .int x :: st) M k sl := by
  intro p e s m args below meth c0 Z H locs ls C hl hR hS
  exact lv_idiv C.1 C.2.1 hc hy (kk p e s m args below meth c0 Z H locs _ C hl hR hS)
theorem s_ldiv {x y : Int64} (hc : cod μ pc .ldiv 1) (hy : ¬ y = 0) (kk : PW G μ rm Q (pc + 1) L (.long (x / y) :: st) M k sl) : PW G μ rm Q pc L (.long y :: .long x :: st) M k sl := by
  intro p e s m args below meth c0 Z H locs ls C hl hR hS
  exact lv_ldiv C.1 C.2.1 hc hy (kk p e s m args below meth c0 Z H locs _ C hl hR hS)
theorem s_irem {x y : Int32} (hc : cod μ pc .irem 1) (hy : ¬ y = 0) (kk : PW G μ rm Q (pc + 1) L (.int (x - x / y * y) :: st) M k sl) : PW G μ rm Q pc L (.int y :: .int x :: st) M k sl := by
  intro p e s m args below meth c0 Z H locs ls C hl hR hS
  exact lv_irem C.1 C.2.1 hc hy (kk p e s m args below meth c0 Z H locs _ C hl hR hS)
theorem s_lrem {x y : Int64} (hc : cod μ pc .lrem 1) (hy : ¬ y = 0) (kk : PW G μ rm Q (pc + 1) L (.long (x - x / y * y) :: st) M k sl) : PW G μ rm Q pc L (.long y :: .long x :: st) M k sl := by
  intro p e s m args below meth c0 Z H locs ls C hl hR hS
  exact lv_lrem C.1 C.2.1 hc hy (kk p e s m args below meth c0 Z H locs _ C hl hR hS)
theorem s_ineg {x : Int32} (hc : cod μ pc .ineg 1) (kk : PW G μ rm Q (pc + 1) L (.int (-x) :: st) M k sl) : PW G μ rm Q pc L (.int x :: st) M k sl := by
  intro p e s m args below meth c0 Z H locs ls C hl hR hS
  exact lv_ineg C.1 C.2.1 hc (kk p e s m args below meth c0 Z H locs _ C hl hR hS)
theorem s_i2l {x : Int32} (hc : cod μ pc .i2l 1) (kk : PW G μ rm Q (pc + 1) L (.long (x.toInt64) :: st) M k sl) : PW G μ rm Q pc L (.int x :: st) M k sl := by
  intro p e s m args below meth c0 Z H locs ls C hl hR hS
  exact lv_i2l C.1 C.2.1 hc rfl (kk p e s m args below meth c0 Z H locs _ C hl hR hS)
theorem s_l2i {x : Int64} (hc : cod μ pc .l2i 1) (kk : PW G μ rm Q (pc + 1) L (.int (x.toInt32) :: st) M k sl) : PW G μ rm Q pc L (.long x :: st) M k sl := by
  intro p e s m args below meth c0 Z H locs ls C hl hR hS
  exact lv_l2i C.1 C.2.1 hc rfl (kk p e s m args below meth c0 Z H locs _ C hl hR hS)
theorem s_i2b {x : Int32} (hc : cod μ pc .i2b 1) (kk : PW G μ rm Q (pc + 1) L (.int (x.toInt8.toInt32) :: st) M k sl) : PW G μ rm Q pc L (.int x :: st) M k sl := by
  intro p e s m args below meth c0 Z H locs ls C hl hR hS
  exact lv_i2b C.1 C.2.1 hc rfl (kk p e s m args below meth c0 Z H locs _ C hl hR hS)
theorem s_i2s {x : Int32} (hc : cod μ pc .i2s 1) (kk : PW G μ rm Q (pc + 1) L (.int (x.toInt16.toInt32) :: st) M k sl) : PW G μ rm Q pc L (.int x :: st) M k sl := by
  intro p e s m args below meth c0 Z H locs ls C hl hR hS
  exact lv_i2s C.1 C.2.1 hc rfl (kk p e s m args below meth c0 Z H locs _ C hl hR hS)
theorem s_lcmp {x y : Int64} (hc : cod μ pc .lcmp 1) (kk : PW G μ rm Q (pc + 1) L (.int (lg_cmp x y) :: st) M k sl) : PW G μ rm Q pc L (.long y :: .long x :: st) M k sl := by
  intro p e s m args below meth c0 Z H locs ls C hl hR hS
  exact W.lcmp C.1 C.2.1 hc (kk p e s m args below meth c0 Z H locs _ C hl hR hS)
theorem s_dup {v : Value} (hc : cod μ pc .dup 1) (hv : v.category = 1) (kk : PW G μ rm Q (pc + 1) L (v :: v :: st) M k sl) : PW G μ rm Q pc L (v :: st) M k sl := by
  intro p e s m args below meth c0 Z H locs ls C hl hR hS
  exact lv_dup C.1 C.2.1 hc (by rw [vj_cat]; exact hv) (kk p e s m args below meth c0 Z H locs _ C hl hR hS)
theorem s_pop {v : Value} (hc : cod μ pc .pop 1) (hv : v.category = 1) (kk : PW G μ rm Q (pc + 1) L (st) M k sl) : PW G μ rm Q pc L (v :: st) M k sl := by
  intro p e s m args below meth c0 Z H locs ls C hl hR hS
  exact lv_pop C.1 C.2.1 hc (by rw [vj_cat]; exact hv) (kk p e s m args below meth c0 Z H locs _ C hl hR hS)
theorem s_dup2 {v w : Value} (hc : cod μ pc .dup2 1) (hv : v.category = 1) (hw : w.category = 1) (kk : PW G μ rm Q (pc + 1) L (v :: w :: v :: w :: st) M k sl) : PW G μ rm Q pc L (v :: w :: st) M k sl := by
  intro p e s m args below meth c0 Z H locs ls C hl hR hS
  exact lv_dup2_11 C.1 C.2.1 hc (by rw [vj_cat]; exact hv) (by rw [vj_cat]; exact hw) (kk p e s m args below meth c0 Z H locs _ C hl hR hS)
theorem s_if_eq {x : Int32} {off : Int} {tgt : Nat} (hc : cod μ pc (.ifCond .eq off) 3) (ht : (pc : Int) + off = (tgt : Int)) (kt : x = 0 → PW G μ rm Q tgt L st M k sl) (kf : ¬ x = 0 → PW G μ rm Q (pc + 3) L st M k sl) : PW G μ rm Q pc L (.int x :: st) M k sl := by
  intro p e s m args below meth c0 Z H locs ls C hl hR hS
  exact lv_if_eq C.1 C.2.1 hc ht (fun h => kt h p e s m args below meth c0 Z H locs _ C hl hR hS) (fun h => kf h p e s m args below meth c0 Z H locs _ C hl hR hS)
theorem s_icmp_eq {x y : Int32} {off : Int} {tgt : Nat} (hc : cod μ pc (.if_icmp .eq off) 3) (ht : (pc : Int) + off = (tgt : Int)) (kt : x = y → PW G μ rm Q tgt L st M k sl) (kf : ¬ x = y → PW G μ rm Q (pc + 3) L st M k sl) : PW G μ rm Q pc L (.int y :: .int x :: st) M k sl := by
  intro p e s m args below meth c0 Z H locs ls C hl hR hS
  exact lv_icmp_eq C.1 C.2.1 hc ht (fun h => kt h p e s m args below meth c0 Z H locs _ C hl hR hS) (fun h => kf h p e s m args below meth c0 Z H locs _ C hl hR hS)
theorem s_if_ne {x : Int32} {off : Int} {tgt : Nat} (hc : cod μ pc (.ifCond .ne off) 3) (ht : (pc : Int) + off = (tgt : Int)) (kt : ¬ x = 0 → PW G μ rm Q tgt L st M k sl) (kf : x = 0 → PW G μ rm Q (pc + 3) L st M k sl) : PW G μ rm Q pc L (.int x :: st) M k sl := by
  intro p e s m args below meth c0 Z H locs ls C hl hR hS
  exact lv_if_ne C.1 C.2.1 hc ht (fun h => kt h p e s m args below meth c0 Z H locs _ C hl hR hS) (fun h => kf h p e s m args below meth c0 Z H locs _ C hl hR hS)
theorem s_icmp_ne {x y : Int32} {off : Int} {tgt : Nat} (hc : cod μ pc (.if_icmp .ne off) 3) (ht : (pc : Int) + off = (tgt : Int)) (kt : ¬ x = y → PW G μ rm Q tgt L st M k sl) (kf : x = y → PW G μ rm Q (pc + 3) L st M k sl) : PW G μ rm Q pc L (.int y :: .int x :: st) M k sl := by
  intro p e s m args below meth c0 Z H locs ls C hl hR hS
  exact lv_icmp_ne C.1 C.2.1 hc ht (fun h => kt h p e s m args below meth c0 Z H locs _ C hl hR hS) (fun h => kf h p e s m args below meth c0 Z H locs _ C hl hR hS)
theorem s_if_lt {x : Int32} {off : Int} {tgt : Nat} (hc : cod μ pc (.ifCond .lt off) 3) (ht : (pc : Int) + off = (tgt : Int)) (kt : x < 0 → PW G μ rm Q tgt L st M k sl) (kf : ¬ x < 0 → PW G μ rm Q (pc + 3) L st M k sl) : PW G μ rm Q pc L (.int x :: st) M k sl := by
  intro p e s m args below meth c0 Z H locs ls C hl hR hS
  exact lv_if_lt C.1 C.2.1 hc ht (fun h => kt h p e s m args below meth c0 Z H locs _ C hl hR hS) (fun h => kf h p e s m args below meth c0 Z H locs _ C hl hR hS)
theorem s_icmp_lt {x y : Int32} {off : Int} {tgt : Nat} (hc : cod μ pc (.if_icmp .lt off) 3) (ht : (pc : Int) + off = (tgt : Int)) (kt : x < y → PW G μ rm Q tgt L st M k sl) (kf : ¬ x < y → PW G μ rm Q (pc + 3) L st M k sl) : PW G μ rm Q pc L (.int y :: .int x :: st) M k sl := by
  intro p e s m args below meth c0 Z H locs ls C hl hR hS
  exact lv_icmp_lt C.1 C.2.1 hc ht (fun h => kt h p e s m args below meth c0 Z H locs _ C hl hR hS) (fun h => kf h p e s m args below meth c0 Z H locs _ C hl hR hS)
theorem s_if_ge {x : Int32} {off : Int} {tgt : Nat} (hc : cod μ pc (.ifCond .ge off) 3) (ht : (pc : Int) + off = (tgt : Int)) (kt : 0 ≤ x → PW G μ rm Q tgt L st M k sl) (kf : ¬ 0 ≤ x → PW G μ rm Q (pc + 3) L st M k sl) : PW G μ rm Q pc L (.int x :: st) M k sl := by
  intro p e s m args below meth c0 Z H locs ls C hl hR hS
  exact lv_if_ge C.1 C.2.1 hc ht (fun h => kt h p e s m args below meth c0 Z H locs _ C hl hR hS) (fun h => kf h p e s m args below meth c0 Z H locs _ C hl hR hS)
theorem s_icmp_ge {x y : Int32} {off : Int} {tgt : Nat} (hc : cod μ pc (.if_icmp .ge off) 3) (ht : (pc : Int) + off = (tgt : Int)) (kt : y ≤ x → PW G μ rm Q tgt L st M k sl) (kf : ¬ y ≤ x → PW G μ rm Q (pc + 3) L st M k sl) : PW G μ rm Q pc L (.int y :: .int x :: st) M k sl := by
  intro p e s m args below meth c0 Z H locs ls C hl hR hS
  exact lv_icmp_ge C.1 C.2.1 hc ht (fun h => kt h p e s m args below meth c0 Z H locs _ C hl hR hS) (fun h => kf h p e s m args below meth c0 Z H locs _ C hl hR hS)
theorem s_if_gt {x : Int32} {off : Int} {tgt : Nat} (hc : cod μ pc (.ifCond .gt off) 3) (ht : (pc : Int) + off = (tgt : Int)) (kt : 0 < x → PW G μ rm Q tgt L st M k sl) (kf : ¬ 0 < x → PW G μ rm Q (pc + 3) L st M k sl) : PW G μ rm Q pc L (.int x :: st) M k sl := by
  intro p e s m args below meth c0 Z H locs ls C hl hR hS
  exact lv_if_gt C.1 C.2.1 hc ht (fun h => kt h p e s m args below meth c0 Z H locs _ C hl hR hS) (fun h => kf h p e s m args below meth c0 Z H locs _ C hl hR hS)
theorem s_icmp_gt {x y : Int32} {off : Int} {tgt : Nat} (hc : cod μ pc (.if_icmp .gt off) 3) (ht : (pc : Int) + off = (tgt : Int)) (kt : y < x → PW G μ rm Q tgt L st M k sl) (kf : ¬ y < x → PW G μ rm Q (pc + 3) L st M k sl) : PW G μ rm Q pc L (.int y :: .int x :: st) M k sl := by
  intro p e s m args below meth c0 Z H locs ls C hl hR hS
  exact lv_icmp_gt C.1 C.2.1 hc ht (fun h => kt h p e s m args below meth c0 Z H locs _ C hl hR hS) (fun h => kf h p e s m args below meth c0 Z H locs _ C hl hR hS)
theorem s_if_le {x : Int32} {off : Int} {tgt : Nat} (hc : cod μ pc (.ifCond .le off) 3) (ht : (pc : Int) + off = (tgt : Int)) (kt : x ≤ 0 → PW G μ rm Q tgt L st M k sl) (kf : ¬ x ≤ 0 → PW G μ rm Q (pc + 3) L st M k sl) : PW G μ rm Q pc L (.int x :: st) M k sl := by
  intro p e s m args below meth c0 Z H locs ls C hl hR hS
  exact lv_if_le C.1 C.2.1 hc ht (fun h => kt h p e s m args below meth c0 Z H locs _ C hl hR hS) (fun h => kf h p e s m args below meth c0 Z H locs _ C hl hR hS)
theorem s_icmp_le {x y : Int32} {off : Int} {tgt : Nat} (hc : cod μ pc (.if_icmp .le off) 3) (ht : (pc : Int) + off = (tgt : Int)) (kt : x ≤ y → PW G μ rm Q tgt L st M k sl) (kf : ¬ x ≤ y → PW G μ rm Q (pc + 3) L st M k sl) : PW G μ rm Q pc L (.int y :: .int x :: st) M k sl := by
  intro p e s m args below meth c0 Z H locs ls C hl hR hS
  exact lv_icmp_le C.1 C.2.1 hc ht (fun h => kt h p e s m args below meth c0 Z H locs _ C hl hR hS) (fun h => kf h p e s m args below meth c0 Z H locs _ C hl hR hS)
theorem s_goto {off : Int} {tgt : Nat} (hc : cod μ pc (.goto off) 3) (ht : (pc : Int) + off = (tgt : Int)) (kk : PW G μ rm Q tgt L st M k sl) : PW G μ rm Q pc L st M k sl := by
  intro p e s m args below meth c0 Z H locs ls C hl hR hS
  exact lv_goto C.1 C.2.1 hc ht (kk p e s m args below meth c0 Z H locs _ C hl hR hS)
theorem s_ifnull {x : Nat} {off : Int} {tgt : Nat} (hc : cod μ pc (.ifnull off) 3) (ht : (pc : Int) + off = (tgt : Int)) (kt : x = 0 → PW G μ rm Q tgt L st M k sl) (kf : ¬ x = 0 → PW G μ rm Q (pc + 3) L st M k sl) : PW G μ rm Q pc L (.ref x :: st) M k sl := by
  intro p e s m args below meth c0 Z H locs ls C hl hR hS
  by_cases h0 : x = 0
  · have h9 := kt h0 p e s m args below meth c0 Z H locs _ C hl hR hS
    subst h0
    exact lv_ifnullN C.1 C.2.1 hc ht h9
  · have h9 := kf h0 p e s m args below meth c0 Z H locs _ C hl hR hS
    rw [List.map_cons, vj_ref h0]
    exact lv_ifnull C.1 C.2.1 hc h9
theorem s_ifnonnull {x : Nat} {off : Int} {tgt : Nat} (hc : cod μ pc (.ifnonnull off) 3) (ht : (pc : Int) + off = (tgt : Int)) (kt : ¬ x = 0 → PW G μ rm Q tgt L st M k sl) (kf : x = 0 → PW G μ rm Q (pc + 3) L st M k sl) : PW G μ rm Q pc L (.ref x :: st) M k sl := by
  intro p e s m args below meth c0 Z H locs ls C hl hR hS
  by_cases h0 : x = 0
  · have h9 := kf h0 p e s m args below meth c0 Z H locs _ C hl hR hS
    subst h0
    exact lv_ifnonnullN C.1 C.2.1 hc h9
  · have h9 := kt h0 p e s m args below meth c0 Z H locs _ C hl hR hS
    rw [List.map_cons, vj_ref h0]
    exact lv_ifnonnull C.1 C.2.1 hc ht h9
theorem s_tsOut {dflt lo hi : Int} {offs : Array Int} {len : Nat} {x : Int32} {tgt : Nat} (hc : cod μ pc (.tableswitch dflt lo hi offs) len) (h : x.toInt < lo ∨ hi < x.toInt) (ht : (pc : Int) + dflt = (tgt : Int)) (kk : PW G μ rm Q tgt L st M k sl) : PW G μ rm Q pc L (.int x :: st) M k sl := by
  intro p e s m args below meth c0 Z H locs ls C hl hR hS
  exact lv_tableOut C.1 C.2.1 hc h ht (kk p e s m args below meth c0 Z H locs _ C hl hR hS)
theorem s_tsIn {dflt lo hi : Int} {offs : Array Int} {len : Nat} {x : Int32} {off : Int} {tgt : Nat} (hc : cod μ pc (.tableswitch dflt lo hi offs) len) (h1 : ¬ x.toInt < lo) (h2 : ¬ hi < x.toInt) (ho : offs[(x.toInt - lo).toNat]? = some off) (ht : (pc : Int) + off = (tgt : Int)) (kk : PW G μ rm Q tgt L st M k sl) : PW G μ rm Q pc L (.int x :: st) M k sl := by
  intro p e s m args below meth c0 Z H locs ls C hl hR hS
  exact lv_tableIn C.1 C.2.1 hc h1 h2 ho ht (kk p e s m args below meth c0 Z H locs _ C hl hR hS)
theorem s_ls {dflt : Int} {ps : Array (Int × Int)} {len : Nat} {x : Int32} {off : Int} {tgt : Nat} (hc : cod μ pc (.lookupswitch dflt ps) len) (hp : (ps.toList.zip (ps.toList.drop 1)).all (fun (a, next) => a.1 < next.1) = true) (ho : Op.lookupswitch.offset ps.toList dflt x.toInt = off) (ht : (pc : Int) + off = (tgt : Int)) (kk : PW G μ rm Q tgt L st M k sl) : PW G μ rm Q pc L (.int x :: st) M k sl := by
  intro p e s m args below meth c0 Z H locs ls C hl hR hS
  exact lv_lookup C.1 C.2.1 hc hp ho ht (kk p e s m args below meth c0 Z H locs _ C hl hR hS)
theorem s_ret {v : Option Value} (hret : retI μ pc v) (hk : k ≤ rm.cells) (hs : sl ≤ rm.slots) (h : Q v M) : PW G μ rm Q pc L v.toList M k sl := by
  intro p e s m args below meth c0 Z H locs ls C hl hR hS
  exact C.2.2.2.2.2.2.2.2.2 H locs ls pc v M k sl hR hS h hk hs hret
theorem s_ireturn {x : Int32} (hc : cod μ pc .ireturn 1) (hr : μ.2.2.2.2 = some .int) (hk : k ≤ rm.cells) (hs : sl ≤ rm.slots) (h : Q (some (.int x)) M) : PW G μ rm Q pc L [.int x] M k sl := s_ret (v := some (.int x)) ⟨hc, Or.inl hr⟩ hk hs h
theorem s_zreturn {x : Int32} (hc : cod μ pc .ireturn 1) (hr : μ.2.2.2.2 = some .boolean) (h01 : x = 0 ∨ x = 1) (hk : k ≤ rm.cells) (hs : sl ≤ rm.slots) (h : Q (some (.int x)) M) : PW G μ rm Q pc L [.int x] M k sl := s_ret (v := some (.int x)) ⟨hc, Or.inr ⟨hr, h01⟩⟩ hk hs h
theorem s_lreturn {x : Int64} (hc : cod μ pc .lreturn 1) (hr : μ.2.2.2.2 = some .long) (hk : k ≤ rm.cells) (hs : sl ≤ rm.slots) (h : Q (some (.long x)) M) : PW G μ rm Q pc L [.long x] M k sl := s_ret (v := some (.long x)) ⟨hc, hr⟩ hk hs h
theorem s_areturn {x : Nat} {n : String} (hc : cod μ pc .areturn 1) (hr : μ.2.2.2.2 = some (.object n)) (hk : k ≤ rm.cells) (hs : sl ≤ rm.slots) (h : Q (some (.ref x)) M) : PW G μ rm Q pc L [.ref x] M k sl := s_ret (v := some (.ref x)) ⟨hc, n, hr⟩ hk hs h
theorem s_return (hc : cod μ pc .return_ 1) (hr : μ.2.2.2.2 = none) (hk : k ≤ rm.cells) (hs : sl ≤ rm.slots) (h : Q none M) : PW G μ rm Q pc L [] M k sl := s_ret (v := none) ⟨hc, hr⟩ hk hs h
theorem s_getI {idx c f a : Nat} (hc : cod μ pc (.getfield idx) 3) (hf : FldOK μ.1 idx c f) (hi : isI (fT c f) = true) (hk : mK M a = c + 1) (kk : PW G μ rm Q (pc + 3) L (.int (mI M a f) :: st) M k sl) : PW G μ rm Q pc L (.ref a :: st) M k sl := by
  intro p e s m args below meth c0 Z H locs ls C hl hR hS
  rw [List.map_cons, vj_ref (show a ≠ 0 by have := (hR.in (a := a) (by omega)).1; omega)]
  exact w_get C hR hf hk hc (by rw [fv_I hi]; exact kk p e s m args below meth c0 Z H locs _ C hl hR hS)
theorem s_getJ {idx c f a : Nat} (hc : cod μ pc (.getfield idx) 3) (hf : FldOK μ.1 idx c f) (hi : fT c f = .long) (hk : mK M a = c + 1) (kk : PW G μ rm Q (pc + 3) L (.long (mJ M a f) :: st) M k sl) : PW G μ rm Q pc L (.ref a :: st) M k sl := by
  intro p e s m args below meth c0 Z H locs ls C hl hR hS
  rw [List.map_cons, vj_ref (show a ≠ 0 by have := (hR.in (a := a) (by omega)).1; omega)]
  exact w_get C hR hf hk hc (by rw [fv_J hi]; exact kk p e s m args below meth c0 Z H locs _ C hl hR hS)
theorem s_getR {idx c f a : Nat} (hc : cod μ pc (.getfield idx) 3) (hf : FldOK μ.1 idx c f) (hi : isR (fT c f) = true) (hk : mK M a = c + 1) (kk : PW G μ rm Q (pc + 3) L (.ref (mR M a f) :: st) M k sl) : PW G μ rm Q pc L (.ref a :: st) M k sl := by
  intro p e s m args below meth c0 Z H locs ls C hl hR hS
  rw [List.map_cons, vj_ref (show a ≠ 0 by have := (hR.in (a := a) (by omega)).1; omega)]
  exact w_get C hR hf hk hc (by rw [fv_R hi]; exact kk p e s m args below meth c0 Z H locs _ C hl hR hS)
theorem up2_ne {α : Type} {f : Nat → Nat → α} {a k : Nat} {v : α} {b : Nat} (h : b ≠ a) : up2 f a k v b = f b := by
  funext j
  simp [up2, h]
theorem up1_ne {α : Type} {f : Nat → α} {a : Nat} {v : α} {b : Nat} (h : b ≠ a) : up1 f a v b = f b := if_neg h
theorem up2_eq {α : Type} {f : Nat → Nat → α} {a k : Nat} {v : α} {j : Nat} : up2 f a k v a j = if j = k then v else f a j := if_pos rfl
def FinOK (μ : MD) (c f : Nat) : Prop := (clT c f).2.2.2 = false ∨ ((clT c f).1 = μ.1 ∧ (μ.2.2.1.name == "<init>") = true)
theorem s_putI {idx c f a : Nat} {x : Int32} (hc : cod μ pc (.putfield idx) 3) (hf : FldOK μ.1 idx c f) (hfin : FinOK μ c f) (hi : fT c f = .int ∨ (fT c f = .boolean ∧ (x = 0 ∨ x = 1))) (hk : mK M a = c + 1) (kk : PW G μ rm Q (pc + 3) L st (uI M a f x) k sl) : PW G μ rm Q pc L (.int x :: .ref a :: st) M k sl := by
  intro p e s m args below meth c0 Z H locs ls C hl hR hS
  rw [List.map_cons, List.map_cons, vj_ref (show a ≠ 0 by have := (hR.in (a := a) (by omega)).1; omega)]
  refine w_put (M' := uI M a f x) (v := .int x) C hR hS hf hfin hk rfl rfl rfl (fun b hb => up2_ne hb) (fun _ _ => rfl) (fun _ _ => rfl) (fun j hj => ?_) ?_ ?_ hc (fun H1 locs1 hR1 hS1 => kk p e s m args below meth c0 Z H1 locs1 _ C hl hR1 hS1)
  · unfold updV
    by_cases h : j = f
    · subst h
      have h8 : isI (fT c j) = true := by rcases hi with h | h <;> (first | rw [h] | rw [h.1]) <;> rfl
      rw [if_pos rfl, fv_I h8]
      show _ = Value.int (up2 (mI M) a j x a j)
      rw [up2_eq, if_pos rfl]
    · rw [if_neg h]
      unfold fv
      generalize fT c j = ty
      cases ty <;> first | rfl | (show Value.int _ = Value.int (up2 (mI M) a f x a j); rw [up2_eq, if_neg h])
  · rcases hi with h | ⟨h, h1 | h1⟩
    · rw [h]; rfl
    · rw [h, h1]; rfl
    · rw [h, h1]; rfl
  · rcases hi with h | ⟨h, h1 | h1⟩
    · rw [h]; rfl
    · rw [h, h1]; rfl
    · rw [h, h1]; rfl
theorem s_putJ {idx c f a : Nat} {x : Int64} (hc : cod μ pc (.putfield idx) 3) (hf : FldOK μ.1 idx c f) (hfin : FinOK μ c f) (hi : fT c f = .long) (hk : mK M a = c + 1) (kk : PW G μ rm Q (pc + 3) L st (uJ M a f x) k sl) : PW G μ rm Q pc L (.long x :: .ref a :: st) M k sl := by
  intro p e s m args below meth c0 Z H locs ls C hl hR hS
  rw [List.map_cons, List.map_cons, vj_ref (show a ≠ 0 by have := (hR.in (a := a) (by omega)).1; omega)]
  refine w_put (M' := uJ M a f x) (v := .long x) C hR hS hf hfin hk rfl rfl rfl (fun _ _ => rfl) (fun b hb => up2_ne hb) (fun _ _ => rfl) (fun j hj => ?_) (by rw [hi]; rfl) (by rw [hi]; rfl) hc (fun H1 locs1 hR1 hS1 => kk p e s m args below meth c0 Z H1 locs1 _ C hl hR1 hS1)
  unfold updV
  by_cases h : j = f
  · subst h
    rw [if_pos rfl, fv_J hi]
    show _ = Value.long (up2 (mJ M) a j x a j)
    rw [up2_eq, if_pos rfl]
  · rw [if_neg h]
    unfold fv
    generalize fT c j = ty
    cases ty <;> first | rfl | (show Value.long _ = Value.long (up2 (mJ M) a f x a j); rw [up2_eq, if_neg h])
theorem s_putR {idx c f a x : Nat} (hc : cod μ pc (.putfield idx) 3) (hf : FldOK μ.1 idx c f) (hfin : FinOK μ c f) (hi : isR (fT c f) = true) (hk : mK M a = c + 1) (kk : PW G μ rm Q (pc + 3) L st (uR M a f x) k sl) : PW G μ rm Q pc L (.ref x :: .ref a :: st) M k sl := by
  intro p e s m args below meth c0 Z H locs ls C hl hR hS
  rw [List.map_cons, List.map_cons, vj_ref (a := a) (show a ≠ 0 by have := (hR.in (a := a) (by omega)).1; omega)]
  refine w_put (M' := uR M a f x) (v := vj G (.ref x)) C hR hS hf hfin hk rfl rfl rfl (fun _ _ => rfl) (fun _ _ => rfl) (fun b hb => up2_ne hb) (fun j hj => ?_) ?_ ?_ hc (fun H1 locs1 hR1 hS1 => kk p e s m args below meth c0 Z H1 locs1 _ C hl hR1 hS1)
  · unfold updV
    by_cases h : j = f
    · subst h
      rw [if_pos rfl, fv_R hi]
      show _ = vj G (.ref (up2 (mR M) a j x a j))
      rw [up2_eq, if_pos rfl]
    · rw [if_neg h]
      unfold fv
      generalize fT c j = ty
      cases ty <;> first | rfl | (show vj G (.ref _) = vj G (.ref (up2 (mR M) a f x a j)); rw [up2_eq, if_neg h])
  · generalize fT c f = ty at hi ⊢
    by_cases h0 : x = 0
    · subst h0; cases ty <;> first | rfl | (simp [isR] at hi)
    · rw [vj_ref h0]; cases ty <;> first | rfl | (simp [isR] at hi)
  · generalize fT c f = ty at hi ⊢
    by_cases h0 : x = 0
    · subst h0; cases ty <;> first | rfl | (simp [isR] at hi)
    · rw [vj_ref h0]; cases ty <;> first | rfl | (simp [isR] at hi)
theorem s_ial {a : Nat} {i : Int32} (hc : cod μ pc .iaload 1) (hk : mK M a = 20 + 0) (hin : vp_in i (mN M a)) (kk : PW G μ rm Q (pc + 1) L (.int (mI M a i.toNatClampNeg) :: st) M k sl) : PW G μ rm Q pc L (.int i :: .ref a :: st) M k sl := by
  intro p e s m args below meth c0 Z H locs ls C hl hR hS
  have h0 : mK M a ≠ 0 := by omega
  rw [List.map_cons, List.map_cons, vj_ref (show a ≠ 0 by have := (hR.in h0).1; omega)]
  have hcell := (hR.2.2.2 a).2 0 (by omega) hk
  have hty := (C.2.2.2.2.2.1.2.1 0 (by omega)).1
  have hlt : i.toNatClampNeg < mN M a := Nat.not_le.mp fun q => hin (Or.inr q)
  exact W.iald (v := .int (mI M a i.toNatClampNeg)) C.1 C.2.1 hcell (hty _ _) (fun q => by cases q) (by rw [arrV_size]; exact hin) (by rw [arrV_read _ _ hlt]; rfl) rfl rfl hc (kk p e s m args below meth c0 Z H locs _ C hl hR hS)
theorem s_lal {a : Nat} {i : Int32} (hc : cod μ pc .laload 1) (hk : mK M a = 20 + 1) (hin : vp_in i (mN M a)) (kk : PW G μ rm Q (pc + 1) L (.long (mJ M a i.toNatClampNeg) :: st) M k sl) : PW G μ rm Q pc L (.int i :: .ref a :: st) M k sl := by
  intro p e s m args below meth c0 Z H locs ls C hl hR hS
  have h0 : mK M a ≠ 0 := by omega
  rw [List.map_cons, List.map_cons, vj_ref (show a ≠ 0 by have := (hR.in h0).1; omega)]
  have hcell := (hR.2.2.2 a).2 1 (by omega) hk
  have hty := (C.2.2.2.2.2.1.2.1 1 (by omega)).1
  have hlt : i.toNatClampNeg < mN M a := Nat.not_le.mp fun q => hin (Or.inr q)
  exact W.lald (v := .long (mJ M a i.toNatClampNeg)) C.1 C.2.1 hcell (hty _ _) (fun q => by cases q) (by rw [arrV_size]; exact hin) (by rw [arrV_read _ _ hlt]; rfl) rfl rfl hc (kk p e s m args below meth c0 Z H locs _ C hl hR hS)
theorem s_zal {a : Nat} {i : Int32} (hc : cod μ pc .baload 1) (hk : mK M a = 20 + 2) (hin : vp_in i (mN M a)) (kk : PW G μ rm Q (pc + 1) L (.int (mI M a i.toNatClampNeg) :: st) M k sl) : PW G μ rm Q pc L (.int i :: .ref a :: st) M k sl := by
  intro p e s m args below meth c0 Z H locs ls C hl hR hS
  have h0 : mK M a ≠ 0 := by omega
  rw [List.map_cons, List.map_cons, vj_ref (show a ≠ 0 by have := (hR.in h0).1; omega)]
  have hcell := (hR.2.2.2 a).2 2 (by omega) hk
  have hty := (C.2.2.2.2.2.1.2.1 2 (by omega)).1
  have hlt : i.toNatClampNeg < mN M a := Nat.not_le.mp fun q => hin (Or.inr q)
  exact W.zald (v := .int (mI M a i.toNatClampNeg)) C.1 C.2.1 hcell (hty _ _) (fun q => by cases q) (by rw [arrV_size]; exact hin) (by rw [arrV_read _ _ hlt]; rfl) rfl rfl hc (kk p e s m args below meth c0 Z H locs _ C hl hR hS)
theorem s_aal {a t : Nat} {i : Int32} (hc : cod μ pc .aaload 1) (ht3 : 3 ≤ t) (ht6 : t < 6) (hk : mK M a = 20 + t) (hin : vp_in i (mN M a)) (kk : PW G μ rm Q (pc + 1) L (.ref (mR M a i.toNatClampNeg) :: st) M k sl) : PW G μ rm Q pc L (.int i :: .ref a :: st) M k sl := by
  intro p e s m args below meth c0 Z H locs ls C hl hR hS
  have h0 : mK M a ≠ 0 := by omega
  rw [List.map_cons, List.map_cons, vj_ref (show a ≠ 0 by have := (hR.in h0).1; omega)]
  have hcell := (hR.2.2.2 a).2 t (by omega) hk
  have hty := (C.2.2.2.2.2.1.2.1 t (by omega)).1
  have hlt : i.toNatClampNeg < mN M a := Nat.not_le.mp fun q => hin (Or.inr q)
  have hrf : (ATy t).isReference = true := by
    match t, ht3, ht6 with
    | 3, _, _ => rfl
    | 4, _, _ => rfl
    | 5, _, _ => rfl
    | n + 6, _, h => exact absurd h (by omega)
  have hav : av G M t a i.toNatClampNeg = vj G (.ref (mR M a i.toNatClampNeg)) := by
    match t, ht3, ht6 with
    | 3, _, _ => rfl
    | 4, _, _ => rfl
    | 5, _, _ => rfl
    | n + 6, _, h => exact absurd h (by omega)
  exact W.aald (v := vj G (.ref (mR M a i.toNatClampNeg))) (ty := ATy t) C.1 C.2.1 hcell (hty _ _) hrf (fun q => by cases q) (by rw [arrV_size]; exact hin) (by rw [arrV_read _ _ hlt, hav]) rfl rfl hc (kk p e s m args below meth c0 Z H locs _ C hl hR hS)
theorem s_ias {a : Nat} {i : Int32} {x : Int32} (hc : cod μ pc .iastore 1) (hk : mK M a = 20 + 0) (hin : vp_in i (mN M a)) (kk : PW G μ rm Q (pc + 1) L st (uI M a i.toNatClampNeg x) k sl) : PW G μ rm Q pc L (.int x :: .int i :: .ref a :: st) M k sl := by
  intro p e s m args below meth c0 Z H locs ls C hl hR hS
  have h0 : mK M a ≠ 0 := by omega
  rw [List.map_cons, List.map_cons, List.map_cons, vj_ref (show a ≠ 0 by have := (hR.in h0).1; omega)]
  have hcell := (hR.2.2.2 a).2 0 (by omega) hk
  have hty := (C.2.2.2.2.2.1.2.1 0 (by omega)).1
  have hlt : i.toNatClampNeg < mN M a := Nat.not_le.mp fun q => hin (Or.inr q)
  refine W.iast C.1 C.2.1 hcell (hty _ _) (fun q => by cases q) (by rw [arrV_size]; exact hin) rfl rfl hc (fun H1 e1 z oq => ?_)
  refine kk p e s m args below meth c0 Z H1 _ _ C hl (hR.put h0 rfl rfl rfl (fun b hb => up2_ne hb) (fun _ _ => rfl) (fun _ _ => rfl) z oq ⟨fun c hc9 hkc => ?_, fun t9 ht9 hkt => ?_⟩) (hS.put z oq ?_)
  · have hkc : mK M a = c + 1 := hkc
    omega
  · have hkt : mK M a = 20 + t9 := hkt
    have : t9 = 0 := by omega
    subst this
    rw [e1, arrV_store]
    refine congrArg some (congrArg (arrV _ _) (funext fun q => ?_))
    show updV _ _ _ q = Value.int (up2 (mI M) a i.toNatClampNeg x a q)
    rw [up2_eq]
    unfold updV
    by_cases hq : q = i.toNatClampNeg
    · rw [if_pos hq, if_pos hq]
    · rw [if_neg hq, if_neg hq]; rfl
  · have := (hR.in h0).1
    rw [ad_eq this]
    exact Nat.le_add_right _ _
theorem s_zas {a : Nat} {i : Int32} {x : Int32} (hc : cod μ pc .bastore 1) (hk : mK M a = 20 + 2) (hin : vp_in i (mN M a)) (kk : PW G μ rm Q (pc + 1) L st (uI M a i.toNatClampNeg (vp_nar .boolean x)) k sl) : PW G μ rm Q pc L (.int x :: .int i :: .ref a :: st) M k sl := by
  intro p e s m args below meth c0 Z H locs ls C hl hR hS
  have h0 : mK M a ≠ 0 := by omega
  rw [List.map_cons, List.map_cons, List.map_cons, vj_ref (show a ≠ 0 by have := (hR.in h0).1; omega)]
  have hcell := (hR.2.2.2 a).2 2 (by omega) hk
  have hty := (C.2.2.2.2.2.1.2.1 2 (by omega)).1
  have hlt : i.toNatClampNeg < mN M a := Nat.not_le.mp fun q => hin (Or.inr q)
  refine W.zast C.1 C.2.1 hcell (hty _ _) (fun q => by cases q) (by rw [arrV_size]; exact hin) rfl rfl hc (fun H1 e1 z oq => ?_)
  refine kk p e s m args below meth c0 Z H1 _ _ C hl (hR.put h0 rfl rfl rfl (fun b hb => up2_ne hb) (fun _ _ => rfl) (fun _ _ => rfl) z oq ⟨fun c hc9 hkc => ?_, fun t9 ht9 hkt => ?_⟩) (hS.put z oq ?_)
  · have hkc : mK M a = c + 1 := hkc
    omega
  · have hkt : mK M a = 20 + t9 := hkt
    have : t9 = 2 := by omega
    subst this
    rw [e1, arrV_store]
    refine congrArg some (congrArg (arrV _ _) (funext fun q => ?_))
    show updV _ _ _ q = Value.int (up2 (mI M) a i.toNatClampNeg (vp_nar .boolean x) a q)
    rw [up2_eq]
    unfold updV
    by_cases hq : q = i.toNatClampNeg
    · rw [if_pos hq, if_pos hq]; rfl
    · rw [if_neg hq, if_neg hq]; rfl
  · have := (hR.in h0).1
    rw [ad_eq this]
    exact Nat.le_add_right _ _
theorem s_las {a : Nat} {i : Int32} {x : Int64} (hc : cod μ pc .lastore 1) (hk : mK M a = 20 + 1) (hin : vp_in i (mN M a)) (kk : PW G μ rm Q (pc + 1) L st (uJ M a i.toNatClampNeg x) k sl) : PW G μ rm Q pc L (.long x :: .int i :: .ref a :: st) M k sl := by
  intro p e s m args below meth c0 Z H locs ls C hl hR hS
  have h0 : mK M a ≠ 0 := by omega
  rw [List.map_cons, List.map_cons, List.map_cons, vj_ref (show a ≠ 0 by have := (hR.in h0).1; omega)]
  have hcell := (hR.2.2.2 a).2 1 (by omega) hk
  have hty := (C.2.2.2.2.2.1.2.1 1 (by omega)).1
  have hlt : i.toNatClampNeg < mN M a := Nat.not_le.mp fun q => hin (Or.inr q)
  refine W.last C.1 C.2.1 hcell (hty _ _) (fun q => by cases q) (by rw [arrV_size]; exact hin) rfl rfl hc (fun H1 e1 z oq => ?_)
  refine kk p e s m args below meth c0 Z H1 _ _ C hl (hR.put h0 rfl rfl rfl (fun _ _ => rfl) (fun b hb => up2_ne hb) (fun _ _ => rfl) z oq ⟨fun c hc9 hkc => ?_, fun t9 ht9 hkt => ?_⟩) (hS.put z oq ?_)
  · have hkc : mK M a = c + 1 := hkc
    omega
  · have hkt : mK M a = 20 + t9 := hkt
    have : t9 = 1 := by omega
    subst this
    rw [e1, arrV_store]
    refine congrArg some (congrArg (arrV _ _) (funext fun q => ?_))
    show updV _ _ _ q = Value.long (up2 (mJ M) a i.toNatClampNeg x a q)
    rw [up2_eq]
    unfold updV
    by_cases hq : q = i.toNatClampNeg
    · rw [if_pos hq, if_pos hq]
    · rw [if_neg hq, if_neg hq]; rfl
  · have := (hR.in h0).1
    rw [ad_eq this]
    exact Nat.le_add_right _ _
/-- a row of objects: the kind of the row, the class of what is put in -/
def asOK (t c : Nat) : Prop := (t = 3 ∧ c = 9) ∨ (t = 4 ∧ c = 4)
theorem s_aas {a x t c : Nat} {i : Int32} (hc : cod μ pc .aastore 1) (htc : asOK t c) (hk : mK M a = 20 + t) (hkx : mK M x = c + 1) (hin : vp_in i (mN M a)) (kk : PW G μ rm Q (pc + 1) L st (uR M a i.toNatClampNeg x) k sl) : PW G μ rm Q pc L (.ref x :: .int i :: .ref a :: st) M k sl := by
  intro p e s m args below meth c0 Z H locs ls C hl hR hS
  have h0 : mK M a ≠ 0 := by omega
  have hx0 : mK M x ≠ 0 := by omega
  have ht6 : t < 6 := by rcases htc with ⟨h, -⟩ | ⟨h, -⟩ <;> omega
  have hc14 : c < 14 := by rcases htc with ⟨-, h⟩ | ⟨-, h⟩ <;> omega
  rw [List.map_cons, List.map_cons, List.map_cons, vj_ref (a := a) (show a ≠ 0 by have := (hR.in h0).1; omega), vj_ref (a := x) (show x ≠ 0 by have := (hR.in hx0).1; omega)]
  have hcell := (hR.2.2.2 a).2 t ht6 hk
  obtain ⟨cellV, g1, g2, g3, -⟩ := (hR.2.2.2 x).1 c hc14 hkx
  have hcls := (C.2.2.2.2.2.1.1 c hc14).2
  have hra := (C.2.2.2.2.2.1.2.1 t ht6).2
  have hATy : ATy t = .object (clR c) := by rcases htc with ⟨rfl, rfl⟩ | ⟨rfl, rfl⟩ <;> rfl
  rw [hATy] at hra
  obtain ⟨kA, comp, k1, k2, k3, -⟩ := hra
  have hcomp : comp = G.2.1.1 c := Option.some.inj (k3.symm.trans hcls.1)
  subst hcomp
  obtain ⟨kC, hkC, -⟩ := hcls.2
  have hlt : i.toNatClampNeg < mN M a := Nat.not_le.mp fun q => hin (Or.inr q)
  have hi0 : ¬ i < 0 := fun q => hin (Or.inl q)
  refine W.aast C.1 C.2.1 hcell (fun q h => by cases h) (fun h => by cases h) k1 k2 rfl hkC ⟨hi0, by rw [arrV_size]; exact hlt⟩ g1 (fun q h => by rw [g3] at h; cases h) (by rw [g2]; exact hkC) (by rw [g2]; exact va_assign hcls) rfl rfl hc (fun H1 e1 z oq => ?_)
  refine kk p e s m args below meth c0 Z H1 _ _ C hl (hR.put h0 rfl rfl rfl (fun _ _ => rfl) (fun _ _ => rfl) (fun b hb => up2_ne hb) z oq ⟨fun c9 hc9 hkc => ?_, fun t9 ht9 hkt => ?_⟩) (hS.put z oq ?_)
  · have hkc : mK M a = c9 + 1 := hkc
    omega
  · have hkt : mK M a = 20 + t9 := hkt
    have : t9 = t := by omega
    subst this
    rw [e1, arrV_store]
    refine congrArg some (congrArg (arrV _ _) (funext fun q => ?_))
    have hx9 : x ≠ 0 := by have := (hR.in hx0).1; omega
    have hav : ∀ (M9 : Mem) (j : Nat), av G M9 t9 a j = vj G (.ref (mR M9 a j)) := by
      intro M9 j
      rcases htc with ⟨rfl, -⟩ | ⟨rfl, -⟩ <;> rfl
    rw [hav]
    show updV _ _ _ q = vj G (.ref (up2 (mR M) a i.toNatClampNeg x a q))
    rw [up2_eq]
    unfold updV
    by_cases hq : q = i.toNatClampNeg
    · rw [if_pos hq, if_pos hq, vj_ref hx9]
    · rw [if_neg hq, if_neg hq, hav]
  · have := (hR.in h0).1
    rw [ad_eq this]
    exact Nat.le_add_right _ _
theorem s_alen {a t : Nat} {v : Int32} (hc : cod μ pc .arraylength 1) (ht : t < 6) (hk : mK M a = 20 + t) (hv : Int32.ofNat (mN M a) = v) (kk : PW G μ rm Q (pc + 1) L (.int v :: st) M k sl) : PW G μ rm Q pc L (.ref a :: st) M k sl := by
  intro p e s m args below meth c0 Z H locs ls C hl hR hS
  have h0 : mK M a ≠ 0 := by omega
  rw [List.map_cons, vj_ref (show a ≠ 0 by have := (hR.in h0).1; omega)]
  have hcell := (hR.2.2.2 a).2 t ht hk
  have hty := (C.2.2.2.2.2.1.2.1 t ht).1
  exact W.alen (n := v) C.1 C.2.1 hcell (hty _ _) (by rw [arrV_size]; exact hv) rfl rfl hc (kk p e s m args below meth c0 Z H locs _ C hl hR hS)
/-- the script, in the law alone -/
theorem s_sld {i : Int32} (hlaw : (μ.2.2.1.name == "law") = true) (hc : cod μ pc .iaload 1) (hin : vp_in i G.2.2.2.2.2.1) (kk : PW G μ rm Q (pc + 1) L (.int (G.2.2.2.2.2.2 i.toNatClampNeg) :: st) M k sl) : PW G μ rm Q pc L (.int i :: .ref 1 :: st) M k sl := by
  intro p e s m args below meth c0 Z H locs ls C hl hR hS
  obtain ⟨hX, hb⟩ := C.2.2.2.2.2.2.2.2.1.1 hlaw
  exact va_sld C.1 C.2.1 hX (Nat.lt_of_lt_of_le hb C.2.2.2.2.2.2.1) (fun q => absurd (show G.2.2.2.1 ≤ G.2.2.2.2.1 from q) (by omega)) hS hin hc (kk p e s m args below meth c0 Z H locs _ C hl hR hS)
theorem s_slen (hlaw : (μ.2.2.1.name == "law") = true) (hc : cod μ pc .arraylength 1) (kk : PW G μ rm Q (pc + 1) L (.int (Int32.ofNat G.2.2.2.2.2.1) :: st) M k sl) : PW G μ rm Q pc L (.ref 1 :: st) M k sl := by
  intro p e s m args below meth c0 Z H locs ls C hl hR hS
  obtain ⟨hX, hb⟩ := C.2.2.2.2.2.2.2.2.1.1 hlaw
  exact va_slen C.1 C.2.1 hX (Nat.lt_of_lt_of_le hb C.2.2.2.2.2.2.1) (fun q => absurd (show G.2.2.2.1 ≤ G.2.2.2.2.1 from q) (by omega)) hS hc (kk p e s m args below meth c0 Z H locs _ C hl hR hS)
theorem cl_def {c : Nat} (hc : c < 14) : ∀ j, j < clN c → ∀ (G : GG) (M : Mem) (a : Nat), mI M a = (fun _ => 0) → mJ M a = (fun _ => 0) → mR M a = (fun _ => 0) → defaultValue (fT c j) = fv G M c a j := by
  intro j hj G M a h1 h2 h3
  have ok : isI (fT c j) = true ∨ fT c j = .long ∨ isR (fT c j) = true := by
    have : ∀ c, c < 14 → ∀ j, j < clN c → (isI (fT c j) || (fT c j == .long) || isR (fT c j)) = true := by decide +kernel
    have := this c hc j hj
    simp only [Bool.or_eq_true, beq_iff_eq] at this
    rcases this with (h | h) | h
    · exact Or.inl h
    · exact Or.inr (Or.inl h)
    · exact Or.inr (Or.inr h)
  rcases ok with h | h | h
  · rw [fv_I h, h1]
    generalize fT c j = ty at h ⊢
    cases ty <;> first | rfl | (simp [isI] at h)
  · rw [fv_J h, h2, h]; rfl
  · rw [fv_R h, h3]
    generalize fT c j = ty at h ⊢
    cases ty <;> first | rfl | (simp [isR] at h)
theorem nw_I {M : Mem} {kd n : Nat} : mI (nw M kd n) (mT M) = fun _ => 0 := if_pos rfl
theorem nw_J {M : Mem} {kd n : Nat} : mJ (nw M kd n) (mT M) = fun _ => 0 := if_pos rfl
theorem nw_R {M : Mem} {kd n : Nat} : mR (nw M kd n) (mT M) = fun _ => 0 := if_pos rfl
theorem nw_K {M : Mem} {kd n : Nat} : mK (nw M kd n) (mT M) = kd := if_pos rfl
theorem nw_N {M : Mem} {kd n : Nat} : mN (nw M kd n) (mT M) = n := if_pos rfl
def NewOK (own : String) (idx c : Nat) : Prop := c < 14 ∧ Cond.classLink own idx (clR c) ∈ gT ∧ Cond.instantiable (clR c) (clN c) ∈ gT ∧ Cond.initialized (clR c) ∈ gT
theorem s_new {idx c n : Nat} (hc : cod μ pc (.new idx) 3) (hn : NewOK μ.1 idx c) (hN : clN c = n) (hk : k + 1 ≤ rm.cells) (hs : sl + n ≤ rm.slots) (kk : PW G μ rm Q (pc + 3) L (.ref (mT M) :: st) (nw M (c + 1) 0) (k + 1) (sl + n)) : PW G μ rm Q pc L st M k sl := by
  intro p e s m args below meth c0 Z H locs ls C hl hR hS
  subst hN
  obtain ⟨hc14, h1, h2, h3⟩ := hn
  have hKn := C.2.2.2.2.2.1.1 c hc14
  have hts := C.2.2.2.2.1
  refine W.newcK C.1 C.2.1 C.2.2.2.1 (hts _ h1) (hts _ h2) (hts _ h3) rfl hc hk hs hKn.2.1 rfl (fun H1 kC hkC e1 z1 o1 => ?_)
  have h9 := kk p e s m args below meth c0 Z H1 locs ls C hl (hR.new z1 o1 ⟨fun c9 hc9 hkc => ?_, fun t9 ht9 hkt => ?_⟩) (hS.new z1 o1)
  · rw [List.map_cons, vj_ref (show mT M ≠ 0 by have := hR.1; omega), top_ad hR] at h9
    exact h9
  · rw [nw_K] at hkc
    have : c9 = c := by omega
    subst this
    rw [top_ad hR]
    exact (u_born (fT c9) hts (cl_in hc14) hKn hkC e1 (cl_ty hc14)).to (fun j hj => cl_def hc14 j hj G _ _ nw_I nw_J nw_R)
  · rw [nw_K] at hkt
    omega
/-- the kinds of plain rows -/
def naOK (atype : ArrayType) (t : Nat) : Prop := newarray.typeOf atype = ATy t ∧ t < 3 ∧ Cond.arrayClass (ATy t) ∈ gT
theorem s_newarray {atype : ArrayType} {t n : Nat} {x : Int32} (hc : cod μ pc (.newarray atype) 2) (ht : naOK atype t) (hx : ¬ x < 0) (hn : x.toNatClampNeg = n) (hb : n * 8 ≤ 536870912) (hk : k + 1 ≤ rm.cells) (hs : sl + n ≤ rm.slots) (kk : PW G μ rm Q (pc + 2) L (.ref (mT M) :: st) (nw M (20 + t) n) (k + 1) (sl + n)) : PW G μ rm Q pc L (.int x :: st) M k sl := by
  intro p e s m args below meth c0 Z H locs ls C hl hR hS
  obtain ⟨ha, ht3, hw⟩ := ht
  have hts := C.2.2.2.2.1
  have hb' : n * componentBytes (newarray.typeOf atype) ≤ 536870912 := by
    refine Nat.le_trans (Nat.mul_le_mul_left n ?_) hb
    rw [ha]
    match t, ht3 with
    | 0, _ => decide
    | 1, _ => decide
    | 2, _ => decide
    | j + 3, h => exact absurd h (by omega)
  refine va_newaK C.1 C.2.1 (by rw [ha]; exact hts _ hw) rfl hc rfl hx hn hb' hk hs rfl (fun H1 cA e1 z1 o1 hAr hNm => ?_)
  have hcA : cA = G.2.2.1 t := by
    have h2 := (C.2.2.2.2.2.1.2.1 t (by omega)).2
    have h3 : s.vm.findClass ("[" ++ (ATy t).toString) = some (G.2.2.1 t) := by
      match t, ht3, h2 with
      | 0, _, h2 => exact h2
      | 1, _, h2 => exact h2
      | 2, _, h2 => exact h2
      | j + 3, h, _ => exact absurd h (by omega)
    rw [ha] at hNm
    exact Option.some.inj (hNm.symm.trans h3)
  have h9 := kk p e s m args below meth c0 Z H1 locs ls C hl (hR.new z1 o1 ⟨fun c9 hc9 hkc => ?_, fun t9 ht9 hkt => ?_⟩) (hS.new z1 o1)
  · rw [List.map_cons, vj_ref (show mT M ≠ 0 by have := hR.1; omega), top_ad hR] at h9
    exact h9
  · rw [nw_K] at hkc
    omega
  · rw [nw_K] at hkt
    have : t9 = t := by omega
    subst this
    rw [top_ad hR, e1, hcA, nw_N, ha]
    refine congrArg some (congrArg (arrV _ _) (funext fun q => ?_))
    match t9, ht3 with
    | 0, _ => show Value.int 0 = Value.int (mI (nw M _ n) (mT M) q); rw [nw_I]
    | 1, _ => show Value.long 0 = Value.long (mJ (nw M _ n) (mT M) q); rw [nw_J]
    | 2, _ => show Value.int 0 = Value.int (mI (nw M _ n) (mT M) q); rw [nw_I]
    | j + 3, h => exact absurd h (by omega)
def anOK (own : String) (idx t : Nat) : Prop := ∃ C : String, ATy t = .object C ∧ ((t = 3 ∧ C = "BothPrices$Thought") ∨ (t = 4 ∧ C = "BothPrices$Shelf")) ∧ Cond.classLink own idx C ∈ gT
theorem s_anewarray {idx t n : Nat} {x : Int32} (hc : cod μ pc (.anewarray idx) 3) (ht : anOK μ.1 idx t) (hx : ¬ x < 0) (hn : x.toNatClampNeg = n) (hb : n * 4 ≤ 536870912) (hk : k + 1 ≤ rm.cells) (hs : sl + n ≤ rm.slots) (kk : PW G μ rm Q (pc + 3) L (.ref (mT M) :: st) (nw M (20 + t) n) (k + 1) (sl + n)) : PW G μ rm Q pc L (.int x :: st) M k sl := by
  intro p e s m args below meth c0 Z H locs ls C hl hR hS
  obtain ⟨C9, ha, ht34, hw1⟩ := ht
  have hts := C.2.2.2.2.1
  subst hn
  have hao : va_AO C9 s := by
    rcases ht34 with ⟨-, rfl⟩ | ⟨-, rfl⟩
    · exact C.2.2.2.2.2.1.2.2.1
    · exact C.2.2.2.2.2.1.2.2.2.1
  refine W.anew C.1 C.2.1 C.2.2.2.1 (hts _ hw1) hao.use rfl hc rfl hx hb hk hs (fun cA kA comp f1 f2 f3 f4 => ?_)
  generalize hH1 : H.push ({ cls := cA, slots := Array.replicate x.toNatClampNeg .null, vm := .none } : Cell) = H1
  have z1 : H1.size = H.size + 1 := by rw [← hH1, Array.size_push]
  have e1 : H1[H.size]? = some (arrV cA x.toNatClampNeg (fun _ => .null)) := by rw [← hH1, Array.getElem?_push_size, ← arrV_new]
  have o1 : ∀ q : Nat, q < H.size → H1[q]? = H[q]? := fun q hq => by rw [← hH1, Array.getElem?_push, if_neg (Nat.ne_of_lt hq)]
  have ht6 : t < 6 := by rcases ht34 with ⟨h, -⟩ | ⟨h, -⟩ <;> omega
  have hcA : cA = G.2.2.1 t := by
    have h2 := (C.2.2.2.2.2.1.2.1 t ht6).2
    rw [ha] at h2
    obtain ⟨_, _, -, -, -, h3⟩ := h2
    exact Option.some.inj (f1.symm.trans h3)
  have h9 := kk p e s m args below meth c0 Z H1 locs ls C hl (hR.new z1 o1 ⟨fun c9 hc9 hkc => ?_, fun t9 ht9 hkt => ?_⟩) (hS.new z1 o1)
  · rw [List.map_cons, vj_ref (show mT M ≠ 0 by have := hR.1; omega), top_ad hR] at h9
    exact h9
  · rw [nw_K] at hkc
    omega
  · rw [nw_K] at hkt
    have : t9 = t := by omega
    subst this
    rw [top_ad hR, e1, hcA, nw_N]
    refine congrArg some (congrArg (arrV _ _) (funext fun q => ?_))
    rcases ht34 with ⟨rfl, -⟩ | ⟨rfl, -⟩
    · show Value.null = vj G (.ref (mR (nw M _ x.toNatClampNeg) (mT M) q)); rw [nw_R]; rfl
    · show Value.null = vj G (.ref (mR (nw M _ x.toNatClampNeg) (mT M) q)); rw [nw_R]; rfl
def ObjOK (own : String) (idx : Nat) : Prop := Cond.methodLink own idx Lib.objectInit ∈ gT ∧ Cond.instanceMethod Lib.objectInit ∈ gT ∧ Cond.code Lib.objectInit ⟨#[0xb1]⟩ 1 none ∈ gT
theorem s_objInit {idx a : Nat} (hc : cod μ pc (.invokespecial idx) 3) (hw : ObjOK μ.1 idx) (ha : a ≠ 0) (hf : 1 ≤ rm.frames) (hlo : (st.map fun v => v.category).sum + 12 ≤ rm.locals) (kk : PW G μ rm Q (pc + 3) L st M k sl) : PW G μ rm Q pc L (.ref a :: st) M k sl := by
  intro p e s m args below meth c0 Z H locs ls C hl hR hS
  have hts := C.2.2.2.2.1
  rw [List.map_cons, vj_ref ha]
  refine W.objInit C.1 C.2.1 C.2.2.2.1 (hts _ hw.1) (hts _ hw.2.1) (hts _ hw.2.2) rfl (hl.1.trans C.2.2.1.symm) rfl hc hf ?_ (kk p e s m args below meth c0 Z H locs _ C hl hR hS)
  have : ((st.map (vj G)).map fun v => v.category) = st.map fun v => v.category := by rw [List.map_map]; exact List.map_congr_left fun v _ => vj_cat G v
  rw [this]
  show 2 * 0 + _ + 12 ≤ _
  omega
end PWR
