/-! THROWING, AND WHAT CATCHES -/
abbrev chN : List String := ["java/lang/RuntimeException", "java/lang/Exception"]
theorem th_T : ∀ w ∈ Bundle.throwableAtoms, vx_no w = true → w ∈ gT ∨ w ∈ exW := List.forall_mem_cons.mpr ⟨fun _ => Or.inl (g1 18 rfl rfl), List.forall_mem_cons.mpr ⟨fun _ => Or.inl (g5 19 rfl rfl), List.forall_mem_cons.mpr ⟨fun _ => Or.inl (g5 28 rfl rfl), List.forall_mem_cons.mpr ⟨fun _ => Or.inl (g5 31 rfl rfl), List.forall_mem_cons.mpr ⟨fun _ => Or.inl (g5 34 rfl rfl), List.forall_mem_cons.mpr ⟨fun _ => Or.inl (g5 36 rfl rfl), List.forall_mem_cons.mpr ⟨fun _ => Or.inl (g5 20 rfl rfl), List.forall_mem_cons.mpr ⟨fun _ => Or.inl (g5 21 rfl rfl), List.forall_mem_cons.mpr ⟨fun _ => Or.inl (g1 29 rfl rfl), List.forall_mem_cons.mpr ⟨fun _ => Or.inl (g1 30 rfl rfl), List.forall_mem_cons.mpr ⟨fun _ => Or.inl (g5 22 rfl rfl), List.forall_mem_cons.mpr ⟨fun _ => Or.inl (g5 27 rfl rfl), List.forall_mem_cons.mpr ⟨fun _ => Or.inl (g5 32 rfl rfl), List.forall_mem_cons.mpr ⟨fun _ => Or.inl (g5 52 rfl rfl), List.forall_mem_cons.mpr ⟨fun _ => Or.inl (g5 9 rfl rfl), List.forall_mem_cons.mpr ⟨fun _ => Or.inl (g5 53 rfl rfl), List.forall_mem_cons.mpr ⟨fun _ => Or.inl (g5 11 rfl rfl), List.forall_mem_cons.mpr ⟨fun _ => Or.inl (g5 54 rfl rfl), List.forall_mem_cons.mpr ⟨fun _ => Or.inl (g5 13 rfl rfl), List.forall_mem_cons.mpr ⟨fun _ => Or.inl (g5 23 rfl rfl), List.forall_mem_cons.mpr ⟨fun h => absurd h (by decide), List.forall_mem_cons.mpr ⟨fun _ => Or.inl (g5 25 rfl rfl), List.forall_mem_cons.mpr ⟨fun h => absurd h (by decide), List.forall_mem_cons.mpr ⟨fun _ => Or.inl (g5 15 rfl rfl), fun _ h => absurd h List.not_mem_nil⟩⟩⟩⟩⟩⟩⟩⟩⟩⟩⟩⟩⟩⟩⟩⟩⟩⟩⟩⟩⟩⟩⟩⟩
theorem th_S : ∀ w ∈ Bundle.throwableSAtoms, vx_no w = true → w ∈ gT ∨ w ∈ exW := List.forall_mem_cons.mpr ⟨fun _ => Or.inl (g5 48 rfl rfl), List.forall_mem_cons.mpr ⟨fun _ => Or.inl (g5 49 rfl rfl), List.forall_mem_cons.mpr ⟨fun _ => Or.inl (g5 51 rfl rfl), List.forall_mem_cons.mpr ⟨fun _ => Or.inl (g5 15 rfl rfl), fun _ h => absurd h List.not_mem_nil⟩⟩⟩⟩
theorem th_R : ∀ w ∈ Bundle.chainSAtoms "java/lang/RuntimeException" ["java/lang/Exception"], vx_no w = true → w ∈ gT ∨ w ∈ exW := List.forall_mem_append.mpr ⟨List.forall_mem_cons.mpr ⟨fun _ => Or.inl (g5 42 rfl rfl), List.forall_mem_cons.mpr ⟨fun _ => Or.inl (g5 43 rfl rfl), List.forall_mem_cons.mpr ⟨fun _ => Or.inl (g5 44 rfl rfl), List.forall_mem_cons.mpr ⟨fun _ => Or.inl (g5 45 rfl rfl), List.forall_mem_cons.mpr ⟨fun _ => Or.inr (List.mem_of_getElem? (i := 1) rfl), fun _ h => absurd h List.not_mem_nil⟩⟩⟩⟩⟩, List.forall_mem_cons.mpr ⟨fun _ => Or.inl (g5 45 rfl rfl), List.forall_mem_cons.mpr ⟨fun _ => Or.inl (g5 46 rfl rfl), List.forall_mem_cons.mpr ⟨fun _ => Or.inl (g5 47 rfl rfl), List.forall_mem_cons.mpr ⟨fun _ => Or.inl (g5 48 rfl rfl), List.forall_mem_cons.mpr ⟨fun _ => Or.inr (List.mem_of_getElem? (i := 2) rfl), fun _ h => absurd h List.not_mem_nil⟩⟩⟩⟩⟩⟩
theorem th_f : ∀ w ∈ vx_atS "BothPrices$Way" 35 "java/lang/IllegalStateException" chN, w ∈ gT ∨ w ∈ exW := fun w h => (List.forall_mem_append.mpr ⟨List.forall_mem_append.mpr ⟨List.forall_mem_append.mpr ⟨th_T, th_S⟩, List.forall_mem_append.mpr ⟨List.forall_mem_cons.mpr ⟨fun _ => Or.inl (g5 39 rfl rfl), List.forall_mem_cons.mpr ⟨fun _ => Or.inl (g5 40 rfl rfl), List.forall_mem_cons.mpr ⟨fun _ => Or.inl (g5 41 rfl rfl), List.forall_mem_cons.mpr ⟨fun _ => Or.inl (g5 42 rfl rfl), List.forall_mem_cons.mpr ⟨fun _ => Or.inr (List.mem_of_getElem? (i := 0) rfl), fun _ h => absurd h List.not_mem_nil⟩⟩⟩⟩⟩, th_R⟩⟩, List.forall_mem_cons.mpr ⟨fun _ => Or.inl (g5 38 rfl rfl), List.forall_mem_cons.mpr ⟨fun _ => Or.inl (g4 238 rfl rfl), List.forall_mem_cons.mpr ⟨fun _ => Or.inr (List.mem_of_getElem? (i := 3) rfl), List.forall_mem_cons.mpr ⟨fun _ => Or.inl (g5 6 rfl rfl), List.forall_mem_cons.mpr ⟨fun _ => Or.inl (g5 7 rfl rfl), List.forall_mem_cons.mpr ⟨fun _ => Or.inl (g5 8 rfl rfl), List.forall_mem_cons.mpr ⟨fun _ => Or.inl (g5 10 rfl rfl), List.forall_mem_cons.mpr ⟨fun _ => Or.inl (g5 12 rfl rfl), List.forall_mem_cons.mpr ⟨fun _ => Or.inl (g5 14 rfl rfl), List.forall_mem_cons.mpr ⟨fun h => absurd h (by decide), List.forall_mem_cons.mpr ⟨fun h => absurd h (by decide), List.forall_mem_cons.mpr ⟨fun _ => Or.inl (g5 18 rfl rfl), List.forall_mem_cons.mpr ⟨fun _ => Or.inl (g5 17 rfl rfl), List.forall_mem_cons.mpr ⟨fun _ => Or.inl (g5 16 rfl rfl), fun _ h => absurd h List.not_mem_nil⟩⟩⟩⟩⟩⟩⟩⟩⟩⟩⟩⟩⟩⟩⟩ : ∀ w ∈ Bundle.ownAtoms "BothPrices$Way" 35 "java/lang/IllegalStateException" chN, vx_no w = true → w ∈ gT ∨ w ∈ exW) w (List.mem_filter.mp h).1 (List.mem_filter.mp h).2
theorem th_s : ∀ w ∈ vx_atS "BothPrices" 333 "java/lang/IllegalStateException" chN, w ∈ gT ∨ w ∈ exW := fun w h => (List.forall_mem_append.mpr ⟨List.forall_mem_append.mpr ⟨List.forall_mem_append.mpr ⟨th_T, th_S⟩, List.forall_mem_append.mpr ⟨List.forall_mem_cons.mpr ⟨fun _ => Or.inl (g5 39 rfl rfl), List.forall_mem_cons.mpr ⟨fun _ => Or.inl (g5 40 rfl rfl), List.forall_mem_cons.mpr ⟨fun _ => Or.inl (g5 41 rfl rfl), List.forall_mem_cons.mpr ⟨fun _ => Or.inl (g5 42 rfl rfl), List.forall_mem_cons.mpr ⟨fun _ => Or.inr (List.mem_of_getElem? (i := 0) rfl), fun _ h => absurd h List.not_mem_nil⟩⟩⟩⟩⟩, th_R⟩⟩, List.forall_mem_cons.mpr ⟨fun _ => Or.inl (g5 108 rfl rfl), List.forall_mem_cons.mpr ⟨fun _ => Or.inl (g4 238 rfl rfl), List.forall_mem_cons.mpr ⟨fun _ => Or.inr (List.mem_of_getElem? (i := 3) rfl), List.forall_mem_cons.mpr ⟨fun _ => Or.inl (g5 6 rfl rfl), List.forall_mem_cons.mpr ⟨fun _ => Or.inl (g5 7 rfl rfl), List.forall_mem_cons.mpr ⟨fun _ => Or.inl (g5 8 rfl rfl), List.forall_mem_cons.mpr ⟨fun _ => Or.inl (g5 10 rfl rfl), List.forall_mem_cons.mpr ⟨fun _ => Or.inl (g5 12 rfl rfl), List.forall_mem_cons.mpr ⟨fun _ => Or.inl (g5 14 rfl rfl), List.forall_mem_cons.mpr ⟨fun h => absurd h (by decide), List.forall_mem_cons.mpr ⟨fun h => absurd h (by decide), List.forall_mem_cons.mpr ⟨fun _ => Or.inl (g5 18 rfl rfl), List.forall_mem_cons.mpr ⟨fun _ => Or.inl (g5 17 rfl rfl), List.forall_mem_cons.mpr ⟨fun _ => Or.inl (g5 16 rfl rfl), fun _ h => absurd h List.not_mem_nil⟩⟩⟩⟩⟩⟩⟩⟩⟩⟩⟩⟩⟩⟩⟩ : ∀ w ∈ Bundle.ownAtoms "BothPrices" 333 "java/lang/IllegalStateException" chN, vx_no w = true → w ∈ gT ∨ w ∈ exW) w (List.mem_filter.mp h).1 (List.mem_filter.mp h).2
theorem th_a : ∀ w ∈ vx_atS "BothPrices" 326 "java/lang/IllegalArgumentException" chN, w ∈ gT ∨ w ∈ exW := fun w h => (List.forall_mem_append.mpr ⟨List.forall_mem_append.mpr ⟨List.forall_mem_append.mpr ⟨th_T, th_S⟩, List.forall_mem_append.mpr ⟨List.forall_mem_cons.mpr ⟨fun _ => Or.inl (g5 102 rfl rfl), List.forall_mem_cons.mpr ⟨fun _ => Or.inl (g5 103 rfl rfl), List.forall_mem_cons.mpr ⟨fun _ => Or.inl (g5 104 rfl rfl), List.forall_mem_cons.mpr ⟨fun _ => Or.inl (g5 42 rfl rfl), List.forall_mem_cons.mpr ⟨fun _ => Or.inr (List.mem_of_getElem? (i := 0) rfl), fun _ h => absurd h List.not_mem_nil⟩⟩⟩⟩⟩, th_R⟩⟩, List.forall_mem_cons.mpr ⟨fun _ => Or.inl (g5 101 rfl rfl), List.forall_mem_cons.mpr ⟨fun _ => Or.inl (g5 92 rfl rfl), List.forall_mem_cons.mpr ⟨fun _ => Or.inr (List.mem_of_getElem? (i := 4) rfl), List.forall_mem_cons.mpr ⟨fun _ => Or.inl (g5 94 rfl rfl), List.forall_mem_cons.mpr ⟨fun _ => Or.inl (g5 30 rfl rfl), List.forall_mem_cons.mpr ⟨fun _ => Or.inl (g5 95 rfl rfl), List.forall_mem_cons.mpr ⟨fun _ => Or.inl (g5 96 rfl rfl), List.forall_mem_cons.mpr ⟨fun _ => Or.inl (g5 97 rfl rfl), List.forall_mem_cons.mpr ⟨fun _ => Or.inl (g5 98 rfl rfl), List.forall_mem_cons.mpr ⟨fun h => absurd h (by decide), List.forall_mem_cons.mpr ⟨fun h => absurd h (by decide), List.forall_mem_cons.mpr ⟨fun _ => Or.inl (g5 18 rfl rfl), List.forall_mem_cons.mpr ⟨fun _ => Or.inl (g5 17 rfl rfl), List.forall_mem_cons.mpr ⟨fun _ => Or.inl (g5 99 rfl rfl), fun _ h => absurd h List.not_mem_nil⟩⟩⟩⟩⟩⟩⟩⟩⟩⟩⟩⟩⟩⟩⟩ : ∀ w ∈ Bundle.ownAtoms "BothPrices" 326 "java/lang/IllegalArgumentException" chN, vx_no w = true → w ∈ gT ∨ w ∈ exW) w (List.mem_filter.mp h).1 (List.mem_filter.mp h).2

theorem ot_gT {w : Cond} (h : w ∈ gT) : vx_ot w = true := by
  unfold vx_ot
  rw [(List.mem_filter.mp h).2]
  exact Bool.or_true _
theorem ot_exW : ∀ w ∈ exW, w.onTables = true := List.forall_mem_cons.mpr ⟨rfl, List.forall_mem_cons.mpr ⟨rfl, List.forall_mem_cons.mpr ⟨rfl, List.forall_mem_cons.mpr ⟨rfl, List.forall_mem_cons.mpr ⟨rfl, fun _ h => absurd h List.not_mem_nil⟩⟩⟩⟩⟩
section EXC
variable {G : GG} {μ : MD} {rm : Room} {Q : Option Value → Mem → Prop} {pc : Nat} {L : List (Option Value)} {st : List Value} {M : Mem} {k sl : Nat}
variable {idx c a n d' mc' ms' : Nat} {μ' : MD} {As rest : List Value} {Q' : Option Value → Mem → Prop}
/-- more cells, of which nothing is said -/
def gr (M : Mem) (n : Nat) : Mem := (mT M + n, M.2)
theorem Rel.gr {H H1 : Heap} (hR : Rel G M H) (hz : H.size ≤ H1.size) (hq : ∀ q : Nat, q < H.size → H1[q]? = H[q]?) : Rel G (gr M (H1.size - H.size)) H1 := by
  refine ⟨Nat.le_trans hR.1 (Nat.le_add_right _ _), ?_, fun b hb => ⟨(hR.2.2.1 b hb).1, Nat.lt_of_lt_of_le (hR.2.2.1 b hb).2 (Nat.le_add_right _ _)⟩, fun b => ?_⟩
  · show H1.size = _ + (mT M + (H1.size - H.size) - 2)
    have h1 := hR.1
    have h2 := hR.2.1
    omega
  · exact (hR.2.2.2 b).kept rfl rfl rfl rfl rfl (fun h0 => hq _ (hR.in h0).2)
theorem W_to {p : Program} {l : Launch} {e : Env} {R : Room} {s : State} {m : MethodId} {args : Array Value} {below : List Frame} {meth : Method} {c : Code} {H : Heap} {locs : List Loc} {k sl : Nat} {Z Z' : State → Prop} {g : JFrame} (h : ∀ t, Z' t → Z t) (kk : W p l e R s m args below meth c H locs k sl Z' g) : W p l e R s m args below meth c H locs k sl Z g := by
  intro T hT X
  obtain ⟨t, a, b⟩ := kk T hT X
  exact ⟨t, a, h t b⟩
theorem s_throwS {ik is ic : Nat} {E text : String} (hx : exb μ.2.2.1 = true) (hl : (μ.2.2.1.name == "law") = false) (hh : hhT μ.2.2.1 = [])
    (d0 : cod μ pc (.new ik) 3) (d3 : cod μ (pc + 3) .dup 1) (d4 : cod μ (pc + 4) (.ldc is) 2) (d6 : cod μ (pc + 6) (.invokespecial ic) 3) (d9 : cod μ (pc + 9) .athrow 1)
    (hf : Bundle.fit E = true) (hEE : E = "java/lang/IllegalArgumentException" ∨ E = "java/lang/IllegalStateException") (hk : Cond.classLink μ.1 ik E ∈ gT) (hi : Cond.initialized E ∈ gT) (hth : ∀ w ∈ vx_atS μ.1 ic E chN, w ∈ gT ∨ w ∈ exW) (hstr : ∀ U, EX G U → ∃ sa, vk_R μ.1 is text sa U)
    (hfr : 5 < rm.frames) (hlo : (st.map fun v => v.category).sum + 82 ≤ rm.locals) (hcs : k + 1 ≤ rm.cells ∧ sl + 6 ≤ rm.slots)
    (hq : ∀ n, Q (some (xvE E)) (gr M n)) : PW G μ rm Q pc L st M k sl := by
  intro p e s m args below meth c0 Z H locs ls C hl0 hR hS
  obtain ⟨hE, hC2⟩ := C.2.2.2.2.2.2.2.2.1.2 hx
  obtain ⟨hlocks, htab, hend⟩ := hC2 hl
  obtain ⟨sa, hsa⟩ := hstr s hE
  have hts := C.2.2.2.2.1
  have hat : ∀ w ∈ vx_atS μ.1 ic E chN, w.before args s = true := fun w h => (hth w h).elim (hts w) (fun q => va_Nw.use (ot_exW w q) (hE.2.2.2.2.2.2.2 w q))
  have hot : ∀ w ∈ Cond.classLink μ.1 ik E :: Cond.initialized E :: vx_atS μ.1 ic E chN, vx_ot w = true := List.forall_mem_cons.mpr ⟨ot_gT hk, List.forall_mem_cons.mpr ⟨ot_gT hi, fun w h => (hth w h).elim ot_gT (fun q => by
    unfold vx_ot
    rw [ot_exW w q]
    rfl)⟩⟩
  refine W_to hend ?_
  exact vx_throwS (names := chN) (cc := μ.2.1) (Qc := Qcc G (fun v M => Q v M ∧ nDv v)) (XC := XCc G Q) (free := AG G) (A := AG G) (mc := rm.cells) (ms := rm.slots) (rest := st.map (vj G)) C.1 C.2.1 hE.1 C.2.2.2.1 hf (by decide) (hts _ hk) (hts _ hi) hsa hat hot hE.2.1 hE.2.2.1 hS (hl0.1.trans C.2.2.1.symm) d0 d3 d4 d6 d9
    (by rw [htab, hh]; exact fun x hx => absurd hx List.not_mem_nil) hfr (by
      have e9 : 13 * (chN.length + 1) + 43 = 82 := rfl
      have e8 : ((st.map (vj G)).map fun v => v.category) = st.map fun v => v.category := by rw [List.map_map]; exact List.map_congr_left fun v _ => vj_cat G v
      rw [e8, e9]
      exact hlo) hcs.1 hcs.2 hlocks
    (fun t hv hz hq' => ⟨⟨gr M _, hEE, hq _, hR.gr hz hq'⟩, Nat.le_trans hS.1 hz, fun q h1 h2 => (hq' q (Nat.lt_of_lt_of_le h1 hS.1)).trans (hS.2.1 q h1 h2)⟩) hS.2.2 hcs.1 hcs.2
theorem s_throwW {ik is ic : Nat} {E text : String} (hx : exb μ.2.2.1 = true) (hl : (μ.2.2.1.name == "law") = false) (hh : hhT μ.2.2.1 = [])
    (d0 : cod μ pc (.new ik) 3) (d3 : cod μ (pc + 3) .dup 1) (d4 : cod μ (pc + 4) (.ldc_w is) 3) (d7 : cod μ (pc + 7) (.invokespecial ic) 3) (d10 : cod μ (pc + 10) .athrow 1)
    (hf : Bundle.fit E = true) (hEE : E = "java/lang/IllegalArgumentException" ∨ E = "java/lang/IllegalStateException") (hk : Cond.classLink μ.1 ik E ∈ gT) (hi : Cond.initialized E ∈ gT) (hth : ∀ w ∈ vx_atS μ.1 ic E chN, w ∈ gT ∨ w ∈ exW) (hstr : ∀ U, EX G U → ∃ sa, vk_R μ.1 is text sa U)
    (hfr : 5 < rm.frames) (hlo : (st.map fun v => v.category).sum + 82 ≤ rm.locals) (hcs : k + 1 ≤ rm.cells ∧ sl + 6 ≤ rm.slots)
    (hq : ∀ n, Q (some (xvE E)) (gr M n)) : PW G μ rm Q pc L st M k sl := by
  intro p e s m args below meth c0 Z H locs ls C hl0 hR hS
  obtain ⟨hE, hC2⟩ := C.2.2.2.2.2.2.2.2.1.2 hx
  obtain ⟨hlocks, htab, hend⟩ := hC2 hl
  obtain ⟨sa, hsa⟩ := hstr s hE
  have hts := C.2.2.2.2.1
  have hat : ∀ w ∈ vx_atS μ.1 ic E chN, w.before args s = true := fun w h => (hth w h).elim (hts w) (fun q => va_Nw.use (ot_exW w q) (hE.2.2.2.2.2.2.2 w q))
  have hot : ∀ w ∈ Cond.classLink μ.1 ik E :: Cond.initialized E :: vx_atS μ.1 ic E chN, vx_ot w = true := List.forall_mem_cons.mpr ⟨ot_gT hk, List.forall_mem_cons.mpr ⟨ot_gT hi, fun w h => (hth w h).elim ot_gT (fun q => by
    unfold vx_ot
    rw [ot_exW w q]
    rfl)⟩⟩
  refine W_to hend ?_
  exact vx_throwSW (names := chN) (cc := μ.2.1) (Qc := Qcc G (fun v M => Q v M ∧ nDv v)) (XC := XCc G Q) (free := AG G) (A := AG G) (mc := rm.cells) (ms := rm.slots) (rest := st.map (vj G)) C.1 C.2.1 hE.1 C.2.2.2.1 hf (by decide) (hts _ hk) (hts _ hi) hsa hat hot hE.2.1 hE.2.2.1 hS (hl0.1.trans C.2.2.1.symm) d0 d3 d4 d7 d10
    (by rw [htab, hh]; exact fun x hx => absurd hx List.not_mem_nil) hfr (by
      have e9 : 13 * (chN.length + 1) + 43 = 82 := rfl
      have e8 : ((st.map (vj G)).map fun v => v.category) = st.map fun v => v.category := by rw [List.map_map]; exact List.map_congr_left fun v _ => vj_cat G v
      rw [e8, e9]
      exact hlo) hcs.1 hcs.2 hlocks
    (fun t hv hz hq' => ⟨⟨gr M _, hEE, hq _, hR.gr hz hq'⟩, Nat.le_trans hS.1 hz, fun q h1 h2 => (hq' q (Nat.lt_of_lt_of_le h1 hS.1)).trans (hS.2.1 q h1 h2)⟩) hS.2.2 hcs.1 hcs.2

/-- the locals behind a store of something at i -/
def stU (L : List (Option Value)) (i : Nat) : List (Option Value) := (st1 L i (.ref 0)).set i none
theorem lvL.unk {ls : Array Slot} {m i : Nat} {L : List (Option Value)} {v0 : Value} (h : lv_has ls m ((i, v0) :: (aL G L).filter (fun q => !(q.1 == i) && !(q.1 + 1 == i && q.2.category == 2)))) : lvL G ls m (stU L i) := by
  refine ⟨h.1, h.2.1, fun j w hj => ?_⟩
  unfold stU at hj
  by_cases e : i = j
  · subst e
    rw [List.getElem?_set] at hj
    simp at hj
  · rw [List.getElem?_set_ne e] at hj
    rcases st1_get L i (.ref 0) j w hj with ⟨rfl, -⟩ | ⟨h1, h2, h3⟩
    · exact absurd rfl e
    · refine h.2.2 (j, vj G w) (List.mem_cons_of_mem _ (List.mem_filter.mpr ⟨mem_aL h2, ?_⟩))
      have h4 := vj_cat G w
      simp only [Bool.and_eq_true, Bool.not_eq_true', beq_eq_false_iff_ne, ne_eq, Bool.and_eq_false_imp, beq_iff_eq]
      exact ⟨h1, fun z => by simp only [h4]; exact fun q => h3 ⟨z, q⟩⟩
/-- E has been thrown over this frame, at this pc -/
def PWx (G : GG) (μ : MD) (rm : Room) (Q : Option Value → Mem → Prop) (pc : Nat) (L : List (Option Value)) (M : Mem) (k sl : Nat) (E : String) : Prop :=
  ∀ (p : Program) (e : Env) (s : State) (m : MethodId) (args : Array Value) (below : List Frame) (meth : Method) (c : Code) (Z : State → Prop) (H : Heap) (locs : List Loc) (ls : Array Slot) (rest : List Value) (q : Addr) (ce : Cell),
    Cx G μ rm Q p e s m args below meth c Z → lvL G ls μ.2.2.2.1 L → Rel G M H → va_S (AG G) s.heap H locs → H[q]? = some ce → ce.vm = .none → s.vm.findClass E = some ce.cls → vx_W p G.1 e rm s m args below meth c H locs k sl Z (F0 m pc ls rest) q
/-- the handler stores what it caught -/
def Hnd (G : GG) (μ : MD) (rm : Room) (Q : Option Value → Mem → Prop) (h : Nat) (L : List (Option Value)) (M : Mem) (k sl : Nat) : Prop :=
  (∃ i : Fin 4, cod μ h (.astore_n i) 1 ∧ (i : Nat) < μ.2.2.2.1 ∧ PW G μ rm Q (h + 1) (stU L i) [] M k sl) ∨ (∃ i : Nat, cod μ h (.astore i) 2 ∧ i < μ.2.2.2.1 ∧ PW G μ rm Q (h + 2) (stU L i) [] M k sl)
theorem Hnd.w {h : Nat} (hh : Hnd G μ rm Q h L M k sl) {p : Program} {e : Env} {s : State} {m : MethodId} {args : Array Value} {below : List Frame} {meth : Method} {c : Code} {Z : State → Prop} {H : Heap} {locs : List Loc} {ls : Array Slot} {q : Addr}
    (C : Cx G μ rm Q p e s m args below meth c Z) (hl : lvL G ls μ.2.2.2.1 L) (hR : Rel G M H) (hS : va_S (AG G) s.heap H locs) : W p G.1 e rm s m args below meth c H locs k sl Z (F0 m h ls [.ref q]) := by
  rcases hh with ⟨i, hc, hn, kk⟩ | ⟨i, hc, hn, kk⟩
  · exact lv_astore_n C.1 C.2.1 hc rfl hl.has hn rfl (fun ls h => kk p e s m args below meth c Z H locs _ C (lvL.unk h) hR hS)
  · exact lv_astore C.1 C.2.1 hc hl.has hn rfl (fun ls h => kk p e s m args below meth c Z H locs _ C (lvL.unk h) hR hS)
theorem x_catch {E : String} (x : Nat × Nat × Nat × Nat) (pre suf : List (Nat × Nat × Nat × Nat)) (hx : exb μ.2.2.1 = true) (hl : (μ.2.2.1.name == "law") = false) (hh : hhT μ.2.2.1 = pre ++ x :: suf)
    (hpre : ∀ z ∈ pre, z.2.2.2 ≠ 0 ∧ ∃ nm, Cond.classLink μ.1 z.2.2.2 nm ∈ gT ∧ ∀ U, EX G U → va_Nc E nm U) (hcov : x.1 ≤ pc ∧ pc < x.2.1) (h0 : x.2.2.2 ≠ 0) (hlink : Cond.classLink μ.1 x.2.2.2 E ∈ gT) (hcast : Cond.castable E E ∈ exW)
    (kk : Hnd G μ rm Q x.2.2.1 L M k sl) : PWx G μ rm Q pc L M k sl E := by
  intro p e s m args below meth c Z H locs ls rest q ce C hl0 hR hS hce hcv hcl
  obtain ⟨hE, hC2⟩ := C.2.2.2.2.2.2.2.2.1.2 hx
  obtain ⟨hlocks, htab, hend⟩ := hC2 hl
  have hts := C.2.2.2.2.1
  have t9 : c.exceptionTable.toList = (tableOf pre) ++ (⟨x.1, x.2.1, x.2.2.1, x.2.2.2⟩ : ExceptionTableEntry) :: tableOf suf := by
    rw [htab, hh]
    unfold tableOf
    rw [List.map_append, List.map_cons]
  refine vx_catch (own := μ.1) (name := E) (E := E) C.2.2.2.1 _ _ _ t9 (fun z hz => ?_) ?_ h0 (hts _ hlink) (va_Nw.use rfl (hE.2.2.2.2.2.2.2 _ hcast)) hce hcv hcl (Hnd.w kk C hl0 hR hS)
  · obtain ⟨y, hy, rfl⟩ := List.mem_map.mp hz
    obtain ⟨z1, nm, z2, z3⟩ := hpre y hy
    exact Or.inr ⟨z1, nm, hts _ z2, z3 s hE⟩
  · unfold covers
    simp only [Bool.and_eq_true, decide_eq_true_eq]
    exact hcov
/-- A CONTRACT OF ONE THAT MAY THROW; w0: its code's word -/
def Pccx (G : GG) (as : List Value) (M : Mem) : Array Value → State → Prop := fun v U => Pcc G as M v U ∧ EX G U
def PMetX (G : GG) (μ : MD) (w0 : Cond) (d mc ms : Nat) (as : List Value) (M : Mem) (Q : Option Value → Mem → Prop) : Prop :=
  vx_Met G.1 μ.2.2.1 (w0 :: gT) (rmD d mc ms) (Pccx G as M) (Qcc G (fun v M => Q v M ∧ nDv v)) (XCc G Q) mc ms (AG G)
theorem Pccx_blind {as : List Value} : FrameBlind (Pccx G as M) := fun a U g mk q => ⟨Pcc_blind a U g mk q.1, EX.kept (locs := []) (show U.WarmedH (U.calling g mk a).vm from State.WarmedH.refl U) va_S.rf q.2⟩
theorem preVx {s : State} {H : Heap} {locs : List Loc} (hR : Rel G M H) (hK : KS G s) (hE : EX G s) (hS : va_S (AG G) s.heap H locs) (h14 : c < 14) (hk : mK M a = c + 1) (as : List Value) : PreV s H (clR c) (ad G a) (Pccx G (.ref a :: as) M) (as.map (vj G)) := by
  have h1 := preV hR hK h14 hk as
  exact ⟨Pccx_blind, h1.2.1, fun U hU hW => ⟨h1.2.2 U hU hW, EX.kept (locs := locs) hW (by rw [hU]; exact hS) hE⟩⟩
theorem preSx {s : State} {H : Heap} {locs : List Loc} (hR : Rel G M H) (hK : KS G s) (hE : EX G s) (hS : va_S (AG G) s.heap H locs) (as : List Value) : PreS s H (Pccx G as M) (as.map (vj G)) := by
  have h1 := preS hR hK as
  exact ⟨Pccx_blind, fun U hU hW => ⟨h1.2 U hU hW, EX.kept (locs := locs) hW (by rw [hU]; exact hS) hE⟩⟩
theorem s_runX {a9 : Array Value} (hx : exb μ.2.2.1 = true) (hrun : ∀ (p : Program) (e : Env) (s : State) (m : MethodId) (args : Array Value) (below : List Frame) (meth : Method) (c0 : Code) (Z : State → Prop) (H : Heap) (locs : List Loc) (ls : Array Slot),
      Cx G μ rm Q p e s m args below meth c0 Z → EX G s → lvL G ls μ.2.2.2.1 L → Rel G M H → va_S (AG G) s.heap H locs → vx_Run p G.1 e rm s m args below meth c0 H locs k sl mc' ms' (F0 m pc ls (st.map (vj G))) (rest.map (vj G)) (Qcc G (fun v M => Q' v M ∧ nDv v) a9) (XCc G Q') (AG G))
    (kk : ∀ (v : Option Value) (M' : Mem), Q' v M' → nDv v → PW G μ rm Q (pc + 3) L (v.toList ++ rest) M' (k + mc') (sl + ms'))
    (kx : ∀ (E : String) (M' : Mem), (E = "java/lang/IllegalArgumentException" ∨ E = "java/lang/IllegalStateException") → Q' (some (xvE E)) M' → PWx G μ rm Q pc L M' (k + mc') (sl + ms') E) : PW G μ rm Q pc L st M k sl := by
  intro p e s m args below meth c0 Z H locs ls C hl hR hS T hT X
  have ext : ∀ (st₀ t T' : State) (L' : List Loc), st₀.heap = H → T'.heap = t.heap → (∀ q ∈ L', AG G q.base) → va_F (AG G) st₀ t → va_S (AG G) s.heap T'.heap (locs ++ L') := by
    intro st₀ t T' L' h0 e1 hL ⟨hz, hk⟩
    rw [h0] at hz hk
    exact ⟨Nat.le_trans hS.1 (by rw [e1]; exact hz), fun q h1 h2 => by rw [e1, hk q (Nat.lt_of_lt_of_le h1 hS.1) h2]; exact hS.2.1 q h1 h2, fun q hq => by
      rcases List.mem_append.mp hq with h | h
      · exact hS.2.2 q h
      · exact hL q h⟩
  rcases hrun p e s m args below meth c0 Z H locs ls C (C.2.2.2.2.2.2.2.2.1.2 hx).1 hl hR hS T hT X with ⟨v, st₀, t, T', L', h0, X', hL, e1, e2, ⟨⟨w, M', hv, hq, hR'⟩, hF⟩, stp⟩ | ⟨q, st₀, t, T', L', E, ce, h0, X', hL, e1, e2, ⟨⟨M', hEE, hq, hR'⟩, hF⟩, hce, hcv, hcl, stp⟩
  · cases hv
    obtain ⟨t2, a1, b1⟩ := kk w M' hq.1 hq.2 p e s m args below meth c0 Z T'.heap (locs ++ L') ls C hl (by rw [e1]; exact hR') (ext _ _ _ _ h0 e1 hL hF) T' rfl X'
    refine ⟨t2, stp t2 ?_, b1⟩
    have e9 : (w.toList ++ rest).map (vj G) = (w.map (vj G)).toList ++ rest.map (vj G) := by cases w <;> simp
    rw [e9] at a1
    exact a1
  · obtain ⟨t2, a1, b1⟩ := kx E M' hEE hq p e s m args below meth c0 Z T'.heap (locs ++ L') ls (rest.map (vj G)) q ce C hl (by rw [e1]; exact hR') (ext _ _ _ _ h0 e1 hL hF) (by rw [e1]; exact hce) hcv hcl T' rfl X'
    exact ⟨t2, stp.trans a1, b1⟩
theorem s_callVx (hx : exb μ.2.2.1 = true) (hc : cod μ pc (.invokevirtual idx) 3) (hv : CV μ.1 idx μ' n) (h14 : c < 14) (hcl : clR c = μ'.2.2.1.cls) (hk : mK M a = c + 1) (hn : As.length = n) (hst : st = As.reverse ++ .ref a :: rest) (hrest : (rest.map fun v => v.category).sum ≤ 8) (hroom : RmOK rm d' μ') (hcs : k + mc' ≤ rm.cells ∧ sl + ms' ≤ rm.slots)
    (hM : PMetX G μ' (mdC μ') d' mc' ms' (.ref a :: As) M Q') (kk : ∀ (v : Option Value) (M' : Mem), Q' v M' → nDv v → PW G μ rm Q (pc + 3) L (v.toList ++ rest) M' (k + mc') (sl + ms'))
    (kx : ∀ (E : String) (M' : Mem), (E = "java/lang/IllegalArgumentException" ∨ E = "java/lang/IllegalStateException") → Q' (some (xvE E)) M' → PWx G μ rm Q pc L M' (k + mc') (sl + ms') E) : PW G μ rm Q pc L st M k sl := by
  refine s_runX (μ := μ) (rest := rest) (mc' := mc') (ms' := ms') (Q' := Q') (a9 := #[]) hx ?_ kk kx
  intro p e s m args below meth c0 Z H locs ls C hE hl hR hS
  obtain ⟨w1, w2, w3, w4, w5, w6, w7⟩ := hv
  have hts := C.2.2.2.2.1
  exact vx_runV (C := clR c) (b := ad G a) (As := As.map (vj G)) (nL := μ.2.2.2.1) ⟨C.1, C.2.1, C.2.2.1, C.2.2.2.1, hts⟩ hM ⟨cb_of hts w1 w2 w5 w6 w7 hroom, hts _ w3, by rw [hcl]; exact hts _ w4⟩ (preVx hR C.2.2.2.2.2.1 hE hS h14 hk As) rfl (by rw [List.length_map]; exact hn) hl.1 (st_map (ne0 hR hk) hst) (rest_room _ _ _ _ hrest) hc hcs
theorem s_callUx {μx : MD} (hx : exb μ.2.2.1 = true) (hc : cod μ pc (.invokevirtual idx) 3) (hv : CU μ.1 idx (clR c) μx μ' n) (h14 : c < 14) (hk : mK M a = c + 1) (hn : As.length = n) (hst : st = As.reverse ++ .ref a :: rest) (hrest : (rest.map fun v => v.category).sum ≤ 8) (hroom : RmOK rm d' μ') (hcs : k + mc' ≤ rm.cells ∧ sl + ms' ≤ rm.slots)
    (hM : PMetX G μ' (mdC μ') d' mc' ms' (.ref a :: As) M Q') (kk : ∀ (v : Option Value) (M' : Mem), Q' v M' → nDv v → PW G μ rm Q (pc + 3) L (v.toList ++ rest) M' (k + mc') (sl + ms'))
    (kx : ∀ (E : String) (M' : Mem), (E = "java/lang/IllegalArgumentException" ∨ E = "java/lang/IllegalStateException") → Q' (some (xvE E)) M' → PWx G μ rm Q pc L M' (k + mc') (sl + ms') E) : PW G μ rm Q pc L st M k sl := by
  refine s_runX (μ := μ) (rest := rest) (mc' := mc') (ms' := ms') (Q' := Q') (a9 := #[]) hx ?_ kk kx
  intro p e s m args below meth c0 Z H locs ls C hE hl hR hS
  obtain ⟨w1, w2, w3, w4, w5, w6, w7, w8, w9, w10⟩ := hv
  have hts := C.2.2.2.2.1
  have hG := ws_good w1
  refine vx_runU (n := n) (C := clR c) (owner := μx.2.2.1.cls) (x := μx.2.2.1) (b := ad G a) (As := As.map (vj G)) (nL := μ.2.2.2.1) ⟨C.1, C.2.1, C.2.2.1, C.2.2.2.1, hts⟩ hM ⟨⟨rfl, rfl, hroom.1, ?_, pay_in hts hG, List.mem_cons_self⟩, hts _ w1, hts _ w8, w9, fun sig h => ?_, hts _ w3, hts _ w4, va_Decl.of (hts _ w7) (hts _ w2), hts _ w5, hts _ w6⟩ (preVx hR C.2.2.2.2.2.1 hE hS h14 hk As) rfl (by rw [List.length_map]; exact hn) hl.1 (st_map (ne0 hR hk) hst) (rest_room _ _ _ _ hrest) hc hcs
  · show 8 + (μ'.2.2.2.1 + 11) + 60 * (d' + 1) ≤ _
    have := hroom.2
    omega
  · rw [h] at w10
    exact (Option.some.inj w10).symm
/-- a method with a table of its own -/
abbrev mdW (μ : MD) : Cond := Cond.codeWith μ.2.2.1 μ.2.1 μ.2.2.2.1 μ.2.2.2.2 (hhT μ.2.2.1)
def CVW (own : String) (idx : Nat) (μ' : MD) (n : Nat) : Prop := mdW μ' ∈ gT ∧ Cond.methodLink own idx μ'.2.2.1 ∈ gT ∧ Cond.instanceMethod μ'.2.2.1 ∈ gT ∧ Cond.selects μ'.2.2.1.cls μ'.2.2.1 μ'.2.2.1 ∈ gT ∧ Cond.initialized μ'.2.2.1.cls ∈ gT ∧ notMH μ'.2.2.1.cls ∧ (parseMethodDescriptor μ'.2.2.1.desc).map (fun d => d.parameters.length) = some n
def CSW (own : String) (idx : Nat) (μ' : MD) (n : Nat) : Prop := mdW μ' ∈ gT ∧ Cond.methodLink own idx μ'.2.2.1 ∈ gT ∧ Cond.static μ'.2.2.1 ∈ gT ∧ Cond.initialized μ'.2.2.1.cls ∈ gT ∧ notMH μ'.2.2.1.cls ∧ (parseMethodDescriptor μ'.2.2.1.desc).map (fun d => d.parameters.length) = some n
theorem ws_goodW (h : mdW μ' ∈ gT) : GoodIn gT (mdW μ' :: gT) := fun w hw => by
  rcases List.mem_cons.mp hw with q | q
  · rw [q]; exact ⟨h, (gT_good _ h).2⟩
  · exact ⟨q, (gT_good _ q).2⟩
theorem s_callVW (hx : exb μ.2.2.1 = true) (hc : cod μ pc (.invokevirtual idx) 3) (hv : CVW μ.1 idx μ' n) (h14 : c < 14) (hcl : clR c = μ'.2.2.1.cls) (hk : mK M a = c + 1) (hn : As.length = n) (hst : st = As.reverse ++ .ref a :: rest) (hrest : (rest.map fun v => v.category).sum ≤ 8) (hroom : RmOK rm d' μ') (hcs : k + mc' ≤ rm.cells ∧ sl + ms' ≤ rm.slots)
    (hM : PMetX G μ' (mdW μ') d' mc' ms' (.ref a :: As) M Q') (kk : ∀ (v : Option Value) (M' : Mem), Q' v M' → nDv v → PW G μ rm Q (pc + 3) L (v.toList ++ rest) M' (k + mc') (sl + ms'))
    (kx : ∀ (E : String) (M' : Mem), (E = "java/lang/IllegalArgumentException" ∨ E = "java/lang/IllegalStateException") → Q' (some (xvE E)) M' → PWx G μ rm Q pc L M' (k + mc') (sl + ms') E) : PW G μ rm Q pc L st M k sl := by
  refine s_runX (μ := μ) (rest := rest) (mc' := mc') (ms' := ms') (Q' := Q') (a9 := #[]) hx ?_ kk kx
  intro p e s m args below meth c0 Z H locs ls C hE hl hR hS
  obtain ⟨w1, w2, w3, w4, w5, w6, w7⟩ := hv
  have hts := C.2.2.2.2.1
  refine vx_runVX (hh := hhT μ'.2.2.1) (n := n) (C := clR c) (b := ad G a) (As := As.map (vj G)) (nL := μ.2.2.2.1) ⟨C.1, C.2.1, C.2.2.1, C.2.2.2.1, hts⟩ hM ⟨⟨rfl, rfl, hroom.1, ?_, pay_in hts (ws_goodW w1), List.mem_cons_self⟩, hts _ w1, hts _ w5, w6, fun sig h => ?_, hts _ w2, hts _ w3, by rw [hcl]; exact hts _ w4⟩ (preVx hR C.2.2.2.2.2.1 hE hS h14 hk As) rfl (by rw [List.length_map]; exact hn) hl.1 (st_map (ne0 hR hk) hst) (rest_room _ _ _ _ hrest) hc hcs
  · show 8 + (μ'.2.2.2.1 + 11) + 60 * (d' + 1) ≤ _
    have := hroom.2
    omega
  · rw [h] at w7
    exact (Option.some.inj w7).symm
theorem s_callSW (hx : exb μ.2.2.1 = true) (hc : cod μ pc (.invokestatic idx) 3) (hv : CSW μ.1 idx μ' n) (hn : As.length = n) (hst : st = As.reverse ++ rest) (hrest : (rest.map fun v => v.category).sum ≤ 8) (hroom : RmOK rm d' μ') (hcs : k + mc' ≤ rm.cells ∧ sl + ms' ≤ rm.slots)
    (hM : PMetX G μ' (mdW μ') d' mc' ms' As M Q') (kk : ∀ (v : Option Value) (M' : Mem), Q' v M' → nDv v → PW G μ rm Q (pc + 3) L (v.toList ++ rest) M' (k + mc') (sl + ms'))
    (kx : ∀ (E : String) (M' : Mem), (E = "java/lang/IllegalArgumentException" ∨ E = "java/lang/IllegalStateException") → Q' (some (xvE E)) M' → PWx G μ rm Q pc L M' (k + mc') (sl + ms') E) : PW G μ rm Q pc L st M k sl := by
  refine s_runX (μ := μ) (rest := rest) (mc' := mc') (ms' := ms') (Q' := Q') (a9 := #[]) hx ?_ kk kx
  intro p e s m args below meth c0 Z H locs ls C hE hl hR hS
  obtain ⟨w1, w2, w3, w5, w6, w7⟩ := hv
  have hts := C.2.2.2.2.1
  refine vx_runSX (hh := hhT μ'.2.2.1) (n := n) (As := As.map (vj G)) (nL := μ.2.2.2.1) ⟨C.1, C.2.1, C.2.2.1, C.2.2.2.1, hts⟩ hM ⟨⟨rfl, rfl, hroom.1, ?_, pay_in hts (ws_goodW w1), List.mem_cons_self⟩, hts _ w1, hts _ w5, w6, fun sig h => ?_, hts _ w2, hts _ w3⟩ (preSx hR C.2.2.2.2.2.1 hE hS As) rfl (by rw [List.length_map]; exact hn) hl.1 (st_mapS hst) (rest_room _ _ _ _ hrest) hc hcs
  · show 8 + (μ'.2.2.2.1 + 11) + 60 * (d' + 1) ≤ _
    have := hroom.2
    omega
  · rw [h] at w7
    exact (Option.some.inj w7).symm
/-- from a body: what its end owes -/
theorem endX {μ : MD} {d mc ms : Nat} {p : Program} {e : Env} {s : State} {m : MethodId} {args : Array Value} {below : List Frame} {meth : Method} {c : Code} (hx : p.tables.exec = Jvm.exec) (hb : c.code = μ.2.1) (hr : meth.sig.returnType = μ.2.2.2.2) (hlocks : meth.locks = false) :
    EndOK G μ (rmD d mc ms) Q p e s m args below meth c (vx_MQ below (Qcc G (fun v M => Q v M ∧ nDv v)) (XCc G Q) args s mc ms (AG G)) := by
  intro H locs ls pc v M' k sl hR' hS' hq hk hsl hret
  refine W.widen hk hsl (vx_ret ?_)
  have nd : nDv v := by
    intro x hx
    subst hx
    exact hret
  have hend : ∀ t : State, t.heap = H → s.WarmedH t.vm → Qcc G (fun v M => Q v M ∧ nDv v) args s (.returned (v.map (vj G))) t := fun t ht hW => ⟨⟨v, M', rfl, ⟨hq, nd⟩, by rw [ht]; exact hR'⟩, hS'.F ht⟩
  match v, hret, hend with
  | none, hret, hend =>
    exact W.vret hx hb (hr.trans hret.2) (fun t ht hW => hend t ht hW) hS'.2.2 hret.1
  | some (.int x), hret, hend =>
    rcases hret.2 with q | ⟨q, hx01⟩
    · exact W.iret (v := x) hx hb (hr.trans q) (fun t ht hW => hend t ht hW) hS'.2.2 hret.1
    · refine W.zret (v := x) (ty := .boolean) hx hb (hr.trans q) ?_ (fun t ht hW => hend t ht hW) hS'.2.2 hret.1
      rcases hx01 with rfl | rfl <;> rfl
  | some (.long x), hret, hend => exact W.lret (v := x) hx hb (hr.trans hret.2) (fun t ht hW => hend t ht hW) hS'.2.2 hret.1
  | some (.ref a), hret, hend =>
    obtain ⟨n, q⟩ := hret.2
    refine W.aret (v := vj G (.ref a)) (rt := .object n) hx hb (hr.trans q) (Or.inl ⟨n, rfl⟩) ?_ (fun t ht hW => hend t ht hW) hS'.2.2 hret.1
    by_cases h0 : a = 0
    · subst h0; exact Or.inl rfl
    · exact Or.inr ⟨_, vj_ref h0⟩
theorem mk_metX {d mc ms : Nat} {as : List Value} (hy : plainName μ.2.2.1.cls = true) (hcls : μ.2.2.1.cls = μ.1) (hnl : (μ.2.2.1.name == "law") = false) (hht : hhT μ.2.2.1 = [])
    (hd : ∀ w ∈ as, ∀ x, w ≠ .double x) (hn : (eL as).length ≤ μ.2.2.2.1)
    (h : PW G μ (rmD d mc ms) Q 0 (eL as) [] M 0 0) : PMetX G μ (mdC μ) d mc ms as M Q := by
  refine vx_ofW (cc := μ.2.1) (maxL := μ.2.2.2.1) (ret := μ.2.2.2.2) hy rfl ?_
  intro p e s m args below meth c s₁ B hml htab hv
  obtain ⟨⟨rfl, hR, hK⟩, hE⟩ := hv
  have hts := atoms_spec (ws := mdC μ :: gT) B.pre
  have hown : s.vm.findClass μ.1 = some m.cls := by rw [← hcls]; exact findClass_of_methodNamed B.named
  have hin : meth.name = μ.2.2.1.name := (name_of_methodNamed B.named B.method).1
  have hz : G.2.2.2.1 ≤ s.heap.size := by have := hR.2.1; omega
  have ht : c.exceptionTable.toList = tableOf (hhT μ.2.2.1) := by
    rw [hht]
    exact List.eq_nil_iff_forall_not_mem.mpr htab
  rw [lg_entry_eq]
  have hlen : (lg_sl (as.map (vj G))).length ≤ μ.2.2.2.1 := by rw [lg_len as hd]; exact hn
  exact h p e s m _ below meth c _ s.heap [] _ ⟨B.exec, B.bytes, hml, hown, fun w hw => hts w (List.mem_cons_of_mem _ hw), hK, hz, hin, ⟨fun q => (by rw [hnl] at q; cases q), fun _ => ⟨hE, fun _ => ⟨B.notSynchronized, ht, fun t ht => ht⟩⟩⟩, endX B.exec B.bytes B.returns B.notSynchronized⟩ (lvL_entry hd hlen) hR va_S.rf
theorem mk_metW {d mc ms : Nat} {as : List Value} (hy : plainName μ.2.2.1.cls = true) (hcls : μ.2.2.1.cls = μ.1) (hnl : (μ.2.2.1.name == "law") = false)
    (hd : ∀ w ∈ as, ∀ x, w ≠ .double x) (hn : (eL as).length ≤ μ.2.2.2.1)
    (h : PW G μ (rmD d mc ms) Q 0 (eL as) [] M 0 0) : PMetX G μ (mdW μ) d mc ms as M Q := by
  refine vx_ofWH (cc := μ.2.1) (maxL := μ.2.2.2.1) (ret := μ.2.2.2.2) (hh := hhT μ.2.2.1) hy rfl ?_
  intro p e s m args below meth c s₁ B hml hv
  obtain ⟨⟨rfl, hR, hK⟩, hE⟩ := hv
  have hts := atoms_spec (ws := mdW μ :: gT) B.pre
  have hown : s.vm.findClass μ.1 = some m.cls := by rw [← hcls]; exact findClass_of_methodNamed B.named
  have hin : meth.name = μ.2.2.1.name := (name_of_methodNamed B.named B.method).1
  have hz : G.2.2.2.1 ≤ s.heap.size := by have := hR.2.1; omega
  have ht : c.exceptionTable.toList = tableOf (hhT μ.2.2.1) := vx_table (x := μ.2.2.1) B (hts _ List.mem_cons_self)
  rw [lg_entry_eq]
  have hlen : (lg_sl (as.map (vj G))).length ≤ μ.2.2.2.1 := by rw [lg_len as hd]; exact hn
  exact h p e s m _ below meth c _ s.heap [] _ ⟨B.exec, B.bytes, hml, hown, fun w hw => hts w (List.mem_cons_of_mem _ hw), hK, hz, hin, ⟨fun q => (by rw [hnl] at q; cases q), fun _ => ⟨hE, fun _ => ⟨B.notSynchronized, ht, fun t ht => ht⟩⟩⟩, endX B.exec B.bytes B.returns B.notSynchronized⟩ (lvL_entry hd hlen) hR va_S.rf
/-- super.m(..), where the superclass has m from its own superclass -/
theorem s_callUQ {x : MethodName} (hc : cod μ pc (.invokespecial idx) 3) (w1 : mdC μ' ∈ gT) (w2 : Cond.methodLink μ.1 idx x ∈ gT) (w3 : Cond.sameMethod x.cls μ'.2.2.1.cls x.name x.desc ∈ gT) (w4 : Cond.superclass μ.1 x.cls ∈ gT) (w5 : Cond.superclass x.cls μ'.2.2.1.cls ∈ gT) (w6 : Cond.instanceMethod μ'.2.2.1 ∈ gT) (w7 : Cond.initialized μ'.2.2.1.cls ∈ gT)
    (hxn : x.name = μ'.2.2.1.name) (hxd : x.desc = μ'.2.2.1.desc) (hno : x.name ≠ "<init>") (hpar : (parseMethodDescriptor μ'.2.2.1.desc).map (fun d => d.parameters.length) = some n)
    (h14 : c < 14) (hk : mK M a = c + 1) (hn : As.length = n) (hst : st = As.reverse ++ .ref a :: rest) (hrest : (rest.map fun v => v.category).sum ≤ 8) (hroom : RmOK rm d' μ') (hcs : k + mc' ≤ rm.cells ∧ sl + ms' ≤ rm.slots)
    (hM : PMet G μ' d' mc' ms' (.ref a :: As) M Q') (kk : ∀ (v : Option Value) (M' : Mem), Q' v M' → PW G μ rm Q (pc + 3) L (v.toList ++ rest) M' (k + mc') (sl + ms')) : PW G μ rm Q pc L st M k sl := by
  refine s_run (μ := μ) (rest := rest) (mc' := mc') (ms' := ms') (Q' := Q') (a9 := #[]) ?_ kk
  intro p e s m args below meth c0 Z H locs ls C hl hR hS
  have hts := C.2.2.2.2.1
  have hp := preV hR C.2.2.2.2.2.1 h14 hk As
  have hini := hts _ w7
  have hlo : 8 + (μ'.2.2.2.1 + 11) + (rmD d' mc' ms').locals ≤ rm.locals := by
    show 8 + (μ'.2.2.2.1 + 11) + 60 * (d' + 1) ≤ _
    have := hroom.2
    omega
  have hK : Back G.1 rm p e below s args μ'.2.2.1 3 8 (PreOf rm mc' ms' (Pcc G (.ref a :: As) M)) (PostOf (Qcc G Q') mc' ms' (AG G)) := back_of (bytes := μ'.2.1) (maxL := μ'.2.2.2.1) (ret := μ'.2.2.2.2) hM hp.1 rfl rfl hroom.1 hlo (pay_in hts (ws_good w1)) List.mem_cons_self (fun a' U hW => word_at hW (Or.inl (by first | rfl | simp [Cond.onTables, Cond.keeps, Cond.steady])) hini)
  obtain ⟨-, ⟨cellB, hcB, hoB, hclB⟩, hPc⟩ := hp
  obtain ⟨hfc, kB, hkB, -⟩ := (C.2.2.2.2.2.1.1 c h14).2
  have hkB : s.vm.classes[cellB.cls]? = some kB := by rw [Option.some.inj (hclB.symm.trans hfc)]; exact hkB
  obtain ⟨mk, methM, hnamed, hmethM, hstM, habM⟩ := Cond.instanceMethod_spec (hts _ w6)
  obtain ⟨methM', cM, hmethM', -, -, -, -, -, -, hsigM⟩ := Cond.code_spec hnamed (hts _ w1)
  cases hmethM.symm.trans hmethM'
  obtain ⟨ps, dk, kp, hps, hdk, hkp, hsuper, -, -, hnid⟩ := Cond.superclass_spec C.2.2.2.1 (hts _ w4)
  obtain ⟨pt, dk2, kp2, hpt, hdk2, hkp2, hsuper2, -, -, -⟩ := Cond.superclass_spec hps (hts _ w5)
  have hpm : pt = mk.cls := Option.some.inj (hpt.symm.trans (findClass_of_methodNamed hnamed))
  have hsub : s.vm.isSubclass ps mk.cls = true := by
    have hlt : ps < s.vm.classes.size := (Array.getElem?_eq_some_iff.mp hdk2).1
    obtain ⟨n9, hn9⟩ : ∃ n9, s.vm.classes.size = n9 + 1 := ⟨_, (Nat.succ_pred_eq_of_pos (Nat.lt_of_le_of_lt (Nat.zero_le _) hlt)).symm⟩
    rw [← hpm]
    unfold Vm.isSubclass
    rw [hn9]
    unfold Vm.isSubclassAux
    simp only [hdk2, hsuper2]
    unfold Vm.isSubclassAux
    simp
  have hnm : s.methodNamed? ⟨μ'.2.2.1.cls, x.name, x.desc⟩ = some mk := by rw [hxn, hxd]; exact hnamed
  intro T hT X
  obtain ⟨vm₁, X₁, hstep₁⟩ := X.invokespecialUp C.1 (own := μ.1) (owner := μ'.2.2.1.cls) (x := x) C.2.2.2.1 (hts _ w2) (hts _ w3) hnm hmethM hstM habM hno hdk hnid hps hsuper hsub (a := ad G a) (cell := cellB) (by rw [hT]; exact hcB)
    (fun z h => by rw [h] at hoB; cases hoB) hkB (g := F0 m pc ls (st.map (vj G))) rfl (argsL := As.map (vj G)) (rest := rest.map (vj G)) (by
      rw [List.length_map, hn]
      rw [hsigM] at hpar
      exact (Option.some.inj hpar).symm) (st_map (ne0 hR hk) hst) (by rw [C.2.1]; exact hc)
  obtain ⟨v, ⟨U', l2, c2, s2⟩, X', ⟨g', mk', t, L', e1, e2, hq, h1, hL, h2, h3⟩, hsteps⟩ := hK m meth c0 ⟨T.setVm vm₁, locs, k, sl⟩ { F0 m pc ls (st.map (vj G)) with stack := rest.map (vj G) } (.invokespecial idx) mk (Value.ref (ad G a) :: As.map (vj G)).toArray X₁ rfl (hl.1.trans C.2.2.1.symm) (by rw [C.2.1]; exact hc) (rest_room _ _ _ _ hrest) (X₁.named hnamed) ⟨hcs.1, hcs.2, hPc (T.setVm vm₁) hT X₁.warmed⟩
  dsimp only [Pt.U, Pt.locs, Pt.cells, Pt.slots] at X' e1 e2 h1 h2 h3 hsteps
  subst h1; subst h2; subst h3
  exact ⟨v, (T.setVm vm₁).calling g' mk' (Value.ref (ad G a) :: As.map (vj G)).toArray, t, U', L', hT, X', hL, e1, e2, hq, fun target h => hstep₁ _ (by rw [doInvoke_state]; exact hsteps.trans h)⟩
end EXC
/-! the way fails -/
theorem dX11_fail_0 : cod mX11_fail 0 (.aload_n 0) 1 := by decide +kernel
theorem dX11_fail_1 : cod mX11_fail 1 (.getfield 9) 3 := by decide +kernel
theorem dX11_fail_4 : cod mX11_fail 4 (.ifCond .le 13) 3 := by decide +kernel
theorem dX11_fail_7 : cod mX11_fail 7 (.new 31) 3 := by decide +kernel
theorem dX11_fail_10 : cod mX11_fail 10 .dup 1 := by decide +kernel
theorem dX11_fail_11 : cod mX11_fail 11 (.ldc 33) 2 := by decide +kernel
theorem dX11_fail_13 : cod mX11_fail 13 (.invokespecial 35) 3 := by decide +kernel
theorem dX11_fail_16 : cod mX11_fail 16 .athrow 1 := by decide +kernel
theorem dX11_fail_17 : cod mX11_fail 17 (.return_) 1 := by decide +kernel
def ISE : String := "java/lang/IllegalStateException"
def IAE : String := "java/lang/IllegalArgumentException"
/-- the two outcomes: nothing, or E -/
def QVX (Q : Mem → Prop) (QX : Mem → Prop) : Option Value → Mem → Prop := fun v M => (v = none ∧ Q M) ∨ (v = some (xvE ISE) ∧ QX M)
def wp_X11_fail (p0 : Nat) (M : Mem) (Q QX : Mem → Prop) : Prop := isW M p0 ∧ (mI M p0 0 ≤ 0 → Q M) ∧ (¬ mI M p0 0 ≤ 0 → ∀ n, QX (gr M n))
theorem T_X11_fail {G : GG} {Q QX : Mem → Prop} {M : Mem} {p0 : Nat} (h : wp_X11_fail p0 M Q QX) : PMetX G mX11_fail (mdC mX11_fail) 5 1 6 [.ref p0] M (QVX Q QX) :=
  mk_metX (by decide) rfl rfl rfl (by
    intro w hw x9 e9
    subst e9
    simp at hw) (Nat.le_of_ble_eq_true rfl) (s_pad (L1 := [some (.ref p0)]) 1 rfl (s_aload_n (pc := 0) dX11_fail_0 rfl (s_getW (pc := 1) dX11_fail_1 f_X11_9 h.1 (s_if_le (pc := 4) (tgt := 17) dX11_fail_4 rfl (fun c1 => s_return (pc := 17) dX11_fail_17 rfl (Nat.zero_le _) (Nat.zero_le _) (Or.inl ⟨rfl, h.2.1 c1⟩)) (fun c1 => s_throwS (pc := 7) (ik := 31) (is := 33) (ic := 35) (E := "java/lang/IllegalStateException") (text := "the way failed") rfl rfl rfl dX11_fail_7 dX11_fail_10 dX11_fail_11 dX11_fail_13 dX11_fail_16 (by decide) (Or.inr rfl) (g4 237 rfl rfl) (g1 22 rfl rfl) th_f (fun U h => h.2.2.2.1) (Nat.le_of_ble_eq_true rfl) (Nat.le_of_ble_eq_true rfl) ⟨Nat.le_refl _, Nat.le_refl _⟩ (fun n => Or.inr ⟨rfl, h.2.2 c1 n⟩))))))
/-! super, past a class -/
theorem dX3_failureNumber_0 : cod mX3_failureNumber 0 (.aload_n 0) 1 := by decide +kernel
theorem dX3_failureNumber_1 : cod mX3_failureNumber 1 (.invokespecial 24) 3 := by decide +kernel
theorem dX3_failureNumber_4 : cod mX3_failureNumber 4 (.bipush 100) 2 := by decide +kernel
theorem dX3_failureNumber_6 : cod mX3_failureNumber 6 (.iadd) 1 := by decide +kernel
theorem dX3_failureNumber_7 : cod mX3_failureNumber 7 (.ireturn) 1 := by decide +kernel
