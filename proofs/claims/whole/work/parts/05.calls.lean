/-! CALLS -/
theorem ws_good {μ' : MD} (h : mdC μ' ∈ gT) : GoodIn gT (mdC μ' :: gT) := fun w hw => by
  rcases List.mem_cons.mp hw with q | q
  · rw [q]; exact ⟨h, (gT_good _ h).2⟩
  · exact ⟨q, (gT_good _ q).2⟩
abbrev notMH (c : String) : Prop := c ≠ "java/lang/invoke/MethodHandle" ∧ c ≠ "java/lang/invoke/VarHandle"
/-- what a call's instruction links: virtual (the method is the receiver's own), static, constructor; of a nest mate; of a class above; overridden or inherited -/
def CV (own : String) (idx : Nat) (μ' : MD) (n : Nat) : Prop := mdC μ' ∈ gT ∧ Cond.methodLink own idx μ'.2.2.1 ∈ gT ∧ Cond.instanceMethod μ'.2.2.1 ∈ gT ∧ Cond.selects μ'.2.2.1.cls μ'.2.2.1 μ'.2.2.1 ∈ gT ∧ Cond.initialized μ'.2.2.1.cls ∈ gT ∧ notMH μ'.2.2.1.cls ∧ (parseMethodDescriptor μ'.2.2.1.desc).map (fun d => d.parameters.length) = some n
def CS (own : String) (idx : Nat) (μ' : MD) (n : Nat) : Prop := mdC μ' ∈ gT ∧ Cond.methodLink own idx μ'.2.2.1 ∈ gT ∧ Cond.static μ'.2.2.1 ∈ gT ∧ Cond.initialized μ'.2.2.1.cls ∈ gT ∧ notMH μ'.2.2.1.cls ∧ (parseMethodDescriptor μ'.2.2.1.desc).map (fun d => d.parameters.length) = some n
def CSN (own : String) (idx : Nat) (μ' : MD) (n : Nat) (host : String) : Prop := mdC μ' ∈ gT ∧ (own, idx, μ'.2.2.1, host) ∈ NLs ∧ Cond.static μ'.2.2.1 ∈ gT ∧ Cond.initialized μ'.2.2.1.cls ∈ gT ∧ notMH μ'.2.2.1.cls ∧ (parseMethodDescriptor μ'.2.2.1.desc).map (fun d => d.parameters.length) = some n
def CI (own : String) (idx : Nat) (μ' : MD) (n : Nat) : Prop := mdC μ' ∈ gT ∧ Cond.methodLink own idx μ'.2.2.1 ∈ gT ∧ Cond.instanceMethod μ'.2.2.1 ∈ gT ∧ Cond.initialized μ'.2.2.1.cls ∈ gT ∧ notMH μ'.2.2.1.cls ∧ (parseMethodDescriptor μ'.2.2.1.desc).map (fun d => d.parameters.length) = some n ∧ μ'.2.2.1.name = "<init>" ∧ μ'.2.2.2.2 = none
def CIN (own : String) (idx : Nat) (μ' : MD) (n : Nat) (host : String) : Prop := mdC μ' ∈ gT ∧ (own, idx, μ'.2.2.1, host) ∈ NLs ∧ Cond.instanceMethod μ'.2.2.1 ∈ gT ∧ Cond.initialized μ'.2.2.1.cls ∈ gT ∧ notMH μ'.2.2.1.cls ∧ (parseMethodDescriptor μ'.2.2.1.desc).map (fun d => d.parameters.length) = some n ∧ μ'.2.2.1.name = "<init>" ∧ μ'.2.2.2.2 = none
def CUP (own : String) (idx : Nat) (μ' : MD) (n : Nat) : Prop := mdC μ' ∈ gT ∧ Cond.methodLink own idx μ'.2.2.1 ∈ gT ∧ Cond.sameMethod μ'.2.2.1.cls μ'.2.2.1.cls μ'.2.2.1.name μ'.2.2.1.desc ∈ gT ∧ Cond.superclass own μ'.2.2.1.cls ∈ gT ∧ Cond.instanceMethod μ'.2.2.1 ∈ gT ∧ Cond.initialized μ'.2.2.1.cls ∈ gT ∧ (parseMethodDescriptor μ'.2.2.1.desc).map (fun d => d.parameters.length) = some n ∧ μ'.2.2.1.name ≠ "<init>"
def CU (own : String) (idx : Nat) (C : String) (μx μ' : MD) (n : Nat) : Prop := mdC μ' ∈ gT ∧ mdC μx ∈ gT ∧ Cond.methodLink own idx μx.2.2.1 ∈ gT ∧ Cond.sameMethod μx.2.2.1.cls μx.2.2.1.cls μx.2.2.1.name μx.2.2.1.desc ∈ gT ∧ Cond.selects C μx.2.2.1 μ'.2.2.1 ∈ gT ∧ Cond.instanceMethod μ'.2.2.1 ∈ gT ∧ Cond.instanceMethod μx.2.2.1 ∈ gT ∧ Cond.initialized μ'.2.2.1.cls ∈ gT ∧ notMH μx.2.2.1.cls ∧ (parseMethodDescriptor μx.2.2.1.desc).map (fun d => d.parameters.length) = some n
def RmOK (rm : Room) (d' : Nat) (μ' : MD) : Prop := d' + 2 ≤ rm.frames ∧ 19 + μ'.2.2.2.1 + 60 * (d' + 1) ≤ rm.locals
theorem rm_ok {d' d mc ms : Nat} {μ' : MD} (h : Nat.blt d' d = true) (h2 : Nat.ble μ'.2.2.2.1 41 = true) : RmOK (rmD d mc ms) d' μ' := by
  have h1 : d' < d := by simpa [Nat.blt_eq] using h
  have h3 : μ'.2.2.2.1 ≤ 41 := Nat.le_of_ble_eq_true h2
  refine ⟨?_, ?_⟩
  · show d' + 2 ≤ d + 1
    omega
  · show 19 + μ'.2.2.2.1 + 60 * (d' + 1) ≤ 60 * (d + 1)
    omega
section PWC
variable {G : GG} {μ : MD} {rm : Room} {Q : Option Value → Mem → Prop} {pc : Nat} {L : List (Option Value)} {st : List Value} {M : Mem} {k sl : Nat}
variable {idx c a n d' mc' ms' : Nat} {μ' : MD} {As rest : List Value} {Q' : Option Value → Mem → Prop}
theorem s_run {a9 : Array Value} (hrun : ∀ (p : Program) (e : Env) (s : State) (m : MethodId) (args : Array Value) (below : List Frame) (meth : Method) (c0 : Code) (Z : State → Prop) (H : Heap) (locs : List Loc) (ls : Array Slot),
      Cx G μ rm Q p e s m args below meth c0 Z → lvL G ls μ.2.2.2.1 L → Rel G M H → va_S (AG G) s.heap H locs → va_Run p G.1 e rm s m args below meth c0 H locs k sl mc' ms' (F0 m pc ls (st.map (vj G))) (rest.map (vj G)) (Qcc G Q' a9) (AG G))
    (kk : ∀ (v : Option Value) (M' : Mem), Q' v M' → PW G μ rm Q (pc + 3) L (v.toList ++ rest) M' (k + mc') (sl + ms')) : PW G μ rm Q pc L st M k sl := by
  intro p e s m args below meth c0 Z H locs ls C hl hR hS T hT X
  obtain ⟨v, st₀, t, T', L', h0, X', hL, e1, e2, ⟨⟨w, M', hv, hq, hR'⟩, hz, hk⟩, stp⟩ := hrun p e s m args below meth c0 Z H locs ls C hl hR hS T hT X
  cases hv
  rw [h0] at hz hk
  obtain ⟨t2, a1, b1⟩ := kk w M' hq p e s m args below meth c0 Z T'.heap (locs ++ L') ls C hl (by rw [e1]; exact hR')
    ⟨Nat.le_trans hS.1 (by rw [e1]; exact hz), fun q h1 h2 => by rw [e1, hk q (Nat.lt_of_lt_of_le h1 hS.1) h2]; exact hS.2.1 q h1 h2, fun q hq => by
      rcases List.mem_append.mp hq with h | h
      · exact hS.2.2 q h
      · exact hL q h⟩ T' rfl X'
  refine ⟨t2, stp t2 ?_, b1⟩
  have e9 : (w.toList ++ rest).map (vj G) = (w.map (vj G)).toList ++ rest.map (vj G) := by cases w <;> simp
  rw [e9] at a1
  exact a1
theorem rest_room (m : MethodId) (pc : Nat) (ls : Array Slot) (S : List Value) (h : (rest.map fun v => v.category).sum ≤ 8) : 2 * (F0 m pc ls S).monitorRoom + ((rest.map (vj G)).map fun v => v.category).sum ≤ 8 := by
  have e : ((rest.map (vj G)).map fun v => v.category) = rest.map fun v => v.category := by rw [List.map_map]; exact List.map_congr_left fun v _ => vj_cat G v
  rw [e]
  show 2 * 0 + _ ≤ 8
  omega
theorem cb_of {R : Room} {s : State} {args : Array Value} {own : String} (hts : ∀ w ∈ gT, w.before args s = true) (h1 : mdC μ' ∈ gT) (h2 : Cond.methodLink own idx μ'.2.2.1 ∈ gT) (h3 : Cond.initialized μ'.2.2.1.cls ∈ gT) (h4 : notMH μ'.2.2.1.cls) (h5 : (parseMethodDescriptor μ'.2.2.1.desc).map (fun d => d.parameters.length) = some n) (hr : RmOK R d' μ') :
    CallB R s args own idx μ'.2.2.1 μ'.2.1 μ'.2.2.2.1 μ'.2.2.2.2 (mdC μ' :: gT) (rmD d' mc' ms') mc' ms' n :=
  callB_of n hts (ws_good h1) rfl rfl rfl (hts _ h3) (hts _ h2) ⟨h4.1, h4.2, h5⟩ ⟨hr.1, by show 8 + (μ'.2.2.2.1 + 11) + 60 * (d' + 1) ≤ _; have := hr.2; omega⟩
theorem preS {s : State} {H : Heap} (hR : Rel G M H) (hK : KS G s) (as : List Value) : PreS s H (Pcc G as M) (as.map (vj G)) := ⟨Pcc_blind, fun U hU hW => ⟨rfl, by rw [hU]; exact hR, KS.warm hW hK⟩⟩
theorem recv {s : State} {H : Heap} (hR : Rel G M H) (hK : KS G s) (h14 : c < 14) (hk : mK M a = c + 1) : ∃ cellB : Cell, H[ad G a]? = some cellB ∧ cellB.vm.isStatics = false ∧ s.vm.findClass (clR c) = some cellB.cls := by
  obtain ⟨cell, g1, g2, g3, -⟩ := (hR.2.2.2 a).1 c h14 hk
  exact ⟨cell, g1, by rw [g3]; rfl, by rw [g2]; exact (hK.1 c h14).2.1⟩
theorem preV {s : State} {H : Heap} (hR : Rel G M H) (hK : KS G s) (h14 : c < 14) (hk : mK M a = c + 1) (as : List Value) : PreV s H (clR c) (ad G a) (Pcc G (.ref a :: as) M) (as.map (vj G)) := by
  have h0 : a ≠ 0 := by have := (hR.in (a := a) (by omega)).1; omega
  refine ⟨Pcc_blind, recv hR hK h14 hk, fun U hU hW => ⟨?_, by rw [hU]; exact hR, KS.warm hW hK⟩⟩
  rw [List.map_cons, vj_ref h0]
theorem st_map {a : Nat} (h0 : a ≠ 0) (hst : st = As.reverse ++ .ref a :: rest) : st.map (vj G) = (As.map (vj G)).reverse ++ .ref (ad G a) :: rest.map (vj G) := by
  rw [hst, List.map_append, List.map_reverse, List.map_cons, vj_ref h0]
theorem st_mapS (hst : st = As.reverse ++ rest) : st.map (vj G) = (As.map (vj G)).reverse ++ rest.map (vj G) := by
  rw [hst, List.map_append, List.map_reverse]
theorem ne0 {H : Heap} (hR : Rel G M H) (hk : mK M a = c + 1) : a ≠ 0 := by have := (hR.in (a := a) (by omega)).1; omega
theorem s_callV (hc : cod μ pc (.invokevirtual idx) 3) (hv : CV μ.1 idx μ' n) (h14 : c < 14) (hcl : clR c = μ'.2.2.1.cls) (hk : mK M a = c + 1) (hn : As.length = n) (hst : st = As.reverse ++ .ref a :: rest) (hrest : (rest.map fun v => v.category).sum ≤ 8) (hroom : RmOK rm d' μ') (hcs : k + mc' ≤ rm.cells ∧ sl + ms' ≤ rm.slots)
    (hM : PMet G μ' d' mc' ms' (.ref a :: As) M Q') (kk : ∀ (v : Option Value) (M' : Mem), Q' v M' → PW G μ rm Q (pc + 3) L (v.toList ++ rest) M' (k + mc') (sl + ms')) : PW G μ rm Q pc L st M k sl := by
  refine s_run (μ := μ) (rest := rest) (mc' := mc') (ms' := ms') (Q' := Q') (a9 := #[]) ?_ kk
  intro p e s m args below meth c0 Z H locs ls C hl hR hS
  obtain ⟨w1, w2, w3, w4, w5, w6, w7⟩ := hv
  have hts := C.2.2.2.2.1
  exact va_runV (C := clR c) (b := ad G a) (As := As.map (vj G)) (nL := μ.2.2.2.1) ⟨C.1, C.2.1, C.2.2.1, C.2.2.2.1, hts⟩ hM ⟨cb_of hts w1 w2 w5 w6 w7 hroom, hts _ w3, by rw [hcl]; exact hts _ w4⟩ (preV hR C.2.2.2.2.2.1 h14 hk As) rfl (by rw [List.length_map]; exact hn) hl.1 (st_map (ne0 hR hk) hst) (rest_room _ _ _ _ hrest) hc hcs
theorem s_callS (hc : cod μ pc (.invokestatic idx) 3) (hv : CS μ.1 idx μ' n) (hn : As.length = n) (hst : st = As.reverse ++ rest) (hrest : (rest.map fun v => v.category).sum ≤ 8) (hroom : RmOK rm d' μ') (hcs : k + mc' ≤ rm.cells ∧ sl + ms' ≤ rm.slots)
    (hM : PMet G μ' d' mc' ms' As M Q') (kk : ∀ (v : Option Value) (M' : Mem), Q' v M' → PW G μ rm Q (pc + 3) L (v.toList ++ rest) M' (k + mc') (sl + ms')) : PW G μ rm Q pc L st M k sl := by
  refine s_run (μ := μ) (rest := rest) (mc' := mc') (ms' := ms') (Q' := Q') (a9 := #[]) ?_ kk
  intro p e s m args below meth c0 Z H locs ls C hl hR hS
  obtain ⟨w1, w2, w3, w5, w6, w7⟩ := hv
  have hts := C.2.2.2.2.1
  exact va_runS (As := As.map (vj G)) (nL := μ.2.2.2.1) ⟨C.1, C.2.1, C.2.2.1, C.2.2.2.1, hts⟩ hM ⟨cb_of hts w1 w2 w5 w6 w7 hroom, hts _ w3⟩ (preS hR C.2.2.2.2.2.1 As) rfl (by rw [List.length_map]; exact hn) hl.1 (st_mapS hst) (rest_room _ _ _ _ hrest) hc hcs
theorem cn_of {R : Room} {s : State} {args : Array Value} {own host : String} (hkn : KN s) (hts : ∀ w ∈ gT, w.before args s = true) (h1 : mdC μ' ∈ gT) (h2 : (own, idx, μ'.2.2.1, host) ∈ NLs) (h3 : Cond.initialized μ'.2.2.1.cls ∈ gT) (h4 : notMH μ'.2.2.1.cls) (h5 : (parseMethodDescriptor μ'.2.2.1.desc).map (fun d => d.parameters.length) = some n) (hr : RmOK R d' μ') :
    va_CN R s args own idx μ'.2.2.1 host μ'.2.1 μ'.2.2.2.1 μ'.2.2.2.2 (mdC μ' :: gT) (rmD d' mc' ms') mc' ms' n :=
  va_cnB n hts (ws_good h1) rfl rfl rfl (hkn _ h2) (hts _ h3) ⟨h4.1, h4.2, h5⟩ ⟨hr.1, by show 8 + (μ'.2.2.2.1 + 11) + 60 * (d' + 1) ≤ _; have := hr.2; omega⟩
theorem s_callSN {host : String} (hc : cod μ pc (.invokestatic idx) 3) (hv : CSN μ.1 idx μ' n host) (hn : As.length = n) (hst : st = As.reverse ++ rest) (hrest : (rest.map fun v => v.category).sum ≤ 8) (hroom : RmOK rm d' μ') (hcs : k + mc' ≤ rm.cells ∧ sl + ms' ≤ rm.slots)
    (hM : PMet G μ' d' mc' ms' As M Q') (kk : ∀ (v : Option Value) (M' : Mem), Q' v M' → PW G μ rm Q (pc + 3) L (v.toList ++ rest) M' (k + mc') (sl + ms')) : PW G μ rm Q pc L st M k sl := by
  refine s_run (μ := μ) (rest := rest) (mc' := mc') (ms' := ms') (Q' := Q') (a9 := #[]) ?_ kk
  intro p e s m args below meth c0 Z H locs ls C hl hR hS
  obtain ⟨w1, w2, w3, w5, w6, w7⟩ := hv
  have hts := C.2.2.2.2.1
  exact va_runSN (As := As.map (vj G)) (nL := μ.2.2.2.1) ⟨C.1, C.2.1, C.2.2.1, C.2.2.2.1, hts⟩ hM ⟨cn_of C.2.2.2.2.2.1.2.2.2.2.2 hts w1 w2 w5 w6 w7 hroom, hts _ w3, trivial⟩ (preS hR C.2.2.2.2.2.1 As) rfl (by rw [List.length_map]; exact hn) hl.1 (st_mapS hst) (rest_room _ _ _ _ hrest) hc hcs
theorem s_callI (hc : cod μ pc (.invokespecial idx) 3) (hv : CI μ.1 idx μ' n) (ha : a ≠ 0) (hn : As.length = n) (hst : st = As.reverse ++ .ref a :: rest) (hrest : (rest.map fun v => v.category).sum ≤ 8) (hroom : RmOK rm d' μ') (hcs : k + mc' ≤ rm.cells ∧ sl + ms' ≤ rm.slots)
    (hM : PMet G μ' d' mc' ms' (.ref a :: As) M Q') (kk : ∀ (v : Option Value) (M' : Mem), Q' v M' → PW G μ rm Q (pc + 3) L (v.toList ++ rest) M' (k + mc') (sl + ms')) : PW G μ rm Q pc L st M k sl := by
  refine s_run (μ := μ) (rest := rest) (mc' := mc') (ms' := ms') (Q' := Q') (a9 := #[]) ?_ kk
  intro p e s m args below meth c0 Z H locs ls C hl hR hS
  obtain ⟨w1, w2, w3, w5, w6, w7, w8, w9⟩ := hv
  have hts := C.2.2.2.2.1
  have hcb := cb_of (mc' := mc') (ms' := ms') (args := args) (s := s) hts w1 w2 w5 w6 w7 hroom
  rw [w9] at hcb
  have hp := preS (M := M) (s := s) (H := H) hR C.2.2.2.2.2.1 (.ref a :: As)
  rw [List.map_cons, vj_ref ha] at hp
  exact va_runI (b := ad G a) (As := As.map (vj G)) (nL := μ.2.2.2.1) ⟨C.1, C.2.1, C.2.2.1, C.2.2.2.1, hts⟩ hM ⟨hcb, w8, hts _ w3⟩ hp rfl (by rw [List.length_map]; exact hn) hl.1 (st_map ha hst) (rest_room _ _ _ _ hrest) hc hcs
theorem s_callIN {host : String} (hc : cod μ pc (.invokespecial idx) 3) (hv : CIN μ.1 idx μ' n host) (ha : a ≠ 0) (hn : As.length = n) (hst : st = As.reverse ++ .ref a :: rest) (hrest : (rest.map fun v => v.category).sum ≤ 8) (hroom : RmOK rm d' μ') (hcs : k + mc' ≤ rm.cells ∧ sl + ms' ≤ rm.slots)
    (hM : PMet G μ' d' mc' ms' (.ref a :: As) M Q') (kk : ∀ (v : Option Value) (M' : Mem), Q' v M' → PW G μ rm Q (pc + 3) L (v.toList ++ rest) M' (k + mc') (sl + ms')) : PW G μ rm Q pc L st M k sl := by
  refine s_run (μ := μ) (rest := rest) (mc' := mc') (ms' := ms') (Q' := Q') (a9 := #[]) ?_ kk
  intro p e s m args below meth c0 Z H locs ls C hl hR hS
  obtain ⟨w1, w2, w3, w5, w6, w7, w8, w9⟩ := hv
  have hts := C.2.2.2.2.1
  have hcb := cn_of (mc' := mc') (ms' := ms') (args := args) (s := s) C.2.2.2.2.2.1.2.2.2.2.2 hts w1 w2 w5 w6 w7 hroom
  rw [w9] at hcb
  have hp := preS (M := M) (s := s) (H := H) hR C.2.2.2.2.2.1 (.ref a :: As)
  rw [List.map_cons, vj_ref ha] at hp
  exact va_runIN (b := ad G a) (As := As.map (vj G)) (nL := μ.2.2.2.1) ⟨C.1, C.2.1, C.2.2.1, C.2.2.2.1, hts⟩ hM ⟨hcb, w8, hts _ w3⟩ hp rfl (by rw [List.length_map]; exact hn) hl.1 (st_map ha hst) (rest_room _ _ _ _ hrest) hc hcs
theorem s_callUP (hc : cod μ pc (.invokespecial idx) 3) (hv : CUP μ.1 idx μ' n) (h14 : c < 14) (hk : mK M a = c + 1) (hn : As.length = n) (hst : st = As.reverse ++ .ref a :: rest) (hrest : (rest.map fun v => v.category).sum ≤ 8) (hroom : RmOK rm d' μ') (hcs : k + mc' ≤ rm.cells ∧ sl + ms' ≤ rm.slots)
    (hM : PMet G μ' d' mc' ms' (.ref a :: As) M Q') (kk : ∀ (v : Option Value) (M' : Mem), Q' v M' → PW G μ rm Q (pc + 3) L (v.toList ++ rest) M' (k + mc') (sl + ms')) : PW G μ rm Q pc L st M k sl := by
  refine s_run (μ := μ) (rest := rest) (mc' := mc') (ms' := ms') (Q' := Q') (a9 := #[]) ?_ kk
  intro p e s m args below meth c0 Z H locs ls C hl hR hS
  obtain ⟨w1, w2, w3, w4, w5, w6, w7, w8⟩ := hv
  have hts := C.2.2.2.2.1
  have hG := ws_good w1
  refine va_runSU (n := n) (C := clR c) (b := ad G a) (As := As.map (vj G)) (nL := μ.2.2.2.1) (C.2.2.2.2.2.1.1 c h14).2 ⟨C.1, C.2.1, C.2.2.1, C.2.2.2.1, hts⟩ hM ⟨⟨rfl, rfl, hroom.1, ?_, pay_in hts hG, List.mem_cons_self⟩, hts _ w2, hts _ w3, hts _ w4, hts _ w5, hts _ w6, hts _ w1, w8, fun sig h => ?_⟩ (preV hR C.2.2.2.2.2.1 h14 hk As) rfl (by rw [List.length_map]; exact hn) hl.1 (st_map (ne0 hR hk) hst) (rest_room _ _ _ _ hrest) hc hcs
  · show 8 + (μ'.2.2.2.1 + 11) + 60 * (d' + 1) ≤ _
    have := hroom.2
    omega
  · rw [h] at w7
    exact (Option.some.inj w7).symm
theorem s_callU {μx : MD} (hc : cod μ pc (.invokevirtual idx) 3) (hv : CU μ.1 idx (clR c) μx μ' n) (h14 : c < 14) (hk : mK M a = c + 1) (hn : As.length = n) (hst : st = As.reverse ++ .ref a :: rest) (hrest : (rest.map fun v => v.category).sum ≤ 8) (hroom : RmOK rm d' μ') (hcs : k + mc' ≤ rm.cells ∧ sl + ms' ≤ rm.slots)
    (hM : PMet G μ' d' mc' ms' (.ref a :: As) M Q') (kk : ∀ (v : Option Value) (M' : Mem), Q' v M' → PW G μ rm Q (pc + 3) L (v.toList ++ rest) M' (k + mc') (sl + ms')) : PW G μ rm Q pc L st M k sl := by
  refine s_run (μ := μ) (rest := rest) (mc' := mc') (ms' := ms') (Q' := Q') (a9 := #[]) ?_ kk
  intro p e s m args below meth c0 Z H locs ls C hl hR hS
  obtain ⟨w1, w2, w3, w4, w5, w6, w7, w8, w9, w10⟩ := hv
  have hts := C.2.2.2.2.1
  have hG := ws_good w1
  refine va_runU (n := n) (C := clR c) (owner := μx.2.2.1.cls) (x := μx.2.2.1) (b := ad G a) (As := As.map (vj G)) (nL := μ.2.2.2.1) ⟨C.1, C.2.1, C.2.2.1, C.2.2.2.1, hts⟩ hM ⟨⟨rfl, rfl, hroom.1, ?_, pay_in hts hG, List.mem_cons_self⟩, hts _ w1, hts _ w8, w9, fun sig h => ?_, hts _ w3, hts _ w4, va_Decl.of (hts _ w7) (hts _ w2), hts _ w5, hts _ w6⟩ (preV hR C.2.2.2.2.2.1 h14 hk As) rfl (by rw [List.length_map]; exact hn) hl.1 (st_map (ne0 hR hk) hst) (rest_room _ _ _ _ hrest) hc hcs
  · show 8 + (μ'.2.2.2.1 + 11) + 60 * (d' + 1) ≤ _
    have := hroom.2
    omega
  · rw [h] at w10
    exact (Option.some.inj w10).symm
/-- System.arraycopy of rows of ints, of longs -/
def CpOK (own : String) (idx : Nat) : Prop := Cond.methodLink own idx arraycopyName ∈ gT ∧ Cond.native arraycopyName ∈ gT ∧ Cond.static arraycopyName ∈ gT ∧ Cond.initialized "java/lang/System" ∈ gT
theorem nn_i {z : Int32} (hz : ¬ z < 0) : z.toInt = (z.toNatClampNeg : Int) := by
  have hz0 : (0 : Int) ≤ z.toInt := by
    have := Int32.not_lt.mp hz
    simpa using Int32.le_iff_toInt_le.mp this
  show z.toInt = ((z.toInt.toNat : Nat) : Int)
  omega
theorem s_copyI {sp dp n : Int32} {a0 : Nat} (hc : cod μ pc (.invokestatic idx) 3) (hw : CpOK μ.1 idx) (hk0 : mK M a0 = 20) (hk1 : mK M a = 20) (h1 : ¬ sp < 0) (h2 : ¬ dp < 0) (h3 : ¬ n < 0) (h4 : sp.toNatClampNeg + n.toNatClampNeg ≤ mN M a0) (h5 : dp.toNatClampNeg + n.toNatClampNeg ≤ mN M a) (hfr : 1 ≤ rm.frames) (hlo : (rest.map fun v => v.category).sum + (nativeFrameWords "java/lang/System" "arraycopy" 5 + 11) ≤ rm.locals)
    (kk : PW G μ rm Q (pc + 3) L rest (wI M a (va_cpy (mI M a0) (mI M a) sp.toNatClampNeg dp.toNatClampNeg n.toNatClampNeg)) k sl) : PW G μ rm Q pc L (.int n :: .int dp :: .ref a :: .int sp :: .ref a0 :: rest) M k sl := by
  intro p e s m args below meth c0 Z H locs ls C hl hR hS
  have hts := C.2.2.2.2.1
  obtain ⟨w1, w2, w3, w4⟩ := hw
  have h0 : mK M a ≠ 0 := by omega
  have h00 : mK M a0 ≠ 0 := by omega
  have hc0 := (hR.2.2.2 a0).2 0 (by omega) hk0
  have hc1 := (hR.2.2.2 a).2 0 (by omega) hk1
  have hty := (C.2.2.2.2.2.1.2.1 0 (by omega)).1
  rw [List.map_cons, List.map_cons, List.map_cons, List.map_cons, List.map_cons, vj_ref (a := a) (show a ≠ 0 by have := (hR.in h0).1; omega), vj_ref (a := a0) (show a0 ≠ 0 by have := (hR.in h00).1; omega)]
  intro T hT X
  obtain ⟨-, k0, hk0', cm0, hkk0⟩ := hty (mN M a0) (av G M 0 a0)
  obtain ⟨vm', X', step⟩ := X.arraycopy C.1 C.2.2.2.1 (hts _ w1) (hts _ w2) (hts _ w3) (hts _ w4) (src := ad G a0) (dst := ad G a) (cs := arrV (G.2.2.1 0) (mN M a0) (av G M 0 a0)) (cd := arrV (G.2.2.1 0) (mN M a) (av G M 0 a)) (srcPos := sp) (destPos := dp) (n := n) (by rw [hT]; exact hc0) (by rw [hT]; exact hc1)
    (fun _ h => by cases h) (fun _ h => by cases h) (fun h => by cases h) (fun h => by cases h) hk0' hk0' hkk0 hkk0 (by simp [ATy, refKind]) h1 h2 h3
    (by rw [nn_i h1, nn_i h3, arrV_size]; omega)
    (by rw [nn_i h2, nn_i h3, arrV_size]; omega)
    (fun vm₁ _ i hi => by
      have e : (arrV (G.2.2.1 0) (mN M a0) (av G M 0 a0)).slots.getD (sp.toNatClampNeg + i) .null = .int (mI M a0 (sp.toNatClampNeg + i)) := by
        rw [Array.getD_eq_getD_getElem?, arrV_read _ _ (by omega)]
        rfl
      rw [e]
      exact ⟨rfl, trivial⟩)
    (g := F0 m pc ls (.int n :: .int dp :: .ref (ad G a) :: .int sp :: .ref (ad G a0) :: rest.map (vj G))) rfl (hl.1.trans C.2.2.1.symm) (rest := rest.map (vj G)) rfl (by rw [C.2.1]; exact hc) hfr (by
      have e9 : ((rest.map (vj G)).map fun v => v.category) = rest.map fun v => v.category := by rw [List.map_map]; exact List.map_congr_left fun v _ => vj_cat G v
      rw [e9]
      show 2 * 0 + _ + _ ≤ _
      omega)
  generalize hf : va_cpy (mI M a0) (mI M a) sp.toNatClampNeg dp.toNatClampNeg n.toNatClampNeg = f at kk
  have e1 : copied (arrV (G.2.2.1 0) (mN M a0) (av G M 0 a0)) (arrV (G.2.2.1 0) (mN M a) (av G M 0 a)) sp dp n = arrV (G.2.2.1 0) (mN M a) (fun j => .int (f j)) := by
    rw [← hf]
    exact va_copied (fun z : Int32 => Value.int z) (G.2.2.1 0) (G.2.2.1 0) (mI M a0) (mI M a) h4
  rw [e1] at X' step
  have hl9 : ad G a < H.size := (Array.getElem?_eq_some_iff.mp hc1).1
  have hheap : ((T.setVm vm').setCell (ad G a) (arrV (G.2.2.1 0) (mN M a) (fun j => .int (f j)))).heap = H.setIfInBounds (ad G a) (arrV (G.2.2.1 0) (mN M a) (fun j => .int (f j))) := by rw [← hT]; rfl
  have oq : ∀ q : Nat, q ≠ ad G a → (H.setIfInBounds (ad G a) (arrV (G.2.2.1 0) (mN M a) (fun j => .int (f j))))[q]? = H[q]? := fun q hq => by simp [Array.getElem?_setIfInBounds, Ne.symm hq]
  have hA : AG G (ad G a) := by
    rw [ad_eq (hR.in h0).1]
    exact Nat.le_add_right _ _
  obtain ⟨t, a1, b1⟩ := kk p e s m args below meth c0 Z _ _ ls C hl (hR.put h0 rfl rfl rfl (fun b hb => up1_ne hb) (fun _ _ => rfl) (fun _ _ => rfl) (by simp) oq ⟨fun c9 hc9 hkc => by
      have hkc : mK M a = c9 + 1 := hkc
      omega, fun t9 ht9 hkt => by
      have hkt : mK M a = 20 + t9 := hkt
      have : t9 = 0 := by omega
      subst this
      rw [show (H.setIfInBounds (ad G a) (arrV (G.2.2.1 0) (mN M a) (fun j => .int (f j))))[ad G a]? = some (arrV (G.2.2.1 0) (mN M a) (fun j => .int (f j))) by simp [Array.getElem?_setIfInBounds, hl9]]
      refine congrArg some (congrArg (arrV _ _) (funext fun q => ?_))
      show Value.int (f q) = Value.int (up1 (mI M) a f a q)
      rw [show up1 (mI M) a f a = f from if_pos rfl]⟩)
    ⟨by simp; exact hS.1, fun q g1 g2 => by
      rw [oq q (fun e => g2 (by rw [e]; exact hA))]
      exact hS.2.1 q g1 g2, fun q hq => by
      rcases List.mem_append.mp hq with h | h
      · exact hS.2.2 q h
      · obtain ⟨z, -, hz⟩ := List.mem_map.mp h
        rw [← hz]
        exact hA⟩ _ hheap X'
  exact ⟨t, step t a1, b1⟩
theorem s_copyJ {sp dp n : Int32} {a0 : Nat} (hc : cod μ pc (.invokestatic idx) 3) (hw : CpOK μ.1 idx) (hk0 : mK M a0 = 21) (hk1 : mK M a = 21) (h1 : ¬ sp < 0) (h2 : ¬ dp < 0) (h3 : ¬ n < 0) (h4 : sp.toNatClampNeg + n.toNatClampNeg ≤ mN M a0) (h5 : dp.toNatClampNeg + n.toNatClampNeg ≤ mN M a) (hfr : 1 ≤ rm.frames) (hlo : (rest.map fun v => v.category).sum + (nativeFrameWords "java/lang/System" "arraycopy" 5 + 11) ≤ rm.locals)
    (kk : PW G μ rm Q (pc + 3) L rest (wJ M a (va_cpy (mJ M a0) (mJ M a) sp.toNatClampNeg dp.toNatClampNeg n.toNatClampNeg)) k sl) : PW G μ rm Q pc L (.int n :: .int dp :: .ref a :: .int sp :: .ref a0 :: rest) M k sl := by
  intro p e s m args below meth c0 Z H locs ls C hl hR hS
  have hts := C.2.2.2.2.1
  obtain ⟨w1, w2, w3, w4⟩ := hw
  have h0 : mK M a ≠ 0 := by omega
  have h00 : mK M a0 ≠ 0 := by omega
  have hc0 := (hR.2.2.2 a0).2 1 (by omega) hk0
  have hc1 := (hR.2.2.2 a).2 1 (by omega) hk1
  have hty := (C.2.2.2.2.2.1.2.1 1 (by omega)).1
  rw [List.map_cons, List.map_cons, List.map_cons, List.map_cons, List.map_cons, vj_ref (a := a) (show a ≠ 0 by have := (hR.in h0).1; omega), vj_ref (a := a0) (show a0 ≠ 0 by have := (hR.in h00).1; omega)]
  intro T hT X
  obtain ⟨-, k0, hk0', cm0, hkk0⟩ := hty (mN M a0) (av G M 1 a0)
  obtain ⟨vm', X', step⟩ := X.arraycopy C.1 C.2.2.2.1 (hts _ w1) (hts _ w2) (hts _ w3) (hts _ w4) (src := ad G a0) (dst := ad G a) (cs := arrV (G.2.2.1 1) (mN M a0) (av G M 1 a0)) (cd := arrV (G.2.2.1 1) (mN M a) (av G M 1 a)) (srcPos := sp) (destPos := dp) (n := n) (by rw [hT]; exact hc0) (by rw [hT]; exact hc1)
    (fun _ h => by cases h) (fun _ h => by cases h) (fun h => by cases h) (fun h => by cases h) hk0' hk0' hkk0 hkk0 (by simp [ATy, refKind]) h1 h2 h3
    (by rw [nn_i h1, nn_i h3, arrV_size]; omega)
    (by rw [nn_i h2, nn_i h3, arrV_size]; omega)
    (fun vm₁ _ i hi => by
      have e : (arrV (G.2.2.1 1) (mN M a0) (av G M 1 a0)).slots.getD (sp.toNatClampNeg + i) .null = .long (mJ M a0 (sp.toNatClampNeg + i)) := by
        rw [Array.getD_eq_getD_getElem?, arrV_read _ _ (by omega)]
        rfl
      rw [e]
      exact ⟨rfl, trivial⟩)
    (g := F0 m pc ls (.int n :: .int dp :: .ref (ad G a) :: .int sp :: .ref (ad G a0) :: rest.map (vj G))) rfl (hl.1.trans C.2.2.1.symm) (rest := rest.map (vj G)) rfl (by rw [C.2.1]; exact hc) hfr (by
      have e9 : ((rest.map (vj G)).map fun v => v.category) = rest.map fun v => v.category := by rw [List.map_map]; exact List.map_congr_left fun v _ => vj_cat G v
      rw [e9]
      show 2 * 0 + _ + _ ≤ _
      omega)
  generalize hf : va_cpy (mJ M a0) (mJ M a) sp.toNatClampNeg dp.toNatClampNeg n.toNatClampNeg = f at kk
  have e1 : copied (arrV (G.2.2.1 1) (mN M a0) (av G M 1 a0)) (arrV (G.2.2.1 1) (mN M a) (av G M 1 a)) sp dp n = arrV (G.2.2.1 1) (mN M a) (fun j => .long (f j)) := by
    rw [← hf]
    exact va_copied (fun z : Int64 => Value.long z) (G.2.2.1 1) (G.2.2.1 1) (mJ M a0) (mJ M a) h4
  rw [e1] at X' step
  have hl9 : ad G a < H.size := (Array.getElem?_eq_some_iff.mp hc1).1
  have hheap : ((T.setVm vm').setCell (ad G a) (arrV (G.2.2.1 1) (mN M a) (fun j => .long (f j)))).heap = H.setIfInBounds (ad G a) (arrV (G.2.2.1 1) (mN M a) (fun j => .long (f j))) := by rw [← hT]; rfl
  have oq : ∀ q : Nat, q ≠ ad G a → (H.setIfInBounds (ad G a) (arrV (G.2.2.1 1) (mN M a) (fun j => .long (f j))))[q]? = H[q]? := fun q hq => by simp [Array.getElem?_setIfInBounds, Ne.symm hq]
  have hA : AG G (ad G a) := by
    rw [ad_eq (hR.in h0).1]
    exact Nat.le_add_right _ _
  obtain ⟨t, a1, b1⟩ := kk p e s m args below meth c0 Z _ _ ls C hl (hR.put h0 rfl rfl rfl (fun _ _ => rfl) (fun b hb => up1_ne hb) (fun _ _ => rfl) (by simp) oq ⟨fun c9 hc9 hkc => by
      have hkc : mK M a = c9 + 1 := hkc
      omega, fun t9 ht9 hkt => by
      have hkt : mK M a = 20 + t9 := hkt
      have : t9 = 1 := by omega
      subst this
      rw [show (H.setIfInBounds (ad G a) (arrV (G.2.2.1 1) (mN M a) (fun j => .long (f j))))[ad G a]? = some (arrV (G.2.2.1 1) (mN M a) (fun j => .long (f j))) by simp [Array.getElem?_setIfInBounds, hl9]]
      refine congrArg some (congrArg (arrV _ _) (funext fun q => ?_))
      show Value.long (f q) = Value.long (up1 (mJ M) a f a q)
      rw [show up1 (mJ M) a f a = f from if_pos rfl]⟩)
    ⟨by simp; exact hS.1, fun q g1 g2 => by
      rw [oq q (fun e => g2 (by rw [e]; exact hA))]
      exact hS.2.1 q g1 g2, fun q hq => by
      rcases List.mem_append.mp hq with h | h
      · exact hS.2.2 q h
      · obtain ⟨z, -, hz⟩ := List.mem_map.mp h
        rw [← hz]
        exact hA⟩ _ hheap X'
  exact ⟨t, step t a1, b1⟩
end PWC
