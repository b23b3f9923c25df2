/-! THE LAYER: memory as functions, a method's body at a pc -/
abbrev GG : Type := Launch × va_G × (Nat → ClassId) × Nat × Nat × Nat × (Nat → Int32)
abbrev Mem : Type := Nat × (Nat → Nat) × (Nat → Nat) × (Nat → Nat → Int32) × (Nat → Nat → Int64) × (Nat → Nat → Nat)
def mT (M : Mem) : Nat := M.1
def mK (M : Mem) : Nat → Nat := M.2.1
def mN (M : Mem) : Nat → Nat := M.2.2.1
def mI (M : Mem) : Nat → Nat → Int32 := M.2.2.2.1
def mJ (M : Mem) : Nat → Nat → Int64 := M.2.2.2.2.1
def mR (M : Mem) : Nat → Nat → Nat := M.2.2.2.2.2
def up2 {α : Type} (f : Nat → Nat → α) (a k : Nat) (v : α) : Nat → Nat → α := fun a' k' => if a' = a then (if k' = k then v else f a' k') else f a' k'
def up1 {α : Type} (f : Nat → α) (a : Nat) (v : α) : Nat → α := fun a' => if a' = a then v else f a'
/-- a field or an element -/
def uI (M : Mem) (a k : Nat) (v : Int32) : Mem := (mT M, mK M, mN M, up2 (mI M) a k v, mJ M, mR M)
def uJ (M : Mem) (a k : Nat) (v : Int64) : Mem := (mT M, mK M, mN M, mI M, up2 (mJ M) a k v, mR M)
def uR (M : Mem) (a k : Nat) (v : Nat) : Mem := (mT M, mK M, mN M, mI M, mJ M, up2 (mR M) a k v)
/-- a whole row -/
def wI (M : Mem) (a : Nat) (f : Nat → Int32) : Mem := (mT M, mK M, mN M, up1 (mI M) a f, mJ M, mR M)
def wJ (M : Mem) (a : Nat) (f : Nat → Int64) : Mem := (mT M, mK M, mN M, mI M, up1 (mJ M) a f, mR M)
/-- a new cell: kind and length -/
def nw (M : Mem) (kd n : Nat) : Mem := (mT M + 1, up1 (mK M) (mT M) kd, up1 (mN M) (mT M) n, up1 (mI M) (mT M) (fun _ => 0), up1 (mJ M) (mT M) (fun _ => 0), up1 (mR M) (mT M) (fun _ => 0))
def ad (G : GG) (a : Nat) : Nat := if a = 1 then G.2.2.2.2.1 else G.2.2.2.1 + (a - 2)
def vj (G : GG) (v : Value) : Value := match v with
  | .ref a => if a = 0 then .null else .ref (ad G a)
  | v => v
theorem vj_cat (G : GG) (v : Value) : (vj G v).category = v.category := by
  cases v with
  | ref a => by_cases h : a = 0 <;> simp [vj, h, Value.category]
  | _ => rfl
theorem vj_int (G : GG) (x : Int32) : vj G (.int x) = .int x := rfl
theorem vj_long (G : GG) (x : Int64) : vj G (.long x) = .long x := rfl
theorem vj_nul (G : GG) : vj G (.ref 0) = .null := rfl
theorem vj_ref {G : GG} {a : Nat} (h : a ≠ 0) : vj G (.ref a) = .ref (ad G a) := if_neg h
def ATy (t : Nat) : FieldType := match t with
  | 0 => .int
  | 1 => .long
  | 2 => .boolean
  | 3 => .object "BothPrices$Thought"
  | 4 => .object "BothPrices$Shelf"
  | _ => .array .long
def av (G : GG) (M : Mem) (t a j : Nat) : Value := match t with
  | 0 => .int (mI M a j)
  | 1 => .long (mJ M a j)
  | 2 => .int (mI M a j)
  | _ => vj G (.ref (mR M a j))
def fvt (G : GG) (M : Mem) (ty : FieldType) (a k : Nat) : Value := match ty with
  | .int => .int (mI M a k)
  | .boolean => .int (mI M a k)
  | .long => .long (mJ M a k)
  | _ => vj G (.ref (mR M a k))
def fv (G : GG) (M : Mem) (c a k : Nat) : Value := fvt G M (fT c k) a k
def Cel (G : GG) (M : Mem) (H : Heap) (a : Nat) : Prop := (∀ c, c < 14 → mK M a = c + 1 → t_OB (ad G a) (G.2.1.1 c) (clN c) (G.2.1.2 c) H (fv G M c a)) ∧ (∀ t, t < 6 → mK M a = 20 + t → H[ad G a]? = some (arrV (G.2.2.1 t) (mN M a) (av G M t a)))
def Rel (G : GG) (M : Mem) (H : Heap) : Prop := 2 ≤ mT M ∧ H.size = G.2.2.2.1 + (mT M - 2) ∧ (∀ a, mK M a ≠ 0 → 2 ≤ a ∧ a < mT M) ∧ ∀ a, Cel G M H a
/-- the class of rows of rows of longs is there -/
def AOL (U : State) : Prop := (Cond.arrayOver (.array .long)).before #[] U = true
theorem AOL.spec {U : State} (h : AOL U) : ∃ comp c k, U.vm.findClass (FieldType.array .long).toString = some comp ∧ (U.vm.classes.findIdx? fun (x : Class) => match x.kind with | .array component _ => component == comp | _ => false) = some c ∧ U.vm.classes[c]? = some k ∧ k.kind = .array comp (.array .long) ∧ U.vm.findClass ("[" ++ (FieldType.array .long).toString) = some c := by
  unfold AOL Cond.before at h
  simp only [Cond.holds, Cond.value, beq_iff_eq] at h
  cases hc : U.vm.findClass (FieldType.array .long).toString with
  | none => simp [hc] at h
  | some comp =>
    simp only [hc, Option.bind_some, Option.bind_eq_some_iff, Option.map_eq_some_iff] at h
    obtain ⟨c, hi, k, hk, hb⟩ := h
    obtain ⟨hlt, hp, -⟩ := Array.findIdx?_eq_some_iff_getElem.mp hi
    have hkk : U.vm.classes[c] = k := (Array.getElem?_eq_some_iff.mp hk).2
    rw [hkk] at hp
    cases hkind : k.kind with
    | array component ty =>
      rw [hkind] at hb hp
      simp at hb hp
      exact ⟨comp, c, k, rfl, hi, hk, by rw [hkind, hp, hb.1], hb.2⟩
    | _ => rw [hkind] at hb; simp at hb
theorem AOL.moved {u U : State} (hvm : u.vm.Alike U.vm) (h : AOL u) : AOL U := by
  obtain ⟨comp, c, k, h1, h2, h3, h4, h5⟩ := h.spec
  obtain ⟨k', hk', he⟩ := hvm.2.2 _ _ h3
  have hi : (U.vm.classes.findIdx? fun (x : Class) => match x.kind with | .array component _ => component == comp | _ => false) = some c := by
    have e1 := va_idx_bare U.vm comp
    have e2 := va_idx_bare u.vm comp
    first | rw [hvm.bare_eq] at e2 | rw [← hvm.bare_eq] at e2
    exact e1.symm.trans (e2.trans h2)
  have hkind : k'.kind = .array comp (.array .long) := by rw [he]; exact h4
  have f1 : U.vm.findClass (FieldType.array .long).toString = some comp := by rw [hvm.findClass]; exact h1
  have f2 : U.vm.findClass ("[" ++ (FieldType.array .long).toString) = some c := by rw [hvm.findClass]; exact h5
  unfold AOL Cond.before Cond.holds
  simp only [Cond.value]
  rw [f1, Option.bind_some]
  refine (congrArg (fun o : Option Nat => (o.bind (fun c => (U.vm.classes[c]?).map fun (k : Class) => match k.kind with | .array _ ty => decide (ty = FieldType.array .long) && decide (U.vm.findClass ("[" ++ (FieldType.array .long).toString) = some c) | _ => false) == some true)) hi).trans ?_
  simp [hk', hkind, f2]
/-- what nest mates' calls link -/
def NLs : List (String × Nat × MethodName × String) := [(RX12, 9, yX6_init, "BothPrices"), (RX12, 24, yX9_init, "BothPrices"), (RX12, 41, yX4_init, "BothPrices"), (RX12, 44, yX7_init, "BothPrices"), (RX0, 22, yX9_init, "BothPrices"), (RX12, 58, yX5_init, "BothPrices"), (RX5, 20, yX9_init, "BothPrices"), (RX9, 55, yX12_divisorOf, "BothPrices"), (RX0, 62, yX12_takings, "BothPrices"), (RX5, 87, yX12_takings, "BothPrices")]
def KN (U : State) : Prop := ∀ q ∈ NLs, va_Nw (.methodLinkNest q.1 q.2.1 q.2.2.1 q.2.2.2) U
def KS (G : GG) (U : State) : Prop := (∀ c, c < 14 → u_Kn U (clR c) (clT c) (clN c) (G.2.1.1 c) (G.2.1.2 c)) ∧ (∀ t, t < 6 → ArrOfT U (G.2.2.1 t) (ATy t) ∧ va_RA U (G.2.2.1 t) (ATy t)) ∧ va_AO "BothPrices$Thought" U ∧ va_AO "BothPrices$Shelf" U ∧ AOL U ∧ KN U
theorem KS.moved0 {G : GG} {u U : State} (hvm : u.vm.Alike U.vm) (hn : KN U) (h : KS G u) : KS G U := ⟨fun c hc => u_Kn_moved hvm (h.1 c hc), fun t ht => ⟨arrOfT_moved hvm (h.2.1 t ht).1, (h.2.1 t ht).2.moved hvm⟩, h.2.2.1.moved hvm, h.2.2.2.1.moved hvm, h.2.2.2.2.1.moved hvm, hn⟩
theorem KS.warm {G : GG} {u U : State} (hW : u.WarmedH U.vm) (h : KS G u) : KS G U := h.moved0 hW.alike (fun q hq => va_Nw.warmM hW (h.2.2.2.2.2 q hq))
theorem KS.same {G : GG} {u U : State} (e : u.vm = U.vm) (h : KS G u) : KS G U := h.moved0 (by rw [e]; exact Vm.Alike.refl U.vm) (fun q hq => va_Nw.same rfl e (h.2.2.2.2.2 q hq))
def AG (G : GG) : Nat → Prop := fun q => G.2.2.2.1 ≤ q
def lvL (G : GG) (ls : Array Slot) (n : Nat) (L : List (Option Value)) : Prop := ls.size = n ∧ lv_wf ls ∧ ∀ (i : Nat) (v : Value), L[i]? = some (some v) → ls[i]? = some (.val (vj G v))
abbrev cod (μ : MD) (pc : Nat) (i : Instr) (n : Nat) : Prop := decode μ.2.1 pc = .ok (i, n)
def rmD (d mc ms : Nat) : Room := { frames := d + 1, cells := mc, slots := ms, locals := 60 * (d + 1) }
def retI (μ : MD) (pc : Nat) (v : Option Value) : Prop := match v with
  | none => cod μ pc .return_ 1 ∧ μ.2.2.2.2 = none
  | some (.int x) => cod μ pc .ireturn 1 ∧ (μ.2.2.2.2 = some .int ∨ (μ.2.2.2.2 = some .boolean ∧ (x = 0 ∨ x = 1)))
  | some (.long _) => cod μ pc .lreturn 1 ∧ μ.2.2.2.2 = some .long
  | some (.ref _) => cod μ pc .areturn 1 ∧ ∃ n, μ.2.2.2.2 = some (.object n)
  | _ => False
def EndOK (G : GG) (μ : MD) (rm : Room) (Q : Option Value → Mem → Prop) (p : Program) (e : Env) (s : State) (m : MethodId) (args : Array Value) (below : List Frame) (meth : Method) (c : Code) (Z : State → Prop) : Prop :=
  ∀ (H : Heap) (locs : List Loc) (ls : Array Slot) (pc : Nat) (v : Option Value) (M : Mem) (k sl : Nat), Rel G M H → va_S (AG G) s.heap H locs → Q v M → k ≤ rm.cells → sl ≤ rm.slots → retI μ pc v → W p G.1 e rm s m args below meth c H locs k sl Z (F0 m pc ls (v.toList.map (vj G)))
/-- methods that throw, or whose callees do -/
def exb (y : MethodName) : Bool := (y.name == "law") || ((y.name == "fail" && y.cls == "BothPrices$Way") || ((y.name == "element" && (y.cls == "BothPrices" || y.cls == "BothPricesLaw")) || (y.name == "toss" && y.cls == "BothPrices")))
def hhT (y : MethodName) : List (Nat × Nat × Nat × Nat) := if (y.name == "toss") = true then [(16, 20, 23, 329)] else if (y.cls == "BothPricesLaw") = true then [(0, 9, 12, 13), (0, 9, 16, 15)] else []
def exW : List Cond := [.declares (Bundle.initS "java/lang/RuntimeException"), .declares (Bundle.initS "java/lang/Exception"), .declares (Bundle.initS "java/lang/Throwable"), .castable "java/lang/IllegalStateException" "java/lang/IllegalStateException", .castable "java/lang/IllegalArgumentException" "java/lang/IllegalArgumentException"]
/-- what throwing stands on: no traces, Throwable's two statics, the three texts -/
def EX (G : GG) (U : State) : Prop := G.1.stackTraces = false ∧ vx_Zq Bundle.tN "UNASSIGNED_STACK" Bundle.steD (AG G) U U.heap ∧ vx_Zq Bundle.tN "SUPPRESSED_SENTINEL" Bundle.listD (AG G) U U.heap ∧ (∃ sa, vk_R RX11 33 "the way failed" sa U) ∧ (∃ sa, vk_R RX12 324 "no such shelf" sa U) ∧ (∃ sa, vk_R RX12 331 "no row, or no such place in it" sa U) ∧ va_Nc "java/lang/IllegalStateException" "java/lang/IllegalArgumentException" U ∧ ∀ w ∈ exW, va_Nw w U
theorem EX.kept {G : GG} {s U : State} {locs : List Loc} (hW : s.WarmedH U.vm) (hS : va_S (AG G) s.heap U.heap locs) (h : EX G s) : EX G U := by
  obtain ⟨h0, h1, h2, ⟨a, h3⟩, ⟨b, h4⟩, ⟨d, h5⟩, h6, h7⟩ := h
  exact ⟨h0, vx_Zq.moved hW.alike (h1.kept hS.2.1), vx_Zq.moved hW.alike (h2.kept hS.2.1), ⟨a, vk_R.warm hW h3⟩, ⟨b, vk_R.warm hW h4⟩, ⟨d, vk_R.warm hW h5⟩, h6.moved hW.alike, fun w hw => by
    have h8 := h7 w hw
    unfold exW at hw
    rcases List.mem_cons.mp hw with rfl | hw
    · exact va_Nw.warmD hW h8
    rcases List.mem_cons.mp hw with rfl | hw
    · exact va_Nw.warmD hW h8
    rcases List.mem_cons.mp hw with rfl | hw
    · exact va_Nw.warmD hW h8
    rcases List.mem_cons.mp hw with rfl | hw
    · exact va_Nw.warmC hW h8
    rcases List.mem_cons.mp hw with rfl | hw
    · exact va_Nw.warmC hW h8
    cases hw⟩
/-- what was thrown, as a value that no method returns -/
def xvE (E : String) : Value := .double (if E = "java/lang/IllegalArgumentException" then 1 else 2)
def nDv (v : Option Value) : Prop := ∀ x, v ≠ some (.double x)
def Qcc (G : GG) (Q : Option Value → Mem → Prop) : Array Value → State → Outcome → State → Prop := fun _ st oc t => (∃ (v : Option Value) (M' : Mem), oc = .returned (v.map (vj G)) ∧ Q v M' ∧ Rel G M' t.heap) ∧ va_F (AG G) st t
def XCc (G : GG) (Q : Option Value → Mem → Prop) : String → State → State → Prop := fun E st t => (∃ M' : Mem, (E = "java/lang/IllegalArgumentException" ∨ E = "java/lang/IllegalStateException") ∧ Q (some (xvE E)) M' ∧ Rel G M' t.heap) ∧ va_F (AG G) st t
def EndX (G : GG) (rm : Room) (Q : Option Value → Mem → Prop) (s : State) (args : Array Value) (below : List Frame) (Z : State → Prop) : Prop := ∀ t, vx_MQ below (Qcc G (fun v M => Q v M ∧ nDv v)) (XCc G Q) args s rm.cells rm.slots (AG G) t → Z t
def Cx (G : GG) (μ : MD) (rm : Room) (Q : Option Value → Mem → Prop) (p : Program) (e : Env) (s : State) (m : MethodId) (args : Array Value) (below : List Frame) (meth : Method) (c : Code) (Z : State → Prop) : Prop :=
  p.tables.exec = Jvm.exec ∧ c.code = μ.2.1 ∧ c.maxLocals = μ.2.2.2.1 ∧ s.vm.findClass μ.1 = some m.cls ∧ (∀ w ∈ gT, w.before args s = true) ∧ KS G s ∧ G.2.2.2.1 ≤ s.heap.size ∧ meth.name = μ.2.2.1.name ∧
  (((μ.2.2.1.name == "law") = true → va_X G.2.2.2.2.1 G.2.2.2.2.2.1 G.2.2.2.2.2.2 s s.heap ∧ G.2.2.2.2.1 < G.2.2.2.1) ∧ (exb μ.2.2.1 = true → EX G s ∧ ((μ.2.2.1.name == "law") = false → meth.locks = false ∧ c.exceptionTable.toList = tableOf (hhT μ.2.2.1) ∧ EndX G rm Q s args below Z))) ∧ EndOK G μ rm Q p e s m args below meth c Z
/-- THE JUDGEMENT: from this pc, with these locals, this stack, this memory, so many cells and slots made, the method comes to an end with Q -/
def PW (G : GG) (μ : MD) (rm : Room) (Q : Option Value → Mem → Prop) (pc : Nat) (L : List (Option Value)) (st : List Value) (M : Mem) (k sl : Nat) : Prop :=
  ∀ (p : Program) (e : Env) (s : State) (m : MethodId) (args : Array Value) (below : List Frame) (meth : Method) (c : Code) (Z : State → Prop) (H : Heap) (locs : List Loc) (ls : Array Slot),
    Cx G μ rm Q p e s m args below meth c Z → lvL G ls μ.2.2.2.1 L → Rel G M H → va_S (AG G) s.heap H locs → W p G.1 e rm s m args below meth c H locs k sl Z (F0 m pc ls (st.map (vj G)))
def Pcc (G : GG) (as : List Value) (M : Mem) : Array Value → State → Prop := fun v U => v = (as.map (vj G)).toArray ∧ Rel G M U.heap ∧ KS G U
/-- A METHOD'S CONTRACT: at these arguments and this memory it ends with Q; d counts the frames that may stand above it -/
def PMet (G : GG) (μ : MD) (d mc ms : Nat) (as : List Value) (M : Mem) (Q : Option Value → Mem → Prop) : Prop :=
  Met G.1 μ.2.2.1 (mdC μ :: gT) (rmD d mc ms) (Pcc G as M) (Qcc G Q) mc ms (AG G)
theorem Pcc_blind {G : GG} {as : List Value} {M : Mem} : FrameBlind (Pcc G as M) := fun a U g mk q => ⟨q.1, q.2.1, KS.same (u := U) (U := U.calling g mk a) rfl q.2.2⟩
/-- the locals at the entry -/
def eL1 (v : Value) : List (Option Value) := match v with
  | .long x => [some (.long x), none]
  | v => [some v]
def eL (as : List Value) : List (Option Value) := as.flatMap eL1
theorem eL_cons (a : Value) (t : List Value) : eL (a :: t) = eL1 a ++ eL t := List.flatMap_cons
theorem eL_args {G : GG} : ∀ (as : List Value) (o i : Nat) (v : Value), (∀ w ∈ as, ∀ x, w ≠ .double x) → (eL as)[i]? = some (some v) → (o + i, vj G v) ∈ lv_args o (as.map (vj G)) := by
  intro as
  induction as with
  | nil => intro o i v _ h; simp [eL] at h
  | cons a t ih =>
    intro o i v hd h
    have ht : ∀ w ∈ t, ∀ x, w ≠ .double x := fun w hw => hd w (List.mem_cons_of_mem _ hw)
    have hc := vj_cat G a
    rw [eL_cons] at h
    simp only [List.map_cons, lv_args, List.mem_cons]
    rw [hc]
    have one : ∀ w : Value, eL1 a = [some w] → a = w → a.category = 1 → (o + i, vj G v) = (o, vj G a) ∨ (o + i, vj G v) ∈ lv_args (if a.category = 2 then o + 2 else o + 1) (t.map (vj G)) := by
      intro w e1 e2 e3
      rw [e1] at h
      match i with
      | 0 =>
        have h : some (some w) = some (some v) := h
        cases h
        exact Or.inl (by rw [e2]; rfl)
      | n + 1 =>
        have h : (eL t)[n]? = some (some v) := by simpa using h
        have := ih (o + 1) n v ht h
        rw [show o + 1 + n = o + (n + 1) by omega] at this
        exact Or.inr (by rw [if_neg (by omega)]; exact this)
    cases a with
    | long x =>
      have e1 : eL1 (.long x) = [some (.long x), none] := rfl
      rw [e1] at h
      match i with
      | 0 =>
        have h : some (some (Value.long x)) = some (some v) := h
        cases h
        exact Or.inl rfl
      | 1 =>
        have h : some (none : Option Value) = some (some v) := h
        cases h
      | n + 2 =>
        have h : (eL t)[n]? = some (some v) := by simpa using h
        have := ih (o + 2) n v ht h
        rw [show o + 2 + n = o + (n + 2) by omega] at this
        exact Or.inr this
    | double x => exact absurd rfl (hd _ List.mem_cons_self x)
    | _ => exact one _ rfl rfl rfl
theorem lvL_entry {G : GG} {as : List Value} {n : Nat} (hd : ∀ w ∈ as, ∀ x, w ≠ .double x) (h : (lg_sl (as.map (vj G))).length ≤ n) : lvL G ((lg_sl (as.map (vj G)) ++ List.replicate (n - (lg_sl (as.map (vj G))).length) Slot.unset).toArray) n (eL as) := by
  have hl := lv_entry (as.map (vj G)) (n := n) h
  refine ⟨hl.1, hl.2.1, fun i v hv => ?_⟩
  have := eL_args (G := G) as 0 i v hd hv
  rw [Nat.zero_add] at this
  exact hl.2.2 _ this
theorem lg_cons (a : Value) (t : List Value) : lg_sl (a :: t) = (if a.category = 2 then [.val a, .second] else [.val a]) ++ lg_sl t := List.flatMap_cons
theorem lg_len {G : GG} : ∀ as : List Value, (∀ w ∈ as, ∀ x, w ≠ .double x) → (lg_sl (as.map (vj G))).length = (eL as).length := by
  intro as
  induction as with
  | nil => intro _; rfl
  | cons a t ih =>
    intro hd
    have ih := ih (fun w hw => hd w (List.mem_cons_of_mem _ hw))
    rw [List.map_cons, lg_cons, eL_cons, List.length_append, List.length_append, ih, vj_cat]
    cases a with
    | double x => exact absurd rfl (hd _ List.mem_cons_self x)
    | _ => rfl
/-- a body gives a contract -/
theorem mk_met {G : GG} {μ : MD} {d mc ms : Nat} {as : List Value} {M : Mem} {Q : Option Value → Mem → Prop} (hy : plainName μ.2.2.1.cls = true) (hcls : μ.2.2.1.cls = μ.1) (hnl : exb μ.2.2.1 = false)
    (hd : ∀ w ∈ as, ∀ x, w ≠ .double x) (hn : (eL as).length ≤ μ.2.2.2.1)
    (h : PW G μ (rmD d mc ms) Q 0 (eL as) [] M 0 0) : PMet G μ d mc ms as M Q := by
  refine Met.ofW (cc := μ.2.1) (maxL := μ.2.2.2.1) (ret := μ.2.2.2.2) hy rfl ?_
  intro p e s m args below meth c s₁ B hml hv
  obtain ⟨rfl, hR, hK⟩ := hv
  have hx := B.exec
  have hb := B.bytes
  have hr := B.returns
  have hts := atoms_spec (ws := mdC μ :: gT) B.pre
  have hown : s.vm.findClass μ.1 = some m.cls := by rw [← hcls]; exact findClass_of_methodNamed B.named
  have hlocks := B.notSynchronized
  have hin : meth.name = μ.2.2.1.name := (name_of_methodNamed B.named B.method).1
  have hS : va_S (AG G) s.heap s.heap [] := va_S.rf
  have hz : G.2.2.2.1 ≤ s.heap.size := by have := hR.2.1; omega
  rw [lg_entry_eq]
  have hlen : (lg_sl (as.map (vj G))).length ≤ μ.2.2.2.1 := by rw [lg_len as hd]; exact hn
  refine h p e s m _ below meth c _ s.heap [] _ ⟨hx, hb, hml, hown, fun w hw => hts w (List.mem_cons_of_mem _ hw), hK, hz, hin, ⟨fun q => (by rw [show exb μ.2.2.1 = true by unfold exb; rw [q]; rfl] at hnl; cases hnl), fun q => (by rw [hnl] at q; cases q)⟩, ?_⟩ (lvL_entry hd hlen) hR hS
  intro H locs ls pc v M' k sl hR' hS' hq hk hsl hret
  refine W.widen hk hsl ?_
  have hend : ∀ t : State, t.heap = H → s.WarmedH t.vm → Qcc G Q (as.map (vj G)).toArray s (.returned (v.map (vj G))) t := fun t ht hW => ⟨⟨v, M', rfl, hq, by rw [ht]; exact hR'⟩, hS'.F ht⟩
  match v, hret, hend with
  | none, hret, hend =>
    exact W.vret hx hb (hr.trans hret.2) (fun t ht hW => hend t ht hW) hS'.2.2 hret.1
  | some (.int x), hret, hend =>
    rcases hret.2 with q | ⟨q, hx01⟩
    · exact W.iret (v := x) hx hb (hr.trans q) (fun t ht hW => hend t ht hW) hS'.2.2 hret.1
    · refine W.zret (v := x) (ty := .boolean) hx hb (hr.trans q) ?_ (fun t ht hW => hend t ht hW) hS'.2.2 hret.1
      rcases hx01 with rfl | rfl <;> rfl
  | some (.long x), hret, hend => exact W.lret (v := x) hx hb (hr.trans hret.2) (fun t ht hW => hend t ht hW) hS'.2.2 hret.1
  | some (.ref a), hret, hend =>
    obtain ⟨n, q⟩ := hret.2
    refine W.aret (v := vj G (.ref a)) (rt := .object n) hx hb (hr.trans q) (Or.inl ⟨n, rfl⟩) ?_ (fun t ht hW => hend t ht hW) hS'.2.2 hret.1
    by_cases h0 : a = 0
    · subst h0; exact Or.inl rfl
    · exact Or.inr ⟨_, vj_ref h0⟩
