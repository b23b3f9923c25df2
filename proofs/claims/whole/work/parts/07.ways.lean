/-! WAYS: a receiver whose class is one of six -/
abbrev isWc (c : Nat) : Prop := c = 11 ∨ c = 2 ∨ c = 3 ∨ c = 8 ∨ c = 1 ∨ c = 10
theorem isWc_lt {c : Nat} (h : isWc c) : c < 14 := by rcases h with rfl | rfl | rfl | rfl | rfl | rfl <;> decide
section PWY
variable {G : GG} {μ : MD} {rm : Room} {Q : Option Value → Mem → Prop} {pc : Nat} {L : List (Option Value)} {st : List Value} {M : Mem} {k sl : Nat}
variable {idx a n : Nat} {As rest : List Value} {Q' : Option Value → Mem → Prop}
theorem s_putW {x : Int32} (hc : cod μ pc (.putfield idx) 3) (hf : ∀ c, isWc c → FldOK μ.1 idx c 0) (hd : μ.1 = "BothPrices$Way" ∧ (μ.2.2.1.name == "<init>") = true) (hk : isW M a) (kk : PW G μ rm Q (pc + 3) L st (uI M a 0 x) k sl) : PW G μ rm Q pc L (.int x :: .ref a :: st) M k sl := by
  obtain ⟨c, hc6, hk⟩ := isW_c hk
  refine s_putI hc (hf c hc6) (Or.inr ⟨?_, hd.2⟩) (Or.inl ?_) hk kk
  · rw [hd.1]
    rcases hc6 with rfl | rfl | rfl | rfl | rfl | rfl <;> rfl
  · rcases hc6 with rfl | rfl | rfl | rfl | rfl | rfl <;> rfl
theorem s_callW (hc : cod μ pc (.invokevirtual idx) 3) (hk : isW M a) (hn : As.length = n) (hst : st = As.reverse ++ .ref a :: rest) (hrest : (rest.map fun v => v.category).sum ≤ 8)
    (hM : ∀ c, isWc c → mK M a = c + 1 → ∃ (μ' : MD) (d' : Nat), ((CV μ.1 idx μ' n ∧ clR c = μ'.2.2.1.cls) ∨ (∃ μx, CU μ.1 idx (clR c) μx μ' n)) ∧ RmOK rm d' μ' ∧ PMet G μ' d' 0 0 (.ref a :: As) M Q')
    (hcs : k ≤ rm.cells ∧ sl ≤ rm.slots) (kk : ∀ (v : Option Value) (M' : Mem), Q' v M' → PW G μ rm Q (pc + 3) L (v.toList ++ rest) M' k sl) : PW G μ rm Q pc L st M k sl := by
  obtain ⟨c, hc6, hk⟩ := isW_c hk
  obtain ⟨μ', d', hl, hr, hP⟩ := hM c hc6 hk
  rcases hl with ⟨h1, h2⟩ | ⟨μx, h1⟩
  · exact s_callV hc h1 (isWc_lt hc6) h2 hk hn hst hrest hr hcs hP kk
  · exact s_callU hc h1 (isWc_lt hc6) hk hn hst hrest hr hcs hP kk
theorem s_callUW {d' mc' ms' : Nat} {μ' : MD} (hc : cod μ pc (.invokespecial idx) 3) (hv : CUP μ.1 idx μ' n) (hk : isW M a) (hn : As.length = n) (hst : st = As.reverse ++ .ref a :: rest) (hrest : (rest.map fun v => v.category).sum ≤ 8) (hroom : RmOK rm d' μ') (hcs : k + mc' ≤ rm.cells ∧ sl + ms' ≤ rm.slots)
    (hM : PMet G μ' d' mc' ms' (.ref a :: As) M Q') (kk : ∀ (v : Option Value) (M' : Mem), Q' v M' → PW G μ rm Q (pc + 3) L (v.toList ++ rest) M' (k + mc') (sl + ms')) : PW G μ rm Q pc L st M k sl := by
  obtain ⟨c, hc6, hk⟩ := isW_c hk
  exact s_callUP hc hv (isWc_lt hc6) hk hn hst hrest hroom hcs hM kk
end PWY
/-- new long[7][6] -/
def mna (M : Mem) : Mem := (mT M + 8, fun a => if a = mT M then 25 else if mT M < a ∧ a < mT M + 8 then 21 else mK M a, fun a => if a = mT M then 7 else if mT M < a ∧ a < mT M + 8 then 6 else mN M a, fun a => if mT M ≤ a ∧ a < mT M + 8 then (fun _ => 0) else mI M a, fun a => if mT M ≤ a ∧ a < mT M + 8 then (fun _ => 0) else mJ M a, fun a => if a = mT M then (fun i => if i < 7 then mT M + 1 + i else 0) else if mT M < a ∧ a < mT M + 8 then (fun _ => 0) else mR M a)
theorem mna_K {M : Mem} : mK (mna M) (mT M) = 25 := if_pos rfl
/-! Math's functions -/
def iMax (x y : Int32) : Int32 := if x < y then y else x
def iMin (x y : Int32) : Int32 := if y < x then y else x
def iAbs (x : Int32) : Int32 := if 0 ≤ x then x else 0 - x
def jMax (x y : Int64) : Int64 := if y < x then x else y
section PWF
variable {G : GG} {μ : MD} {rm : Room} {Q : Option Value → Mem → Prop} {pc : Nat} {L : List (Option Value)} {st : List Value} {M : Mem} {k sl idx : Nat}
theorem cat_map {G : GG} (st : List Value) : ((st.map (vj G)).map fun v => v.category) = st.map fun v => v.category := by rw [List.map_map]; exact List.map_congr_left fun v _ => vj_cat G v
theorem s_mmax {x y : Int32} (hc : cod μ pc (.invokestatic idx) 3) (hv : CS μ.1 idx mJ9_max_7cf53 2) (hf : 1 ≤ rm.frames) (hlo : (st.map fun v => v.category).sum + 13 ≤ rm.locals) (hk : k ≤ rm.cells) (hs : sl ≤ rm.slots) (kk : PW G μ rm Q (pc + 3) L (.int (iMax x y) :: st) M k sl) : PW G μ rm Q pc L (.int y :: .int x :: st) M k sl := by
  intro p e s m args below meth c0 Z H locs ls C hl hR hS
  obtain ⟨w1, w2, w3, w5, -⟩ := hv
  have hts := C.2.2.2.2.1
  exact va_mmax C.1 C.2.1 (C.2.2.1.trans hl.1.symm) C.2.2.2.1 (hts _ w2) (hts _ w3) (hts _ w5) (hts _ w1) hf (by rw [cat_map]; exact hlo) hk hs hc (kk p e s m args below meth c0 Z H locs _ C hl hR hS)
theorem s_mmin {x y : Int32} (hc : cod μ pc (.invokestatic idx) 3) (hv : CS μ.1 idx mJ9_min_7cf53 2) (hf : 1 ≤ rm.frames) (hlo : (st.map fun v => v.category).sum + 13 ≤ rm.locals) (hk : k ≤ rm.cells) (hs : sl ≤ rm.slots) (kk : PW G μ rm Q (pc + 3) L (.int (iMin x y) :: st) M k sl) : PW G μ rm Q pc L (.int y :: .int x :: st) M k sl := by
  intro p e s m args below meth c0 Z H locs ls C hl hR hS
  obtain ⟨w1, w2, w3, w5, -⟩ := hv
  have hts := C.2.2.2.2.1
  exact va_mmin C.1 C.2.1 (C.2.2.1.trans hl.1.symm) C.2.2.2.1 (hts _ w2) (hts _ w3) (hts _ w5) (hts _ w1) hf (by rw [cat_map]; exact hlo) hk hs hc (kk p e s m args below meth c0 Z H locs _ C hl hR hS)
theorem s_mabs {x : Int32} (hc : cod μ pc (.invokestatic idx) 3) (hv : CS μ.1 idx mJ9_abs_0f7a4 1) (hf : 1 ≤ rm.frames) (hlo : (st.map fun v => v.category).sum + 13 ≤ rm.locals) (hk : k ≤ rm.cells) (hs : sl ≤ rm.slots) (kk : PW G μ rm Q (pc + 3) L (.int (iAbs x) :: st) M k sl) : PW G μ rm Q pc L (.int x :: st) M k sl := by
  intro p e s m args below meth c0 Z H locs ls C hl hR hS
  obtain ⟨w1, w2, w3, w5, -⟩ := hv
  have hts := C.2.2.2.2.1
  exact va_mabs C.1 C.2.1 (C.2.2.1.trans hl.1.symm) C.2.2.2.1 (hts _ w2) (hts _ w3) (hts _ w5) (hts _ w1) hf (by rw [cat_map]; exact hlo) hk hs hc (kk p e s m args below meth c0 Z H locs _ C hl hR hS)
theorem s_mmaxJ {x y : Int64} (hc : cod μ pc (.invokestatic idx) 3) (hv : CS μ.1 idx mJ9_max_f86c9 2) (hf : 1 ≤ rm.frames) (hlo : (st.map fun v => v.category).sum + 15 ≤ rm.locals) (hk : k ≤ rm.cells) (hs : sl ≤ rm.slots) (kk : PW G μ rm Q (pc + 3) L (.long (jMax x y) :: st) M k sl) : PW G μ rm Q pc L (.long y :: .long x :: st) M k sl := by
  intro p e s m args below meth c0 Z H locs ls C hl hR hS
  obtain ⟨w1, w2, w3, w5, -⟩ := hv
  have hts := C.2.2.2.2.1
  exact va_mmax_long C.1 C.2.1 (C.2.2.1.trans hl.1.symm) C.2.2.2.1 (hts _ w2) (hts _ w3) (hts _ w5) (hts _ w1) hf (by rw [cat_map]; exact hlo) hk hs hc (kk p e s m args below meth c0 Z H locs _ C hl hR hS)
end PWF
theorem rm_okJ {j c d' mc ms : Nat} {μ' : MD} (h : Nat.blt d' c = true) (h2 : Nat.ble μ'.2.2.2.1 41 = true) : RmOK (rmD (j + c) mc ms) d' μ' := by
  have h1 : d' < c := by simpa [Nat.blt_eq] using h
  have h3 : μ'.2.2.2.1 ≤ 41 := Nat.le_of_ble_eq_true h2
  refine ⟨?_, ?_⟩
  · show d' + 2 ≤ j + c + 1
    omega
  · show 19 + μ'.2.2.2.1 + 60 * (d' + 1) ≤ 60 * (j + c + 1)
    omega
theorem rm_okR {j mc ms : Nat} : RmOK (rmD (j + 5) mc ms) (j + 4) mX0_goOn := by
  refine ⟨Nat.le_refl _, ?_⟩
  show 19 + 13 + 60 * (j + 4 + 1) ≤ 60 * (j + 5 + 1)
  omega
