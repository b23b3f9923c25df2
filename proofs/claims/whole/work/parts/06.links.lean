/-! TYPED ENDS, NAMES, PAIRS OF INSTRUCTIONS -/
abbrev QI (Q : Int32 → Mem → Prop) : Option Value → Mem → Prop := fun v M => ∃ r : Int32, v = some (.int r) ∧ Q r M
abbrev QJ (Q : Int64 → Mem → Prop) : Option Value → Mem → Prop := fun v M => ∃ r : Int64, v = some (.long r) ∧ Q r M
abbrev QR (Q : Nat → Mem → Prop) : Option Value → Mem → Prop := fun v M => ∃ r : Nat, v = some (.ref r) ∧ Q r M
abbrev QV (Q : Mem → Prop) : Option Value → Mem → Prop := fun v M => v = none ∧ Q M
/-- one of the ways -/
def isW (M : Mem) (a : Nat) : Prop := mK M a = 12 ∨ mK M a = 3 ∨ mK M a = 4 ∨ mK M a = 9 ∨ mK M a = 2 ∨ mK M a = 11
theorem isW_c {M : Mem} {a : Nat} (h : isW M a) : ∃ c, (c = 11 ∨ c = 2 ∨ c = 3 ∨ c = 8 ∨ c = 1 ∨ c = 10) ∧ mK M a = c + 1 := by
  rcases h with h | h | h | h | h | h
  · exact ⟨11, Or.inl rfl, h⟩
  · exact ⟨2, Or.inr (Or.inl rfl), h⟩
  · exact ⟨3, Or.inr (Or.inr (Or.inl rfl)), h⟩
  · exact ⟨8, Or.inr (Or.inr (Or.inr (Or.inl rfl))), h⟩
  · exact ⟨1, Or.inr (Or.inr (Or.inr (Or.inr (Or.inl rfl)))), h⟩
  · exact ⟨10, Or.inr (Or.inr (Or.inr (Or.inr (Or.inr rfl)))), h⟩
def sel : List (Option Value) → List Bool → List (Option Value)
  | [], _ => []
  | _ :: _, [] => []
  | o :: t, b :: u => (if b then o else none) :: sel t u
theorem sel_get : ∀ (L : List (Option Value)) (ms : List Bool) (i : Nat) (v : Value), (sel L ms)[i]? = some (some v) → L[i]? = some (some v) := by
  intro L
  induction L with
  | nil => intro ms i v h; simp [sel] at h
  | cons a t ih =>
    intro ms i v h
    cases ms with
    | nil => simp [sel] at h
    | cons b u =>
      match i with
      | 0 =>
        simp only [sel, List.getElem?_cons_zero, Option.some.injEq] at h ⊢
        by_cases hb : b = true
        · rw [if_pos hb] at h; exact h
        · rw [if_neg hb] at h; cases h
      | n + 1 =>
        simp only [sel, List.getElem?_cons_succ] at h ⊢
        exact ih u n v h
theorem eqI {x k : Int32} {n : Int} (h : x.toInt = n) (hk : k.toInt = n) : x = k := Int32.toInt_inj.mp (h.trans hk.symm)
section PWX
variable {G : GG} {μ : MD} {rm : Room} {Q : Option Value → Mem → Prop} {pc : Nat} {L : List (Option Value)} {st : List Value} {M : Mem} {k sl : Nat}
theorem kkI {Q' : Int32 → Mem → Prop} {rest : List Value} (kk : ∀ (r : Int32) (M' : Mem), Q' r M' → PW G μ rm Q pc L (.int r :: rest) M' k sl) : ∀ (v : Option Value) (M' : Mem), QI Q' v M' → PW G μ rm Q pc L (v.toList ++ rest) M' k sl := fun v M' h => by
  obtain ⟨r, rfl, h⟩ := h
  exact kk r M' h
theorem kkJ {Q' : Int64 → Mem → Prop} {rest : List Value} (kk : ∀ (r : Int64) (M' : Mem), Q' r M' → PW G μ rm Q pc L (.long r :: rest) M' k sl) : ∀ (v : Option Value) (M' : Mem), QJ Q' v M' → PW G μ rm Q pc L (v.toList ++ rest) M' k sl := fun v M' h => by
  obtain ⟨r, rfl, h⟩ := h
  exact kk r M' h
theorem kkR {Q' : Nat → Mem → Prop} {rest : List Value} (kk : ∀ (r : Nat) (M' : Mem), Q' r M' → PW G μ rm Q pc L (.ref r :: rest) M' k sl) : ∀ (v : Option Value) (M' : Mem), QR Q' v M' → PW G μ rm Q pc L (v.toList ++ rest) M' k sl := fun v M' h => by
  obtain ⟨r, rfl, h⟩ := h
  exact kk r M' h
theorem kkV {Q' : Mem → Prop} {rest : List Value} (kk : ∀ (M' : Mem), Q' M' → PW G μ rm Q pc L rest M' k sl) : ∀ (v : Option Value) (M' : Mem), QV Q' v M' → PW G μ rm Q pc L (v.toList ++ rest) M' k sl := fun v M' h => by
  obtain ⟨rfl, h⟩ := h
  exact kk M' h
theorem nmI {x : Int32} (kk : ∀ y : Int32, y = x → PW G μ rm Q pc L (.int y :: st) M k sl) : PW G μ rm Q pc L (.int x :: st) M k sl := kk x rfl
theorem nmJ {x : Int64} (kk : ∀ y : Int64, y = x → PW G μ rm Q pc L (.long y :: st) M k sl) : PW G μ rm Q pc L (.long x :: st) M k sl := kk x rfl
theorem nmR {x : Nat} (kk : ∀ y : Nat, y = x → PW G μ rm Q pc L (.ref y :: st) M k sl) : PW G μ rm Q pc L (.ref x :: st) M k sl := kk x rfl
theorem nmM (kk : ∀ M1 : Mem, M1 = M → PW G μ rm Q pc L st M1 k sl) : PW G μ rm Q pc L st M k sl := kk M rfl
theorem s_sel {L1 : List (Option Value)} (ms : List Bool) (h : sel L ms = L1) (kk : PW G μ rm Q pc L1 st M k sl) : PW G μ rm Q pc L st M k sl := s_drop (fun i v hv => sel_get L ms i v (by rw [h]; exact hv)) kk
theorem s_objInitK {idx c a : Nat} (hc : cod μ pc (.invokespecial idx) 3) (hw : ObjOK μ.1 idx) (hk : mK M a = c + 1) (hf : 1 ≤ rm.frames) (hlo : (st.map fun v => v.category).sum + 12 ≤ rm.locals) (kk : PW G μ rm Q (pc + 3) L st M k sl) : PW G μ rm Q pc L (.ref a :: st) M k sl := by
  intro p e s m args below meth c0 Z H locs ls C hl hR hS
  exact s_objInit hc hw (ne0 hR hk) hf hlo kk p e s m args below meth c0 Z H locs ls C hl hR hS
theorem s_callIK {idx c a n d' mc' ms' : Nat} {μ' : MD} {As rest : List Value} {Q' : Option Value → Mem → Prop} (hc : cod μ pc (.invokespecial idx) 3) (hv : CI μ.1 idx μ' n) (hk : mK M a = c + 1) (hn : As.length = n) (hst : st = As.reverse ++ .ref a :: rest) (hrest : (rest.map fun v => v.category).sum ≤ 8) (hroom : RmOK rm d' μ') (hcs : k + mc' ≤ rm.cells ∧ sl + ms' ≤ rm.slots)
    (hM : PMet G μ' d' mc' ms' (.ref a :: As) M Q') (kk : ∀ (v : Option Value) (M' : Mem), Q' v M' → PW G μ rm Q (pc + 3) L (v.toList ++ rest) M' (k + mc') (sl + ms')) : PW G μ rm Q pc L st M k sl := by
  intro p e s m args below meth c0 Z H locs ls C hl hR hS
  exact s_callI hc hv (ne0 hR hk) hn hst hrest hroom hcs hM kk p e s m args below meth c0 Z H locs ls C hl hR hS
theorem s_callINK {idx c a n d' mc' ms' : Nat} {μ' : MD} {As rest : List Value} {Q' : Option Value → Mem → Prop} {host : String} (hc : cod μ pc (.invokespecial idx) 3) (hv : CIN μ.1 idx μ' n host) (hk : mK M a = c + 1) (hn : As.length = n) (hst : st = As.reverse ++ .ref a :: rest) (hrest : (rest.map fun v => v.category).sum ≤ 8) (hroom : RmOK rm d' μ') (hcs : k + mc' ≤ rm.cells ∧ sl + ms' ≤ rm.slots)
    (hM : PMet G μ' d' mc' ms' (.ref a :: As) M Q') (kk : ∀ (v : Option Value) (M' : Mem), Q' v M' → PW G μ rm Q (pc + 3) L (v.toList ++ rest) M' (k + mc') (sl + ms')) : PW G μ rm Q pc L st M k sl := by
  intro p e s m args below meth c0 Z H locs ls C hl hR hS
  exact s_callIN hc hv (ne0 hR hk) hn hst hrest hroom hcs hM kk p e s m args below meth c0 Z H locs ls C hl hR hS
theorem s_getW {idx a : Nat} (hc : cod μ pc (.getfield idx) 3) (hf : ∀ c, (c = 11 ∨ c = 2 ∨ c = 3 ∨ c = 8 ∨ c = 1 ∨ c = 10) → FldOK μ.1 idx c 0) (hk : isW M a) (kk : PW G μ rm Q (pc + 3) L (.int (mI M a 0) :: st) M k sl) : PW G μ rm Q pc L (.ref a :: st) M k sl := by
  obtain ⟨c, hc6, hk⟩ := isW_c hk
  refine s_getI hc (hf c hc6) ?_ hk kk
  rcases hc6 with rfl | rfl | rfl | rfl | rfl | rfl <;> rfl
theorem s_lif_eq {x y : Int64} {off : Int} {tgt : Nat} (hc : cod μ pc .lcmp 1) (hc2 : cod μ (pc + 1) (.ifCond .eq off) 3) (ht : ((pc + 1 : Nat) : Int) + off = (tgt : Int)) (kt : x = y → PW G μ rm Q tgt L st M k sl) (kf : ¬ x = y → PW G μ rm Q (pc + 1 + 3) L st M k sl) : PW G μ rm Q pc L (.long y :: .long x :: st) M k sl := s_lcmp hc (s_if_eq hc2 ht (fun h => kt ((lg_cmp_eq x y).mp h)) (fun h => kf (fun q => h ((lg_cmp_eq x y).mpr q))))
theorem s_lif_ne {x y : Int64} {off : Int} {tgt : Nat} (hc : cod μ pc .lcmp 1) (hc2 : cod μ (pc + 1) (.ifCond .ne off) 3) (ht : ((pc + 1 : Nat) : Int) + off = (tgt : Int)) (kt : ¬ x = y → PW G μ rm Q tgt L st M k sl) (kf : x = y → PW G μ rm Q (pc + 1 + 3) L st M k sl) : PW G μ rm Q pc L (.long y :: .long x :: st) M k sl := s_lcmp hc (s_if_ne hc2 ht (fun h => kt (fun q => h ((lg_cmp_eq x y).mpr q))) (fun h => kf ((lg_cmp_eq x y).mp h)))
theorem s_lif_lt {x y : Int64} {off : Int} {tgt : Nat} (hc : cod μ pc .lcmp 1) (hc2 : cod μ (pc + 1) (.ifCond .lt off) 3) (ht : ((pc + 1 : Nat) : Int) + off = (tgt : Int)) (kt : x < y → PW G μ rm Q tgt L st M k sl) (kf : ¬ x < y → PW G μ rm Q (pc + 1 + 3) L st M k sl) : PW G μ rm Q pc L (.long y :: .long x :: st) M k sl := s_lcmp hc (s_if_lt hc2 ht (fun h => kt ((lg_cmp_lt x y).mp h)) (fun h => kf (fun q => h ((lg_cmp_lt x y).mpr q))))
theorem s_lif_ge {x y : Int64} {off : Int} {tgt : Nat} (hc : cod μ pc .lcmp 1) (hc2 : cod μ (pc + 1) (.ifCond .ge off) 3) (ht : ((pc + 1 : Nat) : Int) + off = (tgt : Int)) (kt : y ≤ x → PW G μ rm Q tgt L st M k sl) (kf : ¬ y ≤ x → PW G μ rm Q (pc + 1 + 3) L st M k sl) : PW G μ rm Q pc L (.long y :: .long x :: st) M k sl := s_lcmp hc (s_if_ge hc2 ht (fun h => kt ((lg_cmp_ge x y).mp h)) (fun h => kf (fun q => h ((lg_cmp_ge x y).mpr q))))
theorem s_lif_gt {x y : Int64} {off : Int} {tgt : Nat} (hc : cod μ pc .lcmp 1) (hc2 : cod μ (pc + 1) (.ifCond .gt off) 3) (ht : ((pc + 1 : Nat) : Int) + off = (tgt : Int)) (kt : y < x → PW G μ rm Q tgt L st M k sl) (kf : ¬ y < x → PW G μ rm Q (pc + 1 + 3) L st M k sl) : PW G μ rm Q pc L (.long y :: .long x :: st) M k sl := s_lcmp hc (s_if_gt hc2 ht (fun h => kt ((lg_cmp_gt x y).mp h)) (fun h => kf (fun q => h ((lg_cmp_gt x y).mpr q))))
theorem s_lif_le {x y : Int64} {off : Int} {tgt : Nat} (hc : cod μ pc .lcmp 1) (hc2 : cod μ (pc + 1) (.ifCond .le off) 3) (ht : ((pc + 1 : Nat) : Int) + off = (tgt : Int)) (kt : x ≤ y → PW G μ rm Q tgt L st M k sl) (kf : ¬ x ≤ y → PW G μ rm Q (pc + 1 + 3) L st M k sl) : PW G μ rm Q pc L (.long y :: .long x :: st) M k sl := s_lcmp hc (s_if_le hc2 ht (fun h => kt ((lg_cmp_le x y).mp h)) (fun h => kf (fun q => h ((lg_cmp_le x y).mpr q))))
theorem s_ts {dflt lo hi : Int} {offs : Array Int} {len : Nat} {x : Int32} {tgt : Nat} (hc : cod μ pc (.tableswitch dflt lo hi offs) len) (ht : (pc : Int) + dflt = (tgt : Int)) (kd : (x.toInt < lo ∨ hi < x.toInt) → PW G μ rm Q tgt L st M k sl)
    (kA : ∀ j : Nat, x.toInt = lo + j → x.toInt ≤ hi → ∃ (off : Int) (t9 : Nat), offs[j]? = some off ∧ (pc : Int) + off = (t9 : Int) ∧ PW G μ rm Q t9 L st M k sl) : PW G μ rm Q pc L (.int x :: st) M k sl := by
  by_cases h1 : x.toInt < lo
  · exact s_tsOut hc (Or.inl h1) ht (kd (Or.inl h1))
  · by_cases h2 : hi < x.toInt
    · exact s_tsOut hc (Or.inr h2) ht (kd (Or.inr h2))
    · obtain ⟨off, t9, e1, e2, h9⟩ := kA (x.toInt - lo).toNat (by omega) (by omega)
      exact s_tsIn hc h1 h2 e1 e2 h9
end PWX
theorem ci_m1 : Int32.ofInt (-1) = (-1) := by decide
theorem ci_0 : Int32.ofInt 0 = 0 := by decide
theorem ci_1 : Int32.ofInt 1 = 1 := by decide
theorem ci_2 : Int32.ofInt 2 = 2 := by decide
theorem ci_3 : Int32.ofInt 3 = 3 := by decide
theorem ci_4 : Int32.ofInt 4 = 4 := by decide
theorem ci_5 : Int32.ofInt 5 = 5 := by decide
theorem cb_m100 : (Int8.ofInt (-100)).toInt32 = (-100) := by decide
theorem cb_m15 : (Int8.ofInt (-15)).toInt32 = (-15) := by decide
theorem cb_m14 : (Int8.ofInt (-14)).toInt32 = (-14) := by decide
theorem cb_m13 : (Int8.ofInt (-13)).toInt32 = (-13) := by decide
theorem cb_m12 : (Int8.ofInt (-12)).toInt32 = (-12) := by decide
theorem cb_m11 : (Int8.ofInt (-11)).toInt32 = (-11) := by decide
theorem cb_m4 : (Int8.ofInt (-4)).toInt32 = (-4) := by decide
theorem cb_m3 : (Int8.ofInt (-3)).toInt32 = (-3) := by decide
theorem cb_6 : (Int8.ofInt 6).toInt32 = 6 := by decide
theorem cb_7 : (Int8.ofInt 7).toInt32 = 7 := by decide
theorem cb_8 : (Int8.ofInt 8).toInt32 = 8 := by decide
theorem cb_9 : (Int8.ofInt 9).toInt32 = 9 := by decide
theorem cb_10 : (Int8.ofInt 10).toInt32 = 10 := by decide
theorem cb_11 : (Int8.ofInt 11).toInt32 = 11 := by decide
theorem cb_15 : (Int8.ofInt 15).toInt32 = 15 := by decide
theorem cb_20 : (Int8.ofInt 20).toInt32 = 20 := by decide
theorem cb_32 : (Int8.ofInt 32).toInt32 = 32 := by decide
theorem cb_42 : (Int8.ofInt 42).toInt32 = 42 := by decide
theorem cb_48 : (Int8.ofInt 48).toInt32 = 48 := by decide
theorem cb_49 : (Int8.ofInt 49).toInt32 = 49 := by decide
theorem cb_50 : (Int8.ofInt 50).toInt32 = 50 := by decide
theorem cb_55 : (Int8.ofInt 55).toInt32 = 55 := by decide
theorem cb_57 : (Int8.ofInt 57).toInt32 = 57 := by decide
theorem cb_59 : (Int8.ofInt 59).toInt32 = 59 := by decide
theorem cb_60 : (Int8.ofInt 60).toInt32 = 60 := by decide
theorem cb_63 : (Int8.ofInt 63).toInt32 = 63 := by decide
theorem cb_64 : (Int8.ofInt 64).toInt32 = 64 := by decide
theorem cb_99 : (Int8.ofInt 99).toInt32 = 99 := by decide
theorem cb_100 : (Int8.ofInt 100).toInt32 = 100 := by decide
theorem cb_101 : (Int8.ofInt 101).toInt32 = 101 := by decide
theorem cb_104 : (Int8.ofInt 104).toInt32 = 104 := by decide
theorem cb_107 : (Int8.ofInt 107).toInt32 = 107 := by decide
theorem cb_109 : (Int8.ofInt 109).toInt32 = 109 := by decide
theorem cb_119 : (Int8.ofInt 119).toInt32 = 119 := by decide
theorem cs_m2000 : (Int16.ofInt (-2000)).toInt32 = (-2000) := by decide
theorem cs_m1000 : (Int16.ofInt (-1000)).toInt32 = (-1000) := by decide
theorem cs_200 : (Int16.ofInt 200).toInt32 = 200 := by decide
theorem cs_225 : (Int16.ofInt 225).toInt32 = 225 := by decide
theorem cs_255 : (Int16.ofInt 255).toInt32 = 255 := by decide
theorem cs_606 : (Int16.ofInt 606).toInt32 = 606 := by decide
theorem cs_800 : (Int16.ofInt 800).toInt32 = 800 := by decide
theorem cs_12345 : (Int16.ofInt 12345).toInt32 = 12345 := by decide
theorem ci_6 : Int32.ofInt 6 = 6 := by decide
theorem n_L_8 : NewOK RL 8 12 := ⟨by decide, g1 23 rfl rfl, g1 24 rfl rfl, g1 1 rfl rfl⟩
theorem n_X12_7 : NewOK RX12 7 6 := ⟨by decide, g1 31 rfl rfl, g1 32 rfl rfl, g1 2 rfl rfl⟩
theorem f_X6_40 : FldOK RX6 40 6 0 := ⟨by decide, by decide, "BothPrices$Street", g1 37 rfl rfl, Or.inl rfl⟩
theorem f_X9_15 : FldOK RX9 15 6 0 := ⟨by decide, by decide, "BothPrices$Street", g1 38 rfl rfl, Or.inl rfl⟩
theorem f_X5_100 : FldOK RX5 100 6 0 := ⟨by decide, by decide, "BothPrices$Street", g1 39 rfl rfl, Or.inl rfl⟩
theorem f_X0_102 : FldOK RX0 102 6 0 := ⟨by decide, by decide, "BothPrices$Street", g1 40 rfl rfl, Or.inl rfl⟩
theorem f_X12_279 : FldOK RX12 279 6 0 := ⟨by decide, by decide, "BothPrices$Street", g1 41 rfl rfl, Or.inl rfl⟩
theorem f_X6_9 : FldOK RX6 9 6 1 := ⟨by decide, by decide, "BothPrices$Street", g1 42 rfl rfl, Or.inl rfl⟩
theorem f_X9_21 : FldOK RX9 21 6 1 := ⟨by decide, by decide, "BothPrices$Street", g1 43 rfl rfl, Or.inl rfl⟩
theorem f_X12_92 : FldOK RX12 92 6 1 := ⟨by decide, by decide, "BothPrices$Street", g1 44 rfl rfl, Or.inl rfl⟩
theorem f_X0_105 : FldOK RX0 105 6 1 := ⟨by decide, by decide, "BothPrices$Street", g1 45 rfl rfl, Or.inl rfl⟩
theorem f_X6_15 : FldOK RX6 15 6 2 := ⟨by decide, by decide, "BothPrices$Street", g1 46 rfl rfl, Or.inl rfl⟩
theorem f_X12_96 : FldOK RX12 96 6 2 := ⟨by decide, by decide, "BothPrices$Street", g1 47 rfl rfl, Or.inl rfl⟩
theorem f_X5_108 : FldOK RX5 108 6 2 := ⟨by decide, by decide, "BothPrices$Street", g1 48 rfl rfl, Or.inl rfl⟩
theorem f_X0_125 : FldOK RX0 125 6 2 := ⟨by decide, by decide, "BothPrices$Street", g1 49 rfl rfl, Or.inl rfl⟩
theorem f_X9_79 : FldOK RX9 79 6 2 := ⟨by decide, by decide, "BothPrices$Street", g1 50 rfl rfl, Or.inl rfl⟩
theorem f_X6_43 : FldOK RX6 43 6 3 := ⟨by decide, by decide, "BothPrices$Street", g1 51 rfl rfl, Or.inl rfl⟩
theorem f_X0_78 : FldOK RX0 78 6 3 := ⟨by decide, by decide, "BothPrices$Street", g1 52 rfl rfl, Or.inl rfl⟩
theorem f_X12_282 : FldOK RX12 282 6 3 := ⟨by decide, by decide, "BothPrices$Street", g1 53 rfl rfl, Or.inl rfl⟩
theorem f_X6_18 : FldOK RX6 18 6 4 := ⟨by decide, by decide, "BothPrices$Street", g1 54 rfl rfl, Or.inl rfl⟩
theorem f_X12_102 : FldOK RX12 102 6 4 := ⟨by decide, by decide, "BothPrices$Street", g1 55 rfl rfl, Or.inl rfl⟩
theorem f_X6_21 : FldOK RX6 21 6 5 := ⟨by decide, by decide, "BothPrices$Street", g1 56 rfl rfl, Or.inl rfl⟩
theorem f_X0_81 : FldOK RX0 81 6 5 := ⟨by decide, by decide, "BothPrices$Street", g1 57 rfl rfl, Or.inl rfl⟩
theorem f_X12_105 : FldOK RX12 105 6 5 := ⟨by decide, by decide, "BothPrices$Street", g1 58 rfl rfl, Or.inl rfl⟩
theorem f_X6_24 : FldOK RX6 24 6 6 := ⟨by decide, by decide, "BothPrices$Street", g1 59 rfl rfl, Or.inl rfl⟩
theorem f_X12_108 : FldOK RX12 108 6 6 := ⟨by decide, by decide, "BothPrices$Street", g1 60 rfl rfl, Or.inl rfl⟩
theorem f_X6_27 : FldOK RX6 27 6 7 := ⟨by decide, by decide, "BothPrices$Street", g1 61 rfl rfl, Or.inl rfl⟩
theorem f_X9_34 : FldOK RX9 34 6 7 := ⟨by decide, by decide, "BothPrices$Street", g1 62 rfl rfl, Or.inl rfl⟩
theorem f_X0_92 : FldOK RX0 92 6 7 := ⟨by decide, by decide, "BothPrices$Street", g1 63 rfl rfl, Or.inl rfl⟩
theorem f_X12_220 : FldOK RX12 220 6 7 := ⟨by decide, by decide, "BothPrices$Street", g1 64 rfl rfl, Or.inl rfl⟩
theorem f_X6_46 : FldOK RX6 46 6 8 := ⟨by decide, by decide, "BothPrices$Street", g1 65 rfl rfl, Or.inl rfl⟩
theorem f_X6_31 : FldOK RX6 31 6 9 := ⟨by decide, by decide, "BothPrices$Street", g1 66 rfl rfl, Or.inl rfl⟩
theorem f_X0_34 : FldOK RX0 34 6 9 := ⟨by decide, by decide, "BothPrices$Street", g1 67 rfl rfl, Or.inl rfl⟩
theorem f_X12_292 : FldOK RX12 292 6 9 := ⟨by decide, by decide, "BothPrices$Street", g1 68 rfl rfl, Or.inl rfl⟩
theorem f_X6_34 : FldOK RX6 34 6 10 := ⟨by decide, by decide, "BothPrices$Street", g1 69 rfl rfl, Or.inl rfl⟩
theorem f_X9_37 : FldOK RX9 37 6 10 := ⟨by decide, by decide, "BothPrices$Street", g1 70 rfl rfl, Or.inl rfl⟩
theorem f_X6_37 : FldOK RX6 37 6 11 := ⟨by decide, by decide, "BothPrices$Street", g1 71 rfl rfl, Or.inl rfl⟩
theorem f_X9_40 : FldOK RX9 40 6 11 := ⟨by decide, by decide, "BothPrices$Street", g1 72 rfl rfl, Or.inl rfl⟩
theorem n_X12_22 : NewOK RX12 22 9 := ⟨by decide, g1 99 rfl rfl, g1 100 rfl rfl, g1 3 rfl rfl⟩
theorem an_X12_22 : anOK RX12 22 3 := ⟨"BothPrices$Thought", rfl, Or.inl ⟨rfl, rfl⟩, g1 99 rfl rfl⟩
theorem f_X9_9 : FldOK RX9 9 9 0 := ⟨by decide, by decide, "BothPrices$Thought", g1 105 rfl rfl, Or.inl rfl⟩
theorem f_X5_105 : FldOK RX5 105 9 0 := ⟨by decide, by decide, "BothPrices$Thought", g1 106 rfl rfl, Or.inl rfl⟩
theorem f_X0_146 : FldOK RX0 146 9 0 := ⟨by decide, by decide, "BothPrices$Thought", g1 107 rfl rfl, Or.inl rfl⟩
theorem f_X12_151 : FldOK RX12 151 9 0 := ⟨by decide, by decide, "BothPrices$Thought", g1 108 rfl rfl, Or.inl rfl⟩
theorem f_X3_11 : FldOK RX3 11 9 1 := ⟨by decide, by decide, "BothPrices$Thought", g1 109 rfl rfl, Or.inl rfl⟩
theorem f_X9_25 : FldOK RX9 25 9 1 := ⟨by decide, by decide, "BothPrices$Thought", g1 110 rfl rfl, Or.inl rfl⟩
theorem f_X0_66 : FldOK RX0 66 9 1 := ⟨by decide, by decide, "BothPrices$Thought", g1 111 rfl rfl, Or.inl rfl⟩
theorem f_X5_91 : FldOK RX5 91 9 1 := ⟨by decide, by decide, "BothPrices$Thought", g1 112 rfl rfl, Or.inl rfl⟩
theorem f_X12_163 : FldOK RX12 163 9 1 := ⟨by decide, by decide, "BothPrices$Thought", g1 113 rfl rfl, Or.inl rfl⟩
theorem n_X12_35 : NewOK RX12 35 4 := ⟨by decide, g1 120 rfl rfl, g1 122 rfl rfl, g1 4 rfl rfl⟩
theorem an_X12_35 : anOK RX12 35 4 := ⟨"BothPrices$Shelf", rfl, Or.inr ⟨rfl, rfl⟩, g1 120 rfl rfl⟩
theorem f_X4_19 : FldOK RX4 19 4 0 := ⟨by decide, by decide, "BothPrices$Shelf", g1 127 rfl rfl, Or.inl rfl⟩
theorem f_X12_364 : FldOK RX12 364 4 0 := ⟨by decide, by decide, "BothPrices$Shelf", g1 128 rfl rfl, Or.inl rfl⟩
theorem f_X4_11 : FldOK RX4 11 4 1 := ⟨by decide, by decide, "BothPrices$Shelf", g1 129 rfl rfl, Or.inl rfl⟩
theorem f_X12_340 : FldOK RX12 340 4 1 := ⟨by decide, by decide, "BothPrices$Shelf", g1 130 rfl rfl, Or.inl rfl⟩
theorem f_X7_21 : FldOK RX7 21 4 2 := ⟨by decide, by decide, "BothPrices$Shelf", g1 131 rfl rfl, Or.inl rfl⟩
theorem f_X4_23 : FldOK RX4 23 4 2 := ⟨by decide, by decide, "BothPrices$Shelf", g1 132 rfl rfl, Or.inl rfl⟩
theorem f_X0_128 : FldOK RX0 128 4 2 := ⟨by decide, by decide, "BothPrices$Shelf", g1 133 rfl rfl, Or.inl rfl⟩
theorem f_X12_239 : FldOK RX12 239 4 2 := ⟨by decide, by decide, "BothPrices$Shelf", g1 134 rfl rfl, Or.inl rfl⟩
theorem f_X4_15 : FldOK RX4 15 4 3 := ⟨by decide, by decide, "BothPrices$Shelf", g1 135 rfl rfl, Or.inl rfl⟩
theorem f_X7_26 : FldOK RX7 26 4 3 := ⟨by decide, by decide, "BothPrices$Shelf", g1 136 rfl rfl, Or.inl rfl⟩
theorem f_X0_133 : FldOK RX0 133 4 3 := ⟨by decide, by decide, "BothPrices$Shelf", g1 137 rfl rfl, Or.inl rfl⟩
theorem f_X12_334 : FldOK RX12 334 4 3 := ⟨by decide, by decide, "BothPrices$Shelf", g1 138 rfl rfl, Or.inl rfl⟩
theorem n_X12_42 : NewOK RX12 42 7 := ⟨by decide, g1 148 rfl rfl, g1 149 rfl rfl, g1 5 rfl rfl⟩
theorem f_X7_17 : FldOK RX7 17 7 0 := ⟨by decide, by decide, "BothPrices$StreetText", g1 154 rfl rfl, Or.inl rfl⟩
theorem f_X7_46 : FldOK RX7 46 7 1 := ⟨by decide, by decide, "BothPrices$StreetText", g1 155 rfl rfl, Or.inl rfl⟩
theorem f_X7_43 : FldOK RX7 43 7 2 := ⟨by decide, by decide, "BothPrices$StreetText", g1 156 rfl rfl, Or.inl rfl⟩
theorem f_X7_7 : FldOK RX7 7 7 3 := ⟨by decide, by decide, "BothPrices$StreetText", g1 157 rfl rfl, Or.inl rfl⟩
theorem n_X12_49 : NewOK RX12 49 0 := ⟨by decide, g1 167 rfl rfl, g1 168 rfl rfl, g1 6 rfl rfl⟩
theorem n_X0_9 : NewOK RX0 9 9 := ⟨by decide, g1 173 rfl rfl, g1 100 rfl rfl, g1 3 rfl rfl⟩
theorem an_X0_9 : anOK RX0 9 3 := ⟨"BothPrices$Thought", rfl, Or.inl ⟨rfl, rfl⟩, g1 173 rfl rfl⟩
theorem f_X0_11 : FldOK RX0 11 0 0 := ⟨by decide, by decide, "BothPrices$Days", g1 178 rfl rfl, Or.inl rfl⟩
theorem f_X0_19 : FldOK RX0 19 0 1 := ⟨by decide, by decide, "BothPrices$Days", g1 179 rfl rfl, Or.inl rfl⟩
theorem f_X0_95 : FldOK RX0 95 0 2 := ⟨by decide, by decide, "BothPrices$Days", g1 180 rfl rfl, Or.inl rfl⟩
theorem f_X12_213 : FldOK RX12 213 0 2 := ⟨by decide, by decide, "BothPrices$Days", g1 181 rfl rfl, Or.inl rfl⟩
theorem f_X0_99 : FldOK RX0 99 0 3 := ⟨by decide, by decide, "BothPrices$Days", g1 182 rfl rfl, Or.inl rfl⟩
theorem f_X12_217 : FldOK RX12 217 0 3 := ⟨by decide, by decide, "BothPrices$Days", g1 183 rfl rfl, Or.inl rfl⟩
theorem f_X0_27 : FldOK RX0 27 0 4 := ⟨by decide, by decide, "BothPrices$Days", g1 184 rfl rfl, Or.inl rfl⟩
theorem f_X12_198 : FldOK RX12 198 0 4 := ⟨by decide, by decide, "BothPrices$Days", g1 185 rfl rfl, Or.inl rfl⟩
theorem f_X0_73 : FldOK RX0 73 0 5 := ⟨by decide, by decide, "BothPrices$Days", g1 186 rfl rfl, Or.inl rfl⟩
theorem f_X12_201 : FldOK RX12 201 0 5 := ⟨by decide, by decide, "BothPrices$Days", g1 187 rfl rfl, Or.inl rfl⟩
theorem f_X0_31 : FldOK RX0 31 0 6 := ⟨by decide, by decide, "BothPrices$Days", g1 188 rfl rfl, Or.inl rfl⟩
theorem f_X12_204 : FldOK RX12 204 0 6 := ⟨by decide, by decide, "BothPrices$Days", g1 189 rfl rfl, Or.inl rfl⟩
theorem f_X0_140 : FldOK RX0 140 0 7 := ⟨by decide, by decide, "BothPrices$Days", g1 190 rfl rfl, Or.inl rfl⟩
theorem f_X12_269 : FldOK RX12 269 0 7 := ⟨by decide, by decide, "BothPrices$Days", g1 191 rfl rfl, Or.inl rfl⟩
theorem f_X0_143 : FldOK RX0 143 0 8 := ⟨by decide, by decide, "BothPrices$Days", g1 192 rfl rfl, Or.inl rfl⟩
theorem f_X12_272 : FldOK RX12 272 0 8 := ⟨by decide, by decide, "BothPrices$Days", g1 193 rfl rfl, Or.inl rfl⟩
theorem n_X12_56 : NewOK RX12 56 5 := ⟨by decide, g1 213 rfl rfl, g1 214 rfl rfl, g1 7 rfl rfl⟩
theorem n_X5_18 : NewOK RX5 18 9 := ⟨by decide, g1 219 rfl rfl, g1 100 rfl rfl, g1 3 rfl rfl⟩
theorem an_X5_18 : anOK RX5 18 3 := ⟨"BothPrices$Thought", rfl, Or.inl ⟨rfl, rfl⟩, g1 219 rfl rfl⟩
theorem f_X5_66 : FldOK RX5 66 5 0 := ⟨by decide, by decide, "BothPrices$Steps", g1 221 rfl rfl, Or.inl rfl⟩
theorem f_X12_227 : FldOK RX12 227 5 0 := ⟨by decide, by decide, "BothPrices$Steps", g1 222 rfl rfl, Or.inl rfl⟩
theorem f_X5_69 : FldOK RX5 69 5 1 := ⟨by decide, by decide, "BothPrices$Steps", g1 223 rfl rfl, Or.inl rfl⟩
theorem f_X12_230 : FldOK RX12 230 5 1 := ⟨by decide, by decide, "BothPrices$Steps", g1 224 rfl rfl, Or.inl rfl⟩
theorem f_X5_76 : FldOK RX5 76 5 2 := ⟨by decide, by decide, "BothPrices$Steps", g1 225 rfl rfl, Or.inl rfl⟩
theorem f_X12_233 : FldOK RX12 233 5 2 := ⟨by decide, by decide, "BothPrices$Steps", g1 226 rfl rfl, Or.inl rfl⟩
theorem f_X5_47 : FldOK RX5 47 5 3 := ⟨by decide, by decide, "BothPrices$Steps", g1 227 rfl rfl, Or.inl rfl⟩
theorem f_X5_11 : FldOK RX5 11 5 4 := ⟨by decide, by decide, "BothPrices$Steps", g1 228 rfl rfl, Or.inl rfl⟩
theorem f_X5_15 : FldOK RX5 15 5 5 := ⟨by decide, by decide, "BothPrices$Steps", g1 229 rfl rfl, Or.inl rfl⟩
theorem f_X5_21 : FldOK RX5 21 5 6 := ⟨by decide, by decide, "BothPrices$Steps", g1 230 rfl rfl, Or.inl rfl⟩
theorem f_X5_25 : FldOK RX5 25 5 7 := ⟨by decide, by decide, "BothPrices$Steps", g1 231 rfl rfl, Or.inl rfl⟩
theorem f_X5_28 : FldOK RX5 28 5 8 := ⟨by decide, by decide, "BothPrices$Steps", g1 232 rfl rfl, Or.inl rfl⟩
theorem f_X5_32 : FldOK RX5 32 5 9 := ⟨by decide, by decide, "BothPrices$Steps", g1 233 rfl rfl, Or.inl rfl⟩
theorem f_X5_63 : FldOK RX5 63 5 10 := ⟨by decide, by decide, "BothPrices$Steps", g1 234 rfl rfl, Or.inl rfl⟩
theorem f_X5_72 : FldOK RX5 72 5 11 := ⟨by decide, by decide, "BothPrices$Steps", g1 235 rfl rfl, Or.inl rfl⟩
theorem f_X5_35 : FldOK RX5 35 5 12 := ⟨by decide, by decide, "BothPrices$Steps", g1 236 rfl rfl, Or.inl rfl⟩
theorem f_X5_38 : FldOK RX5 38 5 13 := ⟨by decide, by decide, "BothPrices$Steps", g1 237 rfl rfl, Or.inl rfl⟩
theorem f_X12_10 : FldOK RX12 10 12 0 := ⟨by decide, by decide, "BothPrices", g2 27 rfl rfl, Or.inl rfl⟩
theorem f_X12_16 : FldOK RX12 16 12 1 := ⟨by decide, by decide, "BothPrices", g2 28 rfl rfl, Or.inl rfl⟩
theorem f_X12_19 : FldOK RX12 19 12 2 := ⟨by decide, by decide, "BothPrices", g2 29 rfl rfl, Or.inl rfl⟩
theorem f_X12_25 : FldOK RX12 25 12 3 := ⟨by decide, by decide, "BothPrices", g2 30 rfl rfl, Or.inl rfl⟩
theorem f_X12_29 : FldOK RX12 29 12 4 := ⟨by decide, by decide, "BothPrices", g2 31 rfl rfl, Or.inl rfl⟩
theorem f_X12_32 : FldOK RX12 32 12 5 := ⟨by decide, by decide, "BothPrices", g2 32 rfl rfl, Or.inl rfl⟩
theorem f_X12_275 : FldOK RX12 275 12 6 := ⟨by decide, by decide, "BothPrices", g2 33 rfl rfl, Or.inl rfl⟩
theorem f_X12_37 : FldOK RX12 37 12 7 := ⟨by decide, by decide, "BothPrices", g2 34 rfl rfl, Or.inl rfl⟩
theorem f_X12_45 : FldOK RX12 45 12 8 := ⟨by decide, by decide, "BothPrices", g2 35 rfl rfl, Or.inl rfl⟩
theorem f_X12_52 : FldOK RX12 52 12 9 := ⟨by decide, by decide, "BothPrices", g2 36 rfl rfl, Or.inl rfl⟩
theorem f_X12_59 : FldOK RX12 59 12 10 := ⟨by decide, by decide, "BothPrices", g2 37 rfl rfl, Or.inl rfl⟩
theorem k_X9_63 : Cond.constantLong RX9 63 100000000000 ∈ gT := g3 8 rfl rfl
theorem k_X9_74 : Cond.constantLong RX9 74 2 ∈ gT := g3 13 rfl rfl
theorem k_X12_147 : Cond.constantLong RX12 147 (-4000000000000000001) ∈ gT := g3 23 rfl rfl
theorem k_X12_149 : Cond.constantLong RX12 149 (-4000000000000000003) ∈ gT := g3 24 rfl rfl
theorem k_X12_173 : Cond.constant RX12 173 (-1000000003) ∈ gT := g3 50 rfl rfl
theorem k_X12_174 : Cond.constant RX12 174 (-1000000004) ∈ gT := g3 51 rfl rfl
theorem k_X12_192 : Cond.constant RX12 192 (-1000000001) ∈ gT := g3 148 rfl rfl
theorem k_X12_193 : Cond.constant RX12 193 1000000000 ∈ gT := g3 149 rfl rfl
theorem k_X0_49 : Cond.constant RX0 49 1103515245 ∈ gT := g3 157 rfl rfl
theorem k_X0_76 : Cond.constant RX0 76 2147483647 ∈ gT := g3 161 rfl rfl
theorem k_X0_77 : Cond.constant RX0 77 65536 ∈ gT := g3 162 rfl rfl
theorem k_X12_207 : Cond.constantLong RX12 207 4000000000000000000 ∈ gT := g3 183 rfl rfl
theorem k_X5_103 : Cond.constantLong RX5 103 100 ∈ gT := g3 225 rfl rfl
theorem n_X12_371 : NewOK RX12 371 2 := ⟨by decide, g4 15 rfl rfl, g4 16 rfl rfl, g1 12 rfl rfl⟩
theorem f_X11_9 : ∀ c, (c = 11 ∨ c = 2 ∨ c = 3 ∨ c = 8 ∨ c = 1 ∨ c = 10) → FldOK RX11 9 c 0 := by
  intro c h
  have hw : Cond.fieldLink RX11 9 "BothPrices$Way" "figure" "I" ∈ gT := g4 24 rfl rfl
  rcases h with rfl | rfl | rfl | rfl | rfl | rfl <;> exact ⟨by decide, by decide, "BothPrices$Way", hw, Or.inl rfl⟩
theorem f_X10_7 : ∀ c, (c = 11 ∨ c = 2 ∨ c = 3 ∨ c = 8 ∨ c = 1 ∨ c = 10) → FldOK RX10 7 c 0 := by
  intro c h
  have hw : Cond.fieldLink RX10 7 "BothPrices$ToldWay" "figure" "I" ∈ gT := g4 25 rfl rfl
  rcases h with rfl | rfl | rfl | rfl | rfl | rfl <;> exact ⟨by decide, by decide, "BothPrices$ToldWay", hw, Or.inr (g4 26 rfl rfl)⟩
theorem f_X2_13 : ∀ c, (c = 11 ∨ c = 2 ∨ c = 3 ∨ c = 8 ∨ c = 1 ∨ c = 10) → FldOK RX2 13 c 0 := by
  intro c h
  have hw : Cond.fieldLink RX2 13 "BothPrices$FixedWay" "figure" "I" ∈ gT := g4 27 rfl rfl
  rcases h with rfl | rfl | rfl | rfl | rfl | rfl <;> exact ⟨by decide, by decide, "BothPrices$FixedWay", hw, Or.inr (g4 28 rfl rfl)⟩
theorem f_X8_13 : ∀ c, (c = 11 ∨ c = 2 ∨ c = 3 ∨ c = 8 ∨ c = 1 ∨ c = 10) → FldOK RX8 13 c 0 := by
  intro c h
  have hw : Cond.fieldLink RX8 13 "BothPrices$ThinkWay" "figure" "I" ∈ gT := g4 29 rfl rfl
  rcases h with rfl | rfl | rfl | rfl | rfl | rfl <;> exact ⟨by decide, by decide, "BothPrices$ThinkWay", hw, Or.inr (g4 30 rfl rfl)⟩
theorem f_X1_15 : ∀ c, (c = 11 ∨ c = 2 ∨ c = 3 ∨ c = 8 ∨ c = 1 ∨ c = 10) → FldOK RX1 15 c 0 := by
  intro c h
  have hw : Cond.fieldLink RX1 15 "BothPrices$FairlyWay" "figure" "I" ∈ gT := g4 31 rfl rfl
  rcases h with rfl | rfl | rfl | rfl | rfl | rfl <;> exact ⟨by decide, by decide, "BothPrices$FairlyWay", hw, Or.inr (g4 32 rfl rfl)⟩
theorem n_X12_376 : NewOK RX12 376 3 := ⟨by decide, g4 36 rfl rfl, g4 37 rfl rfl, g1 13 rfl rfl⟩
theorem n_X12_379 : NewOK RX12 379 8 := ⟨by decide, g4 43 rfl rfl, g4 44 rfl rfl, g1 14 rfl rfl⟩
theorem n_X12_382 : NewOK RX12 382 1 := ⟨by decide, g4 51 rfl rfl, g4 52 rfl rfl, g1 15 rfl rfl⟩
theorem n_X12_385 : NewOK RX12 385 10 := ⟨by decide, g4 59 rfl rfl, g4 60 rfl rfl, g1 16 rfl rfl⟩
theorem n_X12_183 : NewOK RX12 183 11 := ⟨by decide, g4 67 rfl rfl, g4 68 rfl rfl, g1 11 rfl rfl⟩
theorem k_X12_263 : Cond.constantLong RX12 263 (-4000000000000000013) ∈ gT := g4 113 rfl rfl
theorem n_L_18 : NewOK RL 18 13 := ⟨by decide, g5 109 rfl rfl, g5 110 rfl rfl, g1 8 rfl rfl⟩
theorem f_X13_119 : FldOK RX13 119 13 0 := ⟨by decide, by decide, "BothPricesModel", g5 115 rfl rfl, Or.inl rfl⟩
theorem f_X13_7 : FldOK RX13 7 13 1 := ⟨by decide, by decide, "BothPricesModel", g5 116 rfl rfl, Or.inl rfl⟩
theorem f_X13_13 : FldOK RX13 13 13 2 := ⟨by decide, by decide, "BothPricesModel", g5 117 rfl rfl, Or.inl rfl⟩
theorem f_X13_128 : FldOK RX13 128 13 3 := ⟨by decide, by decide, "BothPricesModel", g5 118 rfl rfl, Or.inl rfl⟩
theorem f_X13_16 : FldOK RX13 16 13 4 := ⟨by decide, by decide, "BothPricesModel", g5 119 rfl rfl, Or.inl rfl⟩
theorem f_X13_19 : FldOK RX13 19 13 5 := ⟨by decide, by decide, "BothPricesModel", g5 120 rfl rfl, Or.inl rfl⟩
theorem f_X13_22 : FldOK RX13 22 13 6 := ⟨by decide, by decide, "BothPricesModel", g5 121 rfl rfl, Or.inl rfl⟩
theorem f_X13_25 : FldOK RX13 25 13 7 := ⟨by decide, by decide, "BothPricesModel", g5 122 rfl rfl, Or.inl rfl⟩
theorem f_X13_171 : FldOK RX13 171 13 8 := ⟨by decide, by decide, "BothPricesModel", g5 123 rfl rfl, Or.inl rfl⟩
theorem f_X13_29 : FldOK RX13 29 13 9 := ⟨by decide, by decide, "BothPricesModel", g5 124 rfl rfl, Or.inl rfl⟩
theorem f_X13_32 : FldOK RX13 32 13 10 := ⟨by decide, by decide, "BothPricesModel", g5 125 rfl rfl, Or.inl rfl⟩
theorem f_X13_190 : FldOK RX13 190 13 11 := ⟨by decide, by decide, "BothPricesModel", g5 126 rfl rfl, Or.inl rfl⟩
theorem f_X13_115 : FldOK RX13 115 13 12 := ⟨by decide, by decide, "BothPricesModel", g5 127 rfl rfl, Or.inl rfl⟩
theorem f_X13_141 : FldOK RX13 141 13 13 := ⟨by decide, by decide, "BothPricesModel", g5 128 rfl rfl, Or.inl rfl⟩
theorem f_X13_138 : FldOK RX13 138 13 14 := ⟨by decide, by decide, "BothPricesModel", g5 129 rfl rfl, Or.inl rfl⟩
theorem f_X13_135 : FldOK RX13 135 13 15 := ⟨by decide, by decide, "BothPricesModel", g5 130 rfl rfl, Or.inl rfl⟩
theorem f_X13_144 : FldOK RX13 144 13 16 := ⟨by decide, by decide, "BothPricesModel", g5 131 rfl rfl, Or.inl rfl⟩
theorem f_X13_158 : FldOK RX13 158 13 17 := ⟨by decide, by decide, "BothPricesModel", g5 132 rfl rfl, Or.inl rfl⟩
theorem f_X13_36 : FldOK RX13 36 13 18 := ⟨by decide, by decide, "BothPricesModel", g5 133 rfl rfl, Or.inl rfl⟩
theorem f_X13_39 : FldOK RX13 39 13 19 := ⟨by decide, by decide, "BothPricesModel", g5 134 rfl rfl, Or.inl rfl⟩
theorem f_X13_42 : FldOK RX13 42 13 20 := ⟨by decide, by decide, "BothPricesModel", g5 135 rfl rfl, Or.inl rfl⟩
theorem f_X13_45 : FldOK RX13 45 13 21 := ⟨by decide, by decide, "BothPricesModel", g5 136 rfl rfl, Or.inl rfl⟩
theorem f_X13_48 : FldOK RX13 48 13 22 := ⟨by decide, by decide, "BothPricesModel", g5 137 rfl rfl, Or.inl rfl⟩
theorem f_X13_51 : FldOK RX13 51 13 23 := ⟨by decide, by decide, "BothPricesModel", g5 138 rfl rfl, Or.inl rfl⟩
theorem f_X13_267 : FldOK RX13 267 13 24 := ⟨by decide, by decide, "BothPricesModel", g5 139 rfl rfl, Or.inl rfl⟩
theorem f_X13_270 : FldOK RX13 270 13 25 := ⟨by decide, by decide, "BothPricesModel", g5 140 rfl rfl, Or.inl rfl⟩
theorem f_X13_261 : FldOK RX13 261 13 26 := ⟨by decide, by decide, "BothPricesModel", g5 141 rfl rfl, Or.inl rfl⟩
theorem f_X13_54 : FldOK RX13 54 13 27 := ⟨by decide, by decide, "BothPricesModel", g5 142 rfl rfl, Or.inl rfl⟩
theorem f_X13_57 : FldOK RX13 57 13 28 := ⟨by decide, by decide, "BothPricesModel", g5 143 rfl rfl, Or.inl rfl⟩
theorem f_X13_60 : FldOK RX13 60 13 29 := ⟨by decide, by decide, "BothPricesModel", g5 144 rfl rfl, Or.inl rfl⟩
theorem f_X13_63 : FldOK RX13 63 13 30 := ⟨by decide, by decide, "BothPricesModel", g5 145 rfl rfl, Or.inl rfl⟩
theorem f_X13_66 : FldOK RX13 66 13 31 := ⟨by decide, by decide, "BothPricesModel", g5 146 rfl rfl, Or.inl rfl⟩
theorem f_X13_69 : FldOK RX13 69 13 32 := ⟨by decide, by decide, "BothPricesModel", g5 147 rfl rfl, Or.inl rfl⟩
theorem f_X13_72 : FldOK RX13 72 13 33 := ⟨by decide, by decide, "BothPricesModel", g5 148 rfl rfl, Or.inl rfl⟩
theorem f_X13_75 : FldOK RX13 75 13 34 := ⟨by decide, by decide, "BothPricesModel", g5 149 rfl rfl, Or.inl rfl⟩
theorem f_X13_291 : FldOK RX13 291 13 35 := ⟨by decide, by decide, "BothPricesModel", g5 150 rfl rfl, Or.inl rfl⟩
theorem f_X13_295 : FldOK RX13 295 13 36 := ⟨by decide, by decide, "BothPricesModel", g5 151 rfl rfl, Or.inl rfl⟩
theorem f_X13_79 : FldOK RX13 79 13 37 := ⟨by decide, by decide, "BothPricesModel", g5 152 rfl rfl, Or.inl rfl⟩
theorem f_X13_333 : FldOK RX13 333 13 38 := ⟨by decide, by decide, "BothPricesModel", g5 153 rfl rfl, Or.inl rfl⟩
theorem f_X13_336 : FldOK RX13 336 13 39 := ⟨by decide, by decide, "BothPricesModel", g5 154 rfl rfl, Or.inl rfl⟩
theorem f_X13_330 : FldOK RX13 330 13 40 := ⟨by decide, by decide, "BothPricesModel", g5 155 rfl rfl, Or.inl rfl⟩
theorem f_X13_82 : FldOK RX13 82 13 41 := ⟨by decide, by decide, "BothPricesModel", g5 156 rfl rfl, Or.inl rfl⟩
theorem f_X13_354 : FldOK RX13 354 13 42 := ⟨by decide, by decide, "BothPricesModel", g5 157 rfl rfl, Or.inl rfl⟩
theorem f_X13_85 : FldOK RX13 85 13 43 := ⟨by decide, by decide, "BothPricesModel", g5 158 rfl rfl, Or.inl rfl⟩
theorem f_X13_88 : FldOK RX13 88 13 44 := ⟨by decide, by decide, "BothPricesModel", g5 159 rfl rfl, Or.inl rfl⟩
theorem f_X13_382 : FldOK RX13 382 13 45 := ⟨by decide, by decide, "BothPricesModel", g5 160 rfl rfl, Or.inl rfl⟩
theorem f_X13_91 : FldOK RX13 91 13 46 := ⟨by decide, by decide, "BothPricesModel", g5 161 rfl rfl, Or.inl rfl⟩
theorem f_X13_372 : FldOK RX13 372 13 47 := ⟨by decide, by decide, "BothPricesModel", g5 162 rfl rfl, Or.inl rfl⟩
theorem f_X13_369 : FldOK RX13 369 13 48 := ⟨by decide, by decide, "BothPricesModel", g5 163 rfl rfl, Or.inl rfl⟩
theorem f_X13_94 : FldOK RX13 94 13 49 := ⟨by decide, by decide, "BothPricesModel", g5 164 rfl rfl, Or.inl rfl⟩
theorem f_X13_97 : FldOK RX13 97 13 50 := ⟨by decide, by decide, "BothPricesModel", g5 165 rfl rfl, Or.inl rfl⟩
theorem f_X13_100 : FldOK RX13 100 13 51 := ⟨by decide, by decide, "BothPricesModel", g5 166 rfl rfl, Or.inl rfl⟩
theorem f_X13_103 : FldOK RX13 103 13 52 := ⟨by decide, by decide, "BothPricesModel", g5 167 rfl rfl, Or.inl rfl⟩
theorem f_X13_106 : FldOK RX13 106 13 53 := ⟨by decide, by decide, "BothPricesModel", g5 168 rfl rfl, Or.inl rfl⟩
theorem f_X13_109 : FldOK RX13 109 13 54 := ⟨by decide, by decide, "BothPricesModel", g5 169 rfl rfl, Or.inl rfl⟩
theorem f_X13_112 : FldOK RX13 112 13 55 := ⟨by decide, by decide, "BothPricesModel", g5 170 rfl rfl, Or.inl rfl⟩
theorem k_X13_273 : Cond.constantLong RX13 273 7 ∈ gT := g6 57 rfl rfl
theorem k_X13_151 : Cond.constantLong RX13 151 48 ∈ gT := g6 73 rfl rfl
theorem k_X13_153 : Cond.constantLong RX13 153 57 ∈ gT := g6 74 rfl rfl
theorem k_X13_126 : Cond.constantLong RX13 126 100 ∈ gT := g6 87 rfl rfl
theorem k_X13_174 : Cond.constantLong RX13 174 6 ∈ gT := g6 96 rfl rfl
theorem k_X13_196 : Cond.constantLong RX13 196 2 ∈ gT := g6 113 rfl rfl
theorem k_X13_198 : Cond.constantLong RX13 198 20 ∈ gT := g6 118 rfl rfl
theorem k_X13_200 : Cond.constantLong RX13 200 9 ∈ gT := g6 119 rfl rfl
theorem k_X13_222 : Cond.constantLong RX13 222 100000000000 ∈ gT := g6 174 rfl rfl
theorem k_X13_244 : Cond.constantLong RX13 244 (-4000000000000000001) ∈ gT := g6 182 rfl rfl
theorem k_X13_246 : Cond.constantLong RX13 246 (-4000000000000000003) ∈ gT := g6 183 rfl rfl
theorem k_X13_118 : Cond.constant RX13 118 1000000000 ∈ gT := g6 211 rfl rfl
theorem k_X13_288 : Cond.constant RX13 288 1103515245 ∈ gT := g6 239 rfl rfl
theorem k_X13_289 : Cond.constant RX13 289 2147483647 ∈ gT := g7 0 rfl rfl
theorem k_X13_290 : Cond.constant RX13 290 65536 ∈ gT := g7 1 rfl rfl
theorem k_X13_313 : Cond.constantLong RX13 313 (-4000000000000000000) ∈ gT := g7 10 rfl rfl
theorem k_X13_339 : Cond.constantLong RX13 339 10 ∈ gT := g7 43 rfl rfl
theorem k_X13_341 : Cond.constantLong RX13 341 50 ∈ gT := g7 44 rfl rfl
theorem k_X13_346 : Cond.constantLong RX13 346 49 ∈ gT := g7 65 rfl rfl
theorem k_X13_348 : Cond.constantLong RX13 348 5 ∈ gT := g7 66 rfl rfl
theorem k_X13_363 : Cond.constantLong RX13 363 (-4000000000000000012) ∈ gT := g7 95 rfl rfl
theorem k_X13_365 : Cond.constantLong RX13 365 (-4000000000000000013) ∈ gT := g7 96 rfl rfl
theorem k_X13_367 : Cond.constantLong RX13 367 (-4000000000000000100) ∈ gT := g7 97 rfl rfl
theorem na_int : naOK .int 0 := ⟨rfl, by decide, g1 98 rfl rfl⟩
theorem na_long : naOK .long 1 := ⟨rfl, by decide, g1 119 rfl rfl⟩
theorem na_boolean : naOK .boolean 2 := ⟨rfl, by decide, g6 44 rfl rfl⟩
theorem c_L_17 : CI RL 17 mX12_init 0 := ⟨mkX12_init, g1 25 rfl rfl, g1 26 rfl rfl, g1 1 rfl rfl, by decide, by decide +kernel, rfl, rfl⟩
theorem ob_X12_1 : ObjOK RX12 1 := ⟨g1 28 rfl rfl, g1 29 rfl rfl, g1 30 rfl rfl⟩
theorem c_X12_9 : CIN RX12 9 mX6_init 0 "BothPrices" := ⟨mkX6_init, (by decide), g1 34 rfl rfl, g1 2 rfl rfl, by decide, by decide +kernel, rfl, rfl⟩
theorem ob_X6_3 : ObjOK RX6 3 := ⟨g1 36 rfl rfl, g1 29 rfl rfl, g1 30 rfl rfl⟩
theorem c_X12_24 : CIN RX12 24 mX9_init 0 "BothPrices" := ⟨mkX9_init, (by decide), g1 102 rfl rfl, g1 3 rfl rfl, by decide, by decide +kernel, rfl, rfl⟩
theorem ob_X9_3 : ObjOK RX9 3 := ⟨g1 104 rfl rfl, g1 29 rfl rfl, g1 30 rfl rfl⟩
theorem c_X12_41 : CIN RX12 41 mX4_init 0 "BothPrices" := ⟨mkX4_init, (by decide), g1 124 rfl rfl, g1 4 rfl rfl, by decide, by decide +kernel, rfl, rfl⟩
theorem ob_X4_3 : ObjOK RX4 3 := ⟨g1 126 rfl rfl, g1 29 rfl rfl, g1 30 rfl rfl⟩
theorem c_X12_44 : CIN RX12 44 mX7_init 0 "BothPrices" := ⟨mkX7_init, (by decide), g1 151 rfl rfl, g1 5 rfl rfl, by decide, by decide +kernel, rfl, rfl⟩
theorem ob_X7_1 : ObjOK RX7 1 := ⟨g1 153 rfl rfl, g1 29 rfl rfl, g1 30 rfl rfl⟩
theorem c_X12_51 : CI RX12 51 mX0_init 0 := ⟨mkX0_init, g1 169 rfl rfl, g1 170 rfl rfl, g1 6 rfl rfl, by decide, by decide +kernel, rfl, rfl⟩
theorem ob_X0_3 : ObjOK RX0 3 := ⟨g1 172 rfl rfl, g1 29 rfl rfl, g1 30 rfl rfl⟩
theorem c_X0_22 : CIN RX0 22 mX9_init 0 "BothPrices" := ⟨mkX9_init, (by decide), g1 102 rfl rfl, g1 3 rfl rfl, by decide, by decide +kernel, rfl, rfl⟩
theorem c_X12_58 : CIN RX12 58 mX5_init 0 "BothPrices" := ⟨mkX5_init, (by decide), g1 216 rfl rfl, g1 7 rfl rfl, by decide, by decide +kernel, rfl, rfl⟩
theorem ob_X5_3 : ObjOK RX5 3 := ⟨g1 218 rfl rfl, g1 29 rfl rfl, g1 30 rfl rfl⟩
theorem c_X5_20 : CIN RX5 20 mX9_init 0 "BothPrices" := ⟨mkX9_init, (by decide), g1 102 rfl rfl, g1 3 rfl rfl, by decide, by decide +kernel, rfl, rfl⟩
theorem c_L_21 : CV RL 21 mX12_street 1 := ⟨mkX12_street, g2 61 rfl rfl, g2 62 rfl rfl, g2 63 rfl rfl, g1 1 rfl rfl, by decide, by decide +kernel⟩
theorem c_X12_63 : CV RX12 63 mX12_bytesOn 1 := ⟨mkX12_bytesOn, g2 65 rfl rfl, g2 67 rfl rfl, gP 0 rfl rfl, g1 1 rfl rfl, by decide, by decide +kernel⟩
theorem c_X12_295 : CS RX12 295 mX12_isShelf 1 := ⟨mkX12_isShelf, g2 69 rfl rfl, g2 70 rfl rfl, g1 1 rfl rfl, by decide, by decide +kernel⟩
theorem c_X12_67 : CV RX12 67 mX12_whyNot 1 := ⟨mkX12_whyNot, g2 72 rfl rfl, g2 74 rfl rfl, gP 1 rfl rfl, g1 1 rfl rfl, by decide, by decide +kernel⟩
theorem c_X12_337 : CV RX12 337 mX4_isEmpty 0 := ⟨mkX4_isEmpty, g2 76 rfl rfl, g2 77 rfl rfl, g2 78 rfl rfl, g1 4 rfl rfl, by decide, by decide +kernel⟩
theorem c_X12_71 : CV RX12 71 mX6_copyFrom 1 := ⟨mkX6_copyFrom, g2 80 rfl rfl, g2 81 rfl rfl, g2 82 rfl rfl, g1 2 rfl rfl, by decide, by decide +kernel⟩
theorem cp_X6_49 : CpOK RX6 49 := ⟨g2 84 rfl rfl, g2 86 rfl rfl, g2 85 rfl rfl, g1 9 rfl rfl⟩
theorem c_X12_75 : CV RX12 75 mX7_tellTo 2 := ⟨mkX7_tellTo, g2 87 rfl rfl, g2 88 rfl rfl, g2 89 rfl rfl, g1 5 rfl rfl, by decide, by decide +kernel⟩
theorem c_X7_13 : CV RX7 13 mX7_formFault 1 := ⟨mkX7_formFault, g2 91 rfl rfl, g2 93 rfl rfl, gP 2 rfl rfl, g1 5 rfl rfl, by decide, by decide +kernel⟩
theorem c_X7_29 : CV RX7 29 mX7_goesOnWith 1 := ⟨mkX7_goesOnWith, g2 95 rfl rfl, g2 97 rfl rfl, gP 3 rfl rfl, g1 5 rfl rfl, by decide, by decide +kernel⟩
theorem c_X7_37 : CV RX7 37 mX7_begins 1 := ⟨mkX7_begins, g2 99 rfl rfl, g2 101 rfl rfl, gP 4 rfl rfl, g1 5 rfl rfl, by decide, by decide +kernel⟩
theorem c_X7_53 : CV RX7 53 mX7_beginNumber 1 := ⟨mkX7_beginNumber, g2 103 rfl rfl, g2 105 rfl rfl, gP 5 rfl rfl, g1 5 rfl rfl, by decide, by decide +kernel⟩
theorem c_X7_40 : CV RX7 40 mX7_takesDigit 1 := ⟨mkX7_takesDigit, g2 107 rfl rfl, g2 109 rfl rfl, gP 6 rfl rfl, g1 5 rfl rfl, by decide, by decide +kernel⟩
theorem c_X7_49 : CV RX7 49 mX7_lastField 0 := ⟨mkX7_lastField, g2 111 rfl rfl, g2 113 rfl rfl, gP 7 rfl rfl, g1 5 rfl rfl, by decide, by decide +kernel⟩
theorem c_X7_33 : CV RX7 33 mX7_carryOut 2 := ⟨mkX7_carryOut, g2 115 rfl rfl, g2 117 rfl rfl, gP 8 rfl rfl, g1 5 rfl rfl, by decide, by decide +kernel⟩
theorem c_X7_57 : CV RX7 57 mX6_addWorth 2 := ⟨mkX6_addWorth, g2 119 rfl rfl, g2 120 rfl rfl, g2 121 rfl rfl, g1 2 rfl rfl, by decide, by decide +kernel⟩
theorem c_X6_55 : CV RX6 55 mX6_allChances 0 := ⟨mkX6_allChances, g2 123 rfl rfl, g2 124 rfl rfl, g2 125 rfl rfl, g1 2 rfl rfl, by decide, by decide +kernel⟩
theorem c_X7_63 : CV RX7 63 mX6_addSort 3 := ⟨mkX6_addSort, g2 127 rfl rfl, g2 128 rfl rfl, g2 129 rfl rfl, g1 2 rfl rfl, by decide, by decide +kernel⟩
theorem c_X6_59 : CV RX6 59 mX6_allHundredths 0 := ⟨mkX6_allHundredths, g2 131 rfl rfl, g2 132 rfl rfl, g2 133 rfl rfl, g1 2 rfl rfl, by decide, by decide +kernel⟩
theorem c_X7_67 : CV RX7 67 mX6_change 2 := ⟨mkX6_change, g2 135 rfl rfl, g2 136 rfl rfl, g2 137 rfl rfl, g1 2 rfl rfl, by decide, by decide +kernel⟩
theorem c_X12_79 : CV RX12 79 mX6_tally 0 := ⟨mkX6_tally, g2 139 rfl rfl, g2 140 rfl rfl, g2 141 rfl rfl, g1 2 rfl rfl, by decide, by decide +kernel⟩
theorem c_X6_62 : CV RX6 62 mX6_wouldBuy 3 := ⟨mkX6_wouldBuy, g2 143 rfl rfl, g2 144 rfl rfl, g2 145 rfl rfl, g1 2 rfl rfl, by decide, by decide +kernel⟩
theorem c_X6_66 : CV RX6 66 mX6_wouldSell 3 := ⟨mkX6_wouldSell, g2 147 rfl rfl, g2 148 rfl rfl, g2 149 rfl rfl, g1 2 rfl rfl, by decide, by decide +kernel⟩
theorem c_X12_82 : CV RX12 82 mX9_begin 1 := ⟨mkX9_begin, g2 151 rfl rfl, g2 152 rfl rfl, g2 153 rfl rfl, g1 3 rfl rfl, by decide, by decide +kernel⟩
theorem c_L_26 : CV RL 26 mX12_worth 2 := ⟨mkX12_worth, g2 155 rfl rfl, g2 156 rfl rfl, g2 157 rfl rfl, g1 1 rfl rfl, by decide, by decide +kernel⟩
theorem c_X12_85 : CV RX12 85 mX12_isWorth 1 := ⟨mkX12_isWorth, g2 159 rfl rfl, g2 161 rfl rfl, gP 9 rfl rfl, g1 1 rfl rfl, by decide, by decide +kernel⟩
theorem c_X12_89 : CS RX12 89 mX12_isPart 1 := ⟨mkX12_isPart, g2 163 rfl rfl, g2 164 rfl rfl, g1 1 rfl rfl, by decide, by decide +kernel⟩
theorem c_L_31 : CV RL 31 mX12_sort 2 := ⟨mkX12_sort, g2 166 rfl rfl, g2 167 rfl rfl, g2 168 rfl rfl, g1 1 rfl rfl, by decide, by decide +kernel⟩
theorem c_X12_99 : CV RX12 99 mX12_isSort 1 := ⟨mkX12_isSort, g2 170 rfl rfl, g2 172 rfl rfl, gP 10 rfl rfl, g1 1 rfl rfl, by decide, by decide +kernel⟩
theorem c_L_35 : CV RL 35 mX12_set 2 := ⟨mkX12_set, g2 174 rfl rfl, g2 175 rfl rfl, g2 176 rfl rfl, g1 1 rfl rfl, by decide, by decide +kernel⟩
theorem c_X12_111 : CV RX12 111 mX6_number 1 := ⟨mkX6_number, g2 178 rfl rfl, g2 179 rfl rfl, g2 180 rfl rfl, g1 2 rfl rfl, by decide, by decide +kernel⟩
theorem c_X12_114 : CV RX12 114 mX6_change 2 := ⟨mkX6_change, g2 182 rfl rfl, g2 136 rfl rfl, g2 137 rfl rfl, g1 2 rfl rfl, by decide, by decide +kernel⟩
theorem c_L_39 : CV RL 39 mX12_does 4 := ⟨mkX12_does, g2 183 rfl rfl, g2 184 rfl rfl, g2 185 rfl rfl, g1 1 rfl rfl, by decide, by decide +kernel⟩
theorem c_X12_118 : CS RX12 118 mX12_isSlate 2 := ⟨mkX12_isSlate, g2 187 rfl rfl, g2 188 rfl rfl, g1 1 rfl rfl, by decide, by decide +kernel⟩
theorem c_X12_121 : CV RX12 121 mX6_dealOf 4 := ⟨mkX6_dealOf, g2 190 rfl rfl, g2 191 rfl rfl, g2 192 rfl rfl, g1 2 rfl rfl, by decide, by decide +kernel⟩
theorem c_L_44 : CV RL 44 mX12_chance 4 := ⟨mkX12_chance, g2 194 rfl rfl, g2 195 rfl rfl, g2 196 rfl rfl, g1 1 rfl rfl, by decide, by decide +kernel⟩
theorem c_X12_125 : CS RX12 125 mX12_isEvent 1 := ⟨mkX12_isEvent, g2 198 rfl rfl, g2 199 rfl rfl, g1 1 rfl rfl, by decide, by decide +kernel⟩
theorem c_X12_128 : CV RX12 128 mX9_oddsOf 5 := ⟨mkX9_oddsOf, g2 201 rfl rfl, g2 202 rfl rfl, g2 203 rfl rfl, g1 3 rfl rfl, by decide, by decide +kernel⟩
theorem c_L_48 : CV RL 48 mX12_anew 0 := ⟨mkX12_anew, g2 205 rfl rfl, g2 206 rfl rfl, g2 207 rfl rfl, g1 1 rfl rfl, by decide, by decide +kernel⟩
theorem c_X12_132 : CV RX12 132 mX6_isReady 0 := ⟨mkX6_isReady, g2 209 rfl rfl, g2 210 rfl rfl, g2 211 rfl rfl, g1 2 rfl rfl, by decide, by decide +kernel⟩
theorem c_X12_136 : CV RX12 136 mX9_meanValue 1 := ⟨mkX9_meanValue, g2 213 rfl rfl, g2 214 rfl rfl, g2 215 rfl rfl, g1 3 rfl rfl, by decide, by decide +kernel⟩
theorem c_X9_76 : CV RX9 76 mX9_allWeights 1 := ⟨mkX9_allWeights, g2 217 rfl rfl, g2 218 rfl rfl, g2 219 rfl rfl, g1 3 rfl rfl, by decide, by decide +kernel⟩
theorem c_L_53 : CV RL 53 mX12_event 3 := ⟨mkX12_event, g2 221 rfl rfl, g2 222 rfl rfl, g2 223 rfl rfl, g1 1 rfl rfl, by decide, by decide +kernel⟩
theorem c_X12_140 : CV RX12 140 mX9_follow 5 := ⟨mkX9_follow, g2 225 rfl rfl, g2 226 rfl rfl, g2 227 rfl rfl, g1 3 rfl rfl, by decide, by decide +kernel⟩
theorem c_X9_51 : CV RX9 51 mX9_takeTimes 5 := ⟨mkX9_takeTimes, g2 229 rfl rfl, g2 230 rfl rfl, g2 231 rfl rfl, g1 3 rfl rfl, by decide, by decide +kernel⟩
theorem c_X9_43 : CV RX9 43 mX9_oddsOf 5 := ⟨mkX9_oddsOf, g2 233 rfl rfl, g2 202 rfl rfl, g2 203 rfl rfl, g1 3 rfl rfl, by decide, by decide +kernel⟩
theorem c_X9_47 : CV RX9 47 mX9_heldAfter 1 := ⟨mkX9_heldAfter, g2 234 rfl rfl, g2 235 rfl rfl, g2 236 rfl rfl, g1 3 rfl rfl, by decide, by decide +kernel⟩
theorem c_X9_55 : CSN RX9 55 mX12_divisorOf 2 "BothPrices" := ⟨mkX12_divisorOf, (by decide), g2 239 rfl rfl, g1 1 rfl rfl, by decide, by decide +kernel⟩
theorem c_X9_59 : CV RX9 59 mX9_greatest 1 := ⟨mkX9_greatest, g3 1 rfl rfl, g3 3 rfl rfl, gP 11 rfl rfl, g1 3 rfl rfl, by decide, by decide +kernel⟩
theorem c_X9_69 : CS RX9 69 mJ9_max_f86c9 2 := ⟨mkJ9_max_f86c9, g3 5 rfl rfl, g3 6 rfl rfl, g1 10 rfl rfl, by decide, by decide +kernel⟩
theorem c_X9_65 : CV RX9 65 mX9_halve 1 := ⟨mkX9_halve, g3 9 rfl rfl, g3 11 rfl rfl, gP 12 rfl rfl, g1 3 rfl rfl, by decide, by decide +kernel⟩
theorem c_X12_144 : CV RX12 144 mX9_copyFrom 1 := ⟨mkX9_copyFrom, g3 14 rfl rfl, g3 15 rfl rfl, g3 16 rfl rfl, g1 3 rfl rfl, by decide, by decide +kernel⟩
theorem cp_X9_28 : CpOK RX9 28 := ⟨g3 18 rfl rfl, g2 86 rfl rfl, g2 85 rfl rfl, g1 9 rfl rfl⟩
theorem c_L_58 : CV RL 58 mX12_think 2 := ⟨mkX12_think, g3 19 rfl rfl, g3 20 rfl rfl, g3 21 rfl rfl, g1 1 rfl rfl, by decide, by decide +kernel⟩
theorem c_X12_155 : CV RX12 155 mX9_allWeights 1 := ⟨mkX9_allWeights, g3 25 rfl rfl, g2 218 rfl rfl, g2 219 rfl rfl, g1 3 rfl rfl, by decide, by decide +kernel⟩
theorem c_X12_159 : CS RX12 159 mX12_inLeastTerms 3 := ⟨mkX12_inLeastTerms, g3 26 rfl rfl, g3 27 rfl rfl, g1 1 rfl rfl, by decide, by decide +kernel⟩
theorem c_X12_389 : CS RX12 389 mX12_divisorOf 2 := ⟨mkX12_divisorOf, g3 29 rfl rfl, g2 239 rfl rfl, g1 1 rfl rfl, by decide, by decide +kernel⟩
theorem c_L_62 : CV RL 62 mX12_held 0 := ⟨mkX12_held, g3 30 rfl rfl, g3 31 rfl rfl, g3 32 rfl rfl, g1 1 rfl rfl, by decide, by decide +kernel⟩
theorem c_L_66 : CV RL 66 mX12_fair 1 := ⟨mkX12_fair, g3 34 rfl rfl, g3 35 rfl rfl, g3 36 rfl rfl, g1 1 rfl rfl, by decide, by decide +kernel⟩
theorem c_X12_167 : CV RX12 167 mX9_fairAsk 1 := ⟨mkX9_fairAsk, g3 38 rfl rfl, g3 39 rfl rfl, g3 40 rfl rfl, g1 3 rfl rfl, by decide, by decide +kernel⟩
theorem c_X12_170 : CV RX12 170 mX9_fairBid 1 := ⟨mkX9_fairBid, g3 42 rfl rfl, g3 43 rfl rfl, g3 44 rfl rfl, g1 3 rfl rfl, by decide, by decide +kernel⟩
theorem c_L_70 : CV RL 70 mX12_apart 0 := ⟨mkX12_apart, g3 46 rfl rfl, g3 47 rfl rfl, g3 48 rfl rfl, g1 1 rfl rfl, by decide, by decide +kernel⟩
theorem c_L_74 : CV RL 74 mX12_calls 2 := ⟨mkX12_calls, g3 52 rfl rfl, g3 53 rfl rfl, g3 54 rfl rfl, g1 1 rfl rfl, by decide, by decide +kernel⟩
theorem c_X12_175 : CV RX12 175 mX12_readyWayOn 1 := ⟨mkX12_readyWayOn, g3 56 rfl rfl, g3 58 rfl rfl, gP 13 rfl rfl, g1 1 rfl rfl, by decide, by decide +kernel⟩
theorem c_X12_352 : CV RX12 352 mX12_wayOn 1 := ⟨mkX12_wayOn, g3 60 rfl rfl, g3 62 rfl rfl, gP 14 rfl rfl, g1 1 rfl rfl, by decide, by decide +kernel⟩
theorem c_X12_179 : CV RX12 179 mX12_whyNotReady 1 := ⟨mkX12_whyNotReady, g3 64 rfl rfl, g3 66 rfl rfl, gP 15 rfl rfl, g1 1 rfl rfl, by decide, by decide +kernel⟩
theorem c_X12_182 : CV RX12 182 mX11_bid 2 := ⟨mkX11_bid, g3 68 rfl rfl, g3 69 rfl rfl, g3 70 rfl rfl, g1 11 rfl rfl, by decide, by decide +kernel⟩
theorem c_X12_182_2 : CU RX12 182 (clR 2) mX11_bid mX11_bid 2 := ⟨mkX11_bid, mkX11_bid, g3 68 rfl rfl, g3 71 rfl rfl, g3 73 rfl rfl, g3 69 rfl rfl, g3 69 rfl rfl, g1 11 rfl rfl, by decide, by decide +kernel⟩
theorem c_X12_182_3 : CU RX12 182 (clR 3) mX11_bid mX11_bid 2 := ⟨mkX11_bid, mkX11_bid, g3 68 rfl rfl, g3 71 rfl rfl, g3 74 rfl rfl, g3 69 rfl rfl, g3 69 rfl rfl, g1 11 rfl rfl, by decide, by decide +kernel⟩
theorem c_X12_182_8 : CU RX12 182 (clR 8) mX11_bid mX11_bid 2 := ⟨mkX11_bid, mkX11_bid, g3 68 rfl rfl, g3 71 rfl rfl, g3 75 rfl rfl, g3 69 rfl rfl, g3 69 rfl rfl, g1 11 rfl rfl, by decide, by decide +kernel⟩
theorem c_X12_182_1 : CU RX12 182 (clR 1) mX11_bid mX11_bid 2 := ⟨mkX11_bid, mkX11_bid, g3 68 rfl rfl, g3 71 rfl rfl, g3 72 rfl rfl, g3 69 rfl rfl, g3 69 rfl rfl, g1 11 rfl rfl, by decide, by decide +kernel⟩
theorem c_X12_182_10 : CU RX12 182 (clR 10) mX11_bid mX11_bid 2 := ⟨mkX11_bid, mkX11_bid, g3 68 rfl rfl, g3 71 rfl rfl, g3 76 rfl rfl, g3 69 rfl rfl, g3 69 rfl rfl, g1 11 rfl rfl, by decide, by decide +kernel⟩
theorem c_X11_15 : CV RX11 15 mX11_wishedBid 2 := ⟨mkX11_wishedBid, g3 78 rfl rfl, g3 79 rfl rfl, g3 80 rfl rfl, g1 11 rfl rfl, by decide, by decide +kernel⟩
theorem c_X11_15_2 : CU RX11 15 (clR 2) mX11_wishedBid mX2_wishedBid 2 := ⟨mkX2_wishedBid, mkX11_wishedBid, g3 78 rfl rfl, g3 81 rfl rfl, g3 86 rfl rfl, g3 87 rfl rfl, g3 79 rfl rfl, g1 12 rfl rfl, by decide, by decide +kernel⟩
theorem c_X11_15_3 : CU RX11 15 (clR 3) mX11_wishedBid mX3_wishedBid 2 := ⟨mkX3_wishedBid, mkX11_wishedBid, g3 78 rfl rfl, g3 81 rfl rfl, g3 93 rfl rfl, g3 94 rfl rfl, g3 79 rfl rfl, g1 13 rfl rfl, by decide, by decide +kernel⟩
theorem c_X11_15_8 : CU RX11 15 (clR 8) mX11_wishedBid mX8_wishedBid 2 := ⟨mkX8_wishedBid, mkX11_wishedBid, g3 78 rfl rfl, g3 81 rfl rfl, g3 98 rfl rfl, g3 99 rfl rfl, g3 79 rfl rfl, g1 14 rfl rfl, by decide, by decide +kernel⟩
theorem c_X11_15_1 : CU RX11 15 (clR 1) mX11_wishedBid mX1_wishedBid 2 := ⟨mkX1_wishedBid, mkX11_wishedBid, g3 78 rfl rfl, g3 81 rfl rfl, g3 82 rfl rfl, g3 83 rfl rfl, g3 79 rfl rfl, g1 15 rfl rfl, by decide, by decide +kernel⟩
theorem c_X11_15_10 : CU RX11 15 (clR 10) mX11_wishedBid mX10_wishedBid 2 := ⟨mkX10_wishedBid, mkX11_wishedBid, g3 78 rfl rfl, g3 81 rfl rfl, g3 102 rfl rfl, g3 103 rfl rfl, g3 79 rfl rfl, g1 16 rfl rfl, by decide, by decide +kernel⟩
theorem c_X1_9 : CV RX1 9 mX9_fairBid 1 := ⟨mkX9_fairBid, g3 85 rfl rfl, g3 43 rfl rfl, g3 44 rfl rfl, g1 3 rfl rfl, by decide, by decide +kernel⟩
theorem c_X2_7 : CV RX2 7 mX6_meanByChances 0 := ⟨mkX6_meanByChances, g3 89 rfl rfl, g3 90 rfl rfl, g3 91 rfl rfl, g1 2 rfl rfl, by decide, by decide +kernel⟩
theorem c_X3_7 : CUP RX3 7 mX2_wishedBid 2 := ⟨mkX2_wishedBid, g3 96 rfl rfl, g7 157 rfl rfl, g3 97 rfl rfl, g3 87 rfl rfl, g1 12 rfl rfl, by decide +kernel, by decide⟩
theorem c_X8_7 : CV RX8 7 mX9_meanValue 1 := ⟨mkX9_meanValue, g3 101 rfl rfl, g2 214 rfl rfl, g2 215 rfl rfl, g1 3 rfl rfl, by decide, by decide +kernel⟩
theorem c_X11_19 : CS RX11 19 mJ9_min_7cf53 2 := ⟨mkJ9_min_7cf53, g3 106 rfl rfl, g3 107 rfl rfl, g1 10 rfl rfl, by decide, by decide +kernel⟩
theorem c_X11_25 : CS RX11 25 mJ9_max_7cf53 2 := ⟨mkJ9_max_7cf53, g3 109 rfl rfl, g3 110 rfl rfl, g1 10 rfl rfl, by decide, by decide +kernel⟩
theorem c_X12_188 : CV RX12 188 mX11_ask 3 := ⟨mkX11_ask, g3 112 rfl rfl, g3 113 rfl rfl, g3 114 rfl rfl, g1 11 rfl rfl, by decide, by decide +kernel⟩
theorem c_X12_188_2 : CU RX12 188 (clR 2) mX11_ask mX11_ask 3 := ⟨mkX11_ask, mkX11_ask, g3 112 rfl rfl, g3 115 rfl rfl, g3 117 rfl rfl, g3 113 rfl rfl, g3 113 rfl rfl, g1 11 rfl rfl, by decide, by decide +kernel⟩
theorem c_X12_188_3 : CU RX12 188 (clR 3) mX11_ask mX11_ask 3 := ⟨mkX11_ask, mkX11_ask, g3 112 rfl rfl, g3 115 rfl rfl, g3 118 rfl rfl, g3 113 rfl rfl, g3 113 rfl rfl, g1 11 rfl rfl, by decide, by decide +kernel⟩
theorem c_X12_188_8 : CU RX12 188 (clR 8) mX11_ask mX11_ask 3 := ⟨mkX11_ask, mkX11_ask, g3 112 rfl rfl, g3 115 rfl rfl, g3 119 rfl rfl, g3 113 rfl rfl, g3 113 rfl rfl, g1 11 rfl rfl, by decide, by decide +kernel⟩
theorem c_X12_188_1 : CU RX12 188 (clR 1) mX11_ask mX11_ask 3 := ⟨mkX11_ask, mkX11_ask, g3 112 rfl rfl, g3 115 rfl rfl, g3 116 rfl rfl, g3 113 rfl rfl, g3 113 rfl rfl, g1 11 rfl rfl, by decide, by decide +kernel⟩
theorem c_X12_188_10 : CU RX12 188 (clR 10) mX11_ask mX11_ask 3 := ⟨mkX11_ask, mkX11_ask, g3 112 rfl rfl, g3 115 rfl rfl, g3 120 rfl rfl, g3 113 rfl rfl, g3 113 rfl rfl, g1 11 rfl rfl, by decide, by decide +kernel⟩
theorem c_X11_28 : CV RX11 28 mX11_wishedAsk 2 := ⟨mkX11_wishedAsk, g3 122 rfl rfl, g3 123 rfl rfl, g3 124 rfl rfl, g1 11 rfl rfl, by decide, by decide +kernel⟩
theorem c_X11_28_2 : CU RX11 28 (clR 2) mX11_wishedAsk mX2_wishedAsk 2 := ⟨mkX2_wishedAsk, mkX11_wishedAsk, g3 122 rfl rfl, g3 125 rfl rfl, g3 130 rfl rfl, g3 131 rfl rfl, g3 123 rfl rfl, g1 12 rfl rfl, by decide, by decide +kernel⟩
theorem c_X11_28_3 : CU RX11 28 (clR 3) mX11_wishedAsk mX3_wishedAsk 2 := ⟨mkX3_wishedAsk, mkX11_wishedAsk, g3 122 rfl rfl, g3 125 rfl rfl, g3 133 rfl rfl, g3 134 rfl rfl, g3 123 rfl rfl, g1 13 rfl rfl, by decide, by decide +kernel⟩
theorem c_X11_28_8 : CU RX11 28 (clR 8) mX11_wishedAsk mX8_wishedAsk 2 := ⟨mkX8_wishedAsk, mkX11_wishedAsk, g3 122 rfl rfl, g3 125 rfl rfl, g3 137 rfl rfl, g3 138 rfl rfl, g3 123 rfl rfl, g1 14 rfl rfl, by decide, by decide +kernel⟩
theorem c_X11_28_1 : CU RX11 28 (clR 1) mX11_wishedAsk mX1_wishedAsk 2 := ⟨mkX1_wishedAsk, mkX11_wishedAsk, g3 122 rfl rfl, g3 125 rfl rfl, g3 126 rfl rfl, g3 127 rfl rfl, g3 123 rfl rfl, g1 15 rfl rfl, by decide, by decide +kernel⟩
theorem c_X11_28_10 : CU RX11 28 (clR 10) mX11_wishedAsk mX10_wishedAsk 2 := ⟨mkX10_wishedAsk, mkX11_wishedAsk, g3 122 rfl rfl, g3 125 rfl rfl, g3 140 rfl rfl, g3 141 rfl rfl, g3 123 rfl rfl, g1 16 rfl rfl, by decide, by decide +kernel⟩
theorem c_X1_21 : CV RX1 21 mX9_fairAsk 1 := ⟨mkX9_fairAsk, g3 129 rfl rfl, g3 39 rfl rfl, g3 40 rfl rfl, g1 3 rfl rfl, by decide, by decide +kernel⟩
theorem c_X3_17 : CUP RX3 17 mX2_wishedAsk 2 := ⟨mkX2_wishedAsk, g3 136 rfl rfl, g7 158 rfl rfl, g3 97 rfl rfl, g3 131 rfl rfl, g1 12 rfl rfl, by decide +kernel, by decide⟩
theorem c_L_78 : CV RL 78 mX12_day 4 := ⟨mkX12_day, g3 144 rfl rfl, g3 145 rfl rfl, g3 146 rfl rfl, g1 1 rfl rfl, by decide, by decide +kernel⟩
theorem c_X12_194 : CV RX12 194 mX0_live 4 := ⟨mkX0_live, g3 150 rfl rfl, g3 151 rfl rfl, g3 152 rfl rfl, g1 6 rfl rfl, by decide, by decide +kernel⟩
theorem c_X0_23 : CV RX0 23 mX9_begin 1 := ⟨mkX9_begin, g3 154 rfl rfl, g2 152 rfl rfl, g2 153 rfl rfl, g1 3 rfl rfl, by decide, by decide +kernel⟩
theorem c_X0_39 : CV RX0 39 mX11_bid 2 := ⟨mkX11_bid, g3 155 rfl rfl, g3 69 rfl rfl, g3 70 rfl rfl, g1 11 rfl rfl, by decide, by decide +kernel⟩
theorem c_X0_39_2 : CU RX0 39 (clR 2) mX11_bid mX11_bid 2 := ⟨mkX11_bid, mkX11_bid, g3 155 rfl rfl, g3 71 rfl rfl, g3 73 rfl rfl, g3 69 rfl rfl, g3 69 rfl rfl, g1 11 rfl rfl, by decide, by decide +kernel⟩
theorem c_X0_39_3 : CU RX0 39 (clR 3) mX11_bid mX11_bid 2 := ⟨mkX11_bid, mkX11_bid, g3 155 rfl rfl, g3 71 rfl rfl, g3 74 rfl rfl, g3 69 rfl rfl, g3 69 rfl rfl, g1 11 rfl rfl, by decide, by decide +kernel⟩
theorem c_X0_39_8 : CU RX0 39 (clR 8) mX11_bid mX11_bid 2 := ⟨mkX11_bid, mkX11_bid, g3 155 rfl rfl, g3 71 rfl rfl, g3 75 rfl rfl, g3 69 rfl rfl, g3 69 rfl rfl, g1 11 rfl rfl, by decide, by decide +kernel⟩
theorem c_X0_39_1 : CU RX0 39 (clR 1) mX11_bid mX11_bid 2 := ⟨mkX11_bid, mkX11_bid, g3 155 rfl rfl, g3 71 rfl rfl, g3 72 rfl rfl, g3 69 rfl rfl, g3 69 rfl rfl, g1 11 rfl rfl, by decide, by decide +kernel⟩
theorem c_X0_39_10 : CU RX0 39 (clR 10) mX11_bid mX11_bid 2 := ⟨mkX11_bid, mkX11_bid, g3 155 rfl rfl, g3 71 rfl rfl, g3 76 rfl rfl, g3 69 rfl rfl, g3 69 rfl rfl, g1 11 rfl rfl, by decide, by decide +kernel⟩
theorem c_X0_45 : CV RX0 45 mX11_ask 3 := ⟨mkX11_ask, g3 156 rfl rfl, g3 113 rfl rfl, g3 114 rfl rfl, g1 11 rfl rfl, by decide, by decide +kernel⟩
theorem c_X0_45_2 : CU RX0 45 (clR 2) mX11_ask mX11_ask 3 := ⟨mkX11_ask, mkX11_ask, g3 156 rfl rfl, g3 115 rfl rfl, g3 117 rfl rfl, g3 113 rfl rfl, g3 113 rfl rfl, g1 11 rfl rfl, by decide, by decide +kernel⟩
theorem c_X0_45_3 : CU RX0 45 (clR 3) mX11_ask mX11_ask 3 := ⟨mkX11_ask, mkX11_ask, g3 156 rfl rfl, g3 115 rfl rfl, g3 118 rfl rfl, g3 113 rfl rfl, g3 113 rfl rfl, g1 11 rfl rfl, by decide, by decide +kernel⟩
theorem c_X0_45_8 : CU RX0 45 (clR 8) mX11_ask mX11_ask 3 := ⟨mkX11_ask, mkX11_ask, g3 156 rfl rfl, g3 115 rfl rfl, g3 119 rfl rfl, g3 113 rfl rfl, g3 113 rfl rfl, g1 11 rfl rfl, by decide, by decide +kernel⟩
theorem c_X0_45_1 : CU RX0 45 (clR 1) mX11_ask mX11_ask 3 := ⟨mkX11_ask, mkX11_ask, g3 156 rfl rfl, g3 115 rfl rfl, g3 116 rfl rfl, g3 113 rfl rfl, g3 113 rfl rfl, g1 11 rfl rfl, by decide, by decide +kernel⟩
theorem c_X0_45_10 : CU RX0 45 (clR 10) mX11_ask mX11_ask 3 := ⟨mkX11_ask, mkX11_ask, g3 156 rfl rfl, g3 115 rfl rfl, g3 120 rfl rfl, g3 113 rfl rfl, g3 113 rfl rfl, g1 11 rfl rfl, by decide, by decide +kernel⟩
theorem c_X0_50 : CS RX0 50 mX0_eventBy 6 := ⟨mkX0_eventBy, g3 158 rfl rfl, g3 159 rfl rfl, g1 6 rfl rfl, by decide, by decide +kernel⟩
theorem c_X0_85 : CV RX0 85 mX6_dealOf 4 := ⟨mkX6_dealOf, g3 163 rfl rfl, g2 191 rfl rfl, g2 192 rfl rfl, g1 2 rfl rfl, by decide, by decide +kernel⟩
theorem c_X0_89 : CS RX0 89 mX0_openTo 3 := ⟨mkX0_openTo, g3 164 rfl rfl, g3 165 rfl rfl, g1 6 rfl rfl, by decide, by decide +kernel⟩
theorem c_X0_54 : CV RX0 54 mX9_follow 5 := ⟨mkX9_follow, g3 167 rfl rfl, g2 226 rfl rfl, g2 227 rfl rfl, g1 3 rfl rfl, by decide, by decide +kernel⟩
theorem c_X0_58 : CV RX0 58 mX9_copyFrom 1 := ⟨mkX9_copyFrom, g3 168 rfl rfl, g3 15 rfl rfl, g3 16 rfl rfl, g1 3 rfl rfl, by decide, by decide +kernel⟩
theorem c_X0_62 : CSN RX0 62 mX12_takings 3 "BothPrices" := ⟨mkX12_takings, (by decide), g3 170 rfl rfl, g1 1 rfl rfl, by decide, by decide +kernel⟩
theorem c_X0_69 : CV RX0 69 mX6_costOf 1 := ⟨mkX6_costOf, g3 172 rfl rfl, g3 173 rfl rfl, g3 174 rfl rfl, g1 2 rfl rfl, by decide, by decide +kernel⟩
theorem c_X6_73 : CS RX6 73 mJ9_abs_0f7a4 1 := ⟨mkJ9_abs_0f7a4, g3 176 rfl rfl, g3 177 rfl rfl, g1 10 rfl rfl, by decide, by decide +kernel⟩
theorem c_L_82 : CV RL 82 mX12_mean 1 := ⟨mkX12_mean, g3 179 rfl rfl, g3 180 rfl rfl, g3 181 rfl rfl, g1 1 rfl rfl, by decide, by decide +kernel⟩
theorem c_X12_209 : CV RX12 209 mX0_weigh 2 := ⟨mkX0_weigh, g3 184 rfl rfl, g3 185 rfl rfl, g3 186 rfl rfl, g1 6 rfl rfl, by decide, by decide +kernel⟩
theorem c_X0_108 : CV RX0 108 mX0_goOn 5 := ⟨mkX0_goOn, g3 188 rfl rfl, g3 190 rfl rfl, gP 16 rfl rfl, g1 6 rfl rfl, by decide, by decide +kernel⟩
theorem c_X0_112 : CV RX0 112 mX0_close 4 := ⟨mkX0_close, g3 192 rfl rfl, g3 194 rfl rfl, gP 17 rfl rfl, g1 6 rfl rfl, by decide, by decide +kernel⟩
theorem c_X0_116 : CV RX0 116 mX9_oddsOf 5 := ⟨mkX9_oddsOf, g3 196 rfl rfl, g2 202 rfl rfl, g2 203 rfl rfl, g1 3 rfl rfl, by decide, by decide +kernel⟩
theorem c_X0_120 : CS RX0 120 mJ9_abs_0f7a4 1 := ⟨mkJ9_abs_0f7a4, g3 197 rfl rfl, g3 177 rfl rfl, g1 10 rfl rfl, by decide, by decide +kernel⟩
theorem c_L_87 : CV RL 87 mX12_stuck 1 := ⟨mkX12_stuck, g3 198 rfl rfl, g3 199 rfl rfl, g3 200 rfl rfl, g1 1 rfl rfl, by decide, by decide +kernel⟩
theorem c_L_91 : CV RL 91 mX12_limit 1 := ⟨mkX12_limit, g3 202 rfl rfl, g3 203 rfl rfl, g3 204 rfl rfl, g1 1 rfl rfl, by decide, by decide +kernel⟩
theorem c_L_95 : CV RL 95 mX12_best 3 := ⟨mkX12_best, g3 206 rfl rfl, g3 207 rfl rfl, g3 208 rfl rfl, g1 1 rfl rfl, by decide, by decide +kernel⟩
theorem c_X12_223 : CV RX12 223 mX5_findBest 3 := ⟨mkX5_findBest, g3 210 rfl rfl, g3 211 rfl rfl, g3 212 rfl rfl, g1 7 rfl rfl, by decide, by decide +kernel⟩
theorem c_X5_51 : CV RX5 51 mX5_list 1 := ⟨mkX5_list, g3 214 rfl rfl, g3 216 rfl rfl, gP 18 rfl rfl, g1 7 rfl rfl, by decide, by decide +kernel⟩
theorem c_X5_41 : CS RX5 41 mJ9_min_7cf53 2 := ⟨mkJ9_min_7cf53, g3 218 rfl rfl, g3 107 rfl rfl, g1 10 rfl rfl, by decide, by decide +kernel⟩
theorem c_X5_55 : CV RX5 55 mX9_begin 1 := ⟨mkX9_begin, g3 219 rfl rfl, g2 152 rfl rfl, g2 153 rfl rfl, g1 3 rfl rfl, by decide, by decide +kernel⟩
theorem c_X5_59 : CV RX5 59 mX5_pick 4 := ⟨mkX5_pick, g3 220 rfl rfl, g3 222 rfl rfl, gP 19 rfl rfl, g1 7 rfl rfl, by decide, by decide +kernel⟩
theorem c_X5_94 : CV RX5 94 mX6_costOf 1 := ⟨mkX6_costOf, g3 224 rfl rfl, g3 173 rfl rfl, g3 174 rfl rfl, g1 2 rfl rfl, by decide, by decide +kernel⟩
theorem c_X5_111 : CS RX5 111 mX5_moreBy 4 := ⟨mkX5_moreBy, g3 226 rfl rfl, g3 227 rfl rfl, g1 7 rfl rfl, by decide, by decide +kernel⟩
theorem c_X5_115 : CV RX5 115 mX9_heldAfter 1 := ⟨mkX9_heldAfter, g3 229 rfl rfl, g2 235 rfl rfl, g2 236 rfl rfl, g1 3 rfl rfl, by decide, by decide +kernel⟩
theorem c_X5_87 : CSN RX5 87 mX12_takings 3 "BothPrices" := ⟨mkX12_takings, (by decide), g3 170 rfl rfl, g1 1 rfl rfl, by decide, by decide +kernel⟩
theorem c_X5_118 : CV RX5 118 mX9_oddsOf 5 := ⟨mkX9_oddsOf, g3 231 rfl rfl, g2 202 rfl rfl, g2 203 rfl rfl, g1 3 rfl rfl, by decide, by decide +kernel⟩
theorem c_X5_79 : CV RX5 79 mX5_twoHours 4 := ⟨mkX5_twoHours, g3 232 rfl rfl, g3 234 rfl rfl, gP 20 rfl rfl, g1 7 rfl rfl, by decide, by decide +kernel⟩
theorem c_X5_83 : CV RX5 83 mX9_takeTimes 5 := ⟨mkX9_takeTimes, g3 236 rfl rfl, g2 230 rfl rfl, g2 231 rfl rfl, g1 3 rfl rfl, by decide, by decide +kernel⟩
theorem c_L_100 : CV RL 100 mX12_bestWay 2 := ⟨mkX12_bestWay, g3 237 rfl rfl, g3 238 rfl rfl, g3 239 rfl rfl, g1 1 rfl rfl, by decide, by decide +kernel⟩
theorem c_X12_236 : CS RX12 236 mX12_isFigure 1 := ⟨mkX12_isFigure, g4 1 rfl rfl, g4 2 rfl rfl, g1 1 rfl rfl, by decide, by decide +kernel⟩
theorem c_X12_242 : CV RX12 242 mX4_allBelow 1 := ⟨mkX4_allBelow, g4 4 rfl rfl, g4 5 rfl rfl, g4 6 rfl rfl, g1 4 rfl rfl, by decide, by decide +kernel⟩
theorem c_X12_245 : CV RX12 245 mX12_placeOfBest 2 := ⟨mkX12_placeOfBest, g4 8 rfl rfl, g4 10 rfl rfl, gP 21 rfl rfl, g1 1 rfl rfl, by decide, by decide +kernel⟩
theorem c_X12_301 : CS RX12 301 mX12_wayOfKind 2 := ⟨mkX12_wayOfKind, g4 12 rfl rfl, g4 13 rfl rfl, g1 1 rfl rfl, by decide, by decide +kernel⟩
theorem c_X12_373 : CI RX12 373 mX2_init 1 := ⟨mkX2_init, g4 17 rfl rfl, g4 18 rfl rfl, g1 12 rfl rfl, by decide, by decide +kernel, rfl, rfl⟩
theorem c_X2_1 : CI RX2 1 mX11_init 1 := ⟨mkX11_init, g4 20 rfl rfl, g4 21 rfl rfl, g1 11 rfl rfl, by decide, by decide +kernel, rfl, rfl⟩
theorem ob_X11_3 : ObjOK RX11 3 := ⟨g4 23 rfl rfl, g1 29 rfl rfl, g1 30 rfl rfl⟩
theorem c_X12_378 : CI RX12 378 mX3_init 1 := ⟨mkX3_init, g4 38 rfl rfl, g4 39 rfl rfl, g1 13 rfl rfl, by decide, by decide +kernel, rfl, rfl⟩
theorem c_X3_1 : CI RX3 1 mX2_init 1 := ⟨mkX2_init, g4 41 rfl rfl, g4 18 rfl rfl, g1 12 rfl rfl, by decide, by decide +kernel, rfl, rfl⟩
theorem c_X12_381 : CI RX12 381 mX8_init 1 := ⟨mkX8_init, g4 45 rfl rfl, g4 46 rfl rfl, g1 14 rfl rfl, by decide, by decide +kernel, rfl, rfl⟩
theorem c_X8_1 : CI RX8 1 mX11_init 1 := ⟨mkX11_init, g4 48 rfl rfl, g4 21 rfl rfl, g1 11 rfl rfl, by decide, by decide +kernel, rfl, rfl⟩
theorem c_X12_384 : CI RX12 384 mX1_init 1 := ⟨mkX1_init, g4 53 rfl rfl, g4 54 rfl rfl, g1 15 rfl rfl, by decide, by decide +kernel, rfl, rfl⟩
theorem c_X1_3 : CI RX1 3 mX8_init 1 := ⟨mkX8_init, g4 56 rfl rfl, g4 46 rfl rfl, g1 14 rfl rfl, by decide, by decide +kernel, rfl, rfl⟩
theorem c_X12_387 : CI RX12 387 mX10_init 1 := ⟨mkX10_init, g4 61 rfl rfl, g4 62 rfl rfl, g1 16 rfl rfl, by decide, by decide +kernel, rfl, rfl⟩
theorem c_X10_1 : CI RX10 1 mX2_init 1 := ⟨mkX2_init, g4 64 rfl rfl, g4 18 rfl rfl, g1 12 rfl rfl, by decide, by decide +kernel, rfl, rfl⟩
theorem c_X12_388 : CI RX12 388 mX11_init 1 := ⟨mkX11_init, g4 69 rfl rfl, g4 21 rfl rfl, g1 11 rfl rfl, by decide, by decide +kernel, rfl, rfl⟩
theorem c_L_104 : CV RL 104 mX12_beside 4 := ⟨mkX12_beside, g4 72 rfl rfl, g4 73 rfl rfl, g4 74 rfl rfl, g1 1 rfl rfl, by decide, by decide +kernel⟩
theorem c_X12_249 : CV RX12 249 mX6_meanBeside 5 := ⟨mkX6_meanBeside, g4 76 rfl rfl, g4 77 rfl rfl, g4 78 rfl rfl, g1 2 rfl rfl, by decide, by decide +kernel⟩
theorem c_X6_79 : CS RX6 79 mJ9_min_7cf53 2 := ⟨mkJ9_min_7cf53, g4 80 rfl rfl, g3 107 rfl rfl, g1 10 rfl rfl, by decide, by decide +kernel⟩
theorem c_X6_83 : CS RX6 83 mJ9_max_7cf53 2 := ⟨mkJ9_max_7cf53, g4 81 rfl rfl, g3 110 rfl rfl, g1 10 rfl rfl, by decide, by decide +kernel⟩
theorem c_X6_69 : CV RX6 69 mX6_dealOf 4 := ⟨mkX6_dealOf, g4 82 rfl rfl, g2 191 rfl rfl, g2 192 rfl rfl, g1 2 rfl rfl, by decide, by decide +kernel⟩
theorem c_L_109 : CV RL 109 mX12_rest 2 := ⟨mkX12_rest, g4 83 rfl rfl, g4 84 rfl rfl, g4 85 rfl rfl, g1 1 rfl rfl, by decide, by decide +kernel⟩
theorem c_X12_253 : CV RX12 253 mX5_atRest 3 := ⟨mkX5_atRest, g4 87 rfl rfl, g4 88 rfl rfl, g4 89 rfl rfl, g1 7 rfl rfl, by decide, by decide +kernel⟩
theorem c_X5_122 : CV RX5 122 mX5_greatestAgainst 4 := ⟨mkX5_greatestAgainst, g4 91 rfl rfl, g4 93 rfl rfl, gP 22 rfl rfl, g1 7 rfl rfl, by decide, by decide +kernel⟩
theorem c_X5_126 : CV RX5 126 mX5_meanOf 5 := ⟨mkX5_meanOf, g4 95 rfl rfl, g4 97 rfl rfl, gP 23 rfl rfl, g1 7 rfl rfl, by decide, by decide +kernel⟩
theorem c_X5_133 : CV RX5 133 mX6_meanBeside 5 := ⟨mkX6_meanBeside, g4 99 rfl rfl, g4 77 rfl rfl, g4 78 rfl rfl, g1 2 rfl rfl, by decide, by decide +kernel⟩
theorem c_X5_130 : CV RX5 130 mX5_numberOf 1 := ⟨mkX5_numberOf, g4 100 rfl rfl, g4 102 rfl rfl, gP 24 rfl rfl, g1 7 rfl rfl, by decide, by decide +kernel⟩
theorem c_L_113 : CV RL 113 mX12_streets 4 := ⟨mkX12_streets, g4 104 rfl rfl, g4 105 rfl rfl, g4 106 rfl rfl, g1 1 rfl rfl, by decide, by decide +kernel⟩
theorem c_X12_257 : CS RX12 257 mJ9_max_7cf53 2 := ⟨mkJ9_max_7cf53, g4 108 rfl rfl, g3 110 rfl rfl, g1 10 rfl rfl, by decide, by decide +kernel⟩
theorem c_L_117 : CV RL 117 mX12_knew 4 := ⟨mkX12_knew, g4 109 rfl rfl, g4 110 rfl rfl, g4 111 rfl rfl, g1 1 rfl rfl, by decide, by decide +kernel⟩
theorem c_X12_265 : CV RX12 265 mX0_readLog 4 := ⟨mkX0_readLog, g4 114 rfl rfl, g4 115 rfl rfl, g4 116 rfl rfl, g1 6 rfl rfl, by decide, by decide +kernel⟩
theorem c_X0_136 : CV RX0 136 mX4_hasPlace 1 := ⟨mkX4_hasPlace, g4 118 rfl rfl, g4 119 rfl rfl, g4 120 rfl rfl, g1 4 rfl rfl, by decide, by decide +kernel⟩
theorem c_X0_150 : CV RX0 150 mX6_knowersOf 4 := ⟨mkX6_knowersOf, g4 122 rfl rfl, g4 123 rfl rfl, g4 124 rfl rfl, g1 2 rfl rfl, by decide, by decide +kernel⟩
theorem c_L_121 : CV RL 121 mX12_image 0 := ⟨mkX12_image, g4 126 rfl rfl, g4 127 rfl rfl, g4 128 rfl rfl, g1 1 rfl rfl, by decide, by decide +kernel⟩
theorem c_L_125 : CV RL 125 mX12_restore 0 := ⟨mkX12_restore, g4 130 rfl rfl, g4 131 rfl rfl, g4 132 rfl rfl, g1 1 rfl rfl, by decide, by decide +kernel⟩
theorem c_L_129 : CV RL 129 mX12_count 1 := ⟨mkX12_count, g4 134 rfl rfl, g4 135 rfl rfl, g4 136 rfl rfl, g1 1 rfl rfl, by decide, by decide +kernel⟩
theorem c_X12_285 : CV RX12 285 mX6_allChances 0 := ⟨mkX6_allChances, g4 138 rfl rfl, g2 124 rfl rfl, g2 125 rfl rfl, g1 2 rfl rfl, by decide, by decide +kernel⟩
theorem c_X12_289 : CV RX12 289 mX6_allHundredths 0 := ⟨mkX6_allHundredths, g4 139 rfl rfl, g2 132 rfl rfl, g2 133 rfl rfl, g1 2 rfl rfl, by decide, by decide +kernel⟩
theorem c_L_133 : CV RL 133 mX12_keep 4 := ⟨mkX12_keep, g4 140 rfl rfl, g4 141 rfl rfl, g4 142 rfl rfl, g1 1 rfl rfl, by decide, by decide +kernel⟩
theorem c_X12_298 : CV RX12 298 mX4_clear 0 := ⟨mkX4_clear, g4 144 rfl rfl, g4 145 rfl rfl, g4 146 rfl rfl, g1 4 rfl rfl, by decide, by decide +kernel⟩
theorem c_X12_305 : CV RX12 305 mX4_takeWay 1 := ⟨mkX4_takeWay, g4 148 rfl rfl, g4 149 rfl rfl, g4 150 rfl rfl, g1 4 rfl rfl, by decide, by decide +kernel⟩
theorem c_X4_26 : CV RX4 26 mX4_clear 0 := ⟨mkX4_clear, g4 152 rfl rfl, g4 145 rfl rfl, g4 146 rfl rfl, g1 4 rfl rfl, by decide, by decide +kernel⟩
theorem c_L_137 : CV RL 137 mX12_row 3 := ⟨mkX12_row, g4 153 rfl rfl, g4 154 rfl rfl, g4 155 rfl rfl, g1 1 rfl rfl, by decide, by decide +kernel⟩
theorem c_X12_309 : CV RX12 309 mX4_takeRow 2 := ⟨mkX4_takeRow, g4 157 rfl rfl, g4 158 rfl rfl, g4 159 rfl rfl, g1 4 rfl rfl, by decide, by decide +kernel⟩
theorem c_X4_29 : CS RX4 29 mJ9_min_7cf53 2 := ⟨mkJ9_min_7cf53, g4 161 rfl rfl, g3 107 rfl rfl, g1 10 rfl rfl, by decide, by decide +kernel⟩
theorem c_X4_35 : CS RX4 35 mJ9_max_7cf53 2 := ⟨mkJ9_max_7cf53, g4 162 rfl rfl, g3 110 rfl rfl, g1 10 rfl rfl, by decide, by decide +kernel⟩
theorem c_X4_38 : CS RX4 38 mJ7_fill_53178 2 := ⟨mkJ7_fill_53178, g4 163 rfl rfl, g4 164 rfl rfl, g1 17 rfl rfl, by decide, by decide +kernel⟩
theorem c_L_141 : CV RL 141 mX12_put 3 := ⟨mkX12_put, g4 166 rfl rfl, g4 167 rfl rfl, g4 168 rfl rfl, g1 1 rfl rfl, by decide, by decide +kernel⟩
theorem c_X12_313 : CV RX12 313 mX12_rowOn 1 := ⟨mkX12_rowOn, g4 170 rfl rfl, g4 172 rfl rfl, gP 25 rfl rfl, g1 1 rfl rfl, by decide, by decide +kernel⟩
theorem c_X12_368 : CV RX12 368 mX4_isRow 0 := ⟨mkX4_isRow, g4 174 rfl rfl, g4 175 rfl rfl, g4 176 rfl rfl, g1 4 rfl rfl, by decide, by decide +kernel⟩
theorem c_X12_316 : CV RX12 316 mX4_hasPlace 1 := ⟨mkX4_hasPlace, g4 178 rfl rfl, g4 119 rfl rfl, g4 120 rfl rfl, g1 4 rfl rfl, by decide, by decide +kernel⟩
theorem c_X12_319 : CV RX12 319 mX4_store 2 := ⟨mkX4_store, g4 179 rfl rfl, g4 180 rfl rfl, g4 181 rfl rfl, g1 4 rfl rfl, by decide, by decide +kernel⟩
theorem c_L_154 : CV RL 154 mX12_copy 5 := ⟨mkX12_copy, g4 183 rfl rfl, g4 184 rfl rfl, g4 185 rfl rfl, g1 1 rfl rfl, by decide, by decide +kernel⟩
theorem c_X12_343 : CV RX12 343 mX4_hasPlaces 2 := ⟨mkX4_hasPlaces, g4 187 rfl rfl, g4 188 rfl rfl, g4 189 rfl rfl, g1 4 rfl rfl, by decide, by decide +kernel⟩
theorem cp_X12_346 : CpOK RX12 346 := ⟨g4 191 rfl rfl, g2 86 rfl rfl, g2 85 rfl rfl, g1 9 rfl rfl⟩
theorem c_L_159 : CV RL 159 mX12_spread 1 := ⟨mkX12_spread, g4 192 rfl rfl, g4 193 rfl rfl, g4 194 rfl rfl, g1 1 rfl rfl, by decide, by decide +kernel⟩
theorem c_X12_355 : CV RX12 355 mX11_width 0 := ⟨mkX11_width, g4 196 rfl rfl, g4 197 rfl rfl, g4 198 rfl rfl, g1 11 rfl rfl, by decide, by decide +kernel⟩
theorem c_X12_355_2 : CU RX12 355 (clR 2) mX11_width mX2_width 0 := ⟨mkX2_width, mkX11_width, g4 196 rfl rfl, g4 199 rfl rfl, g4 207 rfl rfl, g4 208 rfl rfl, g4 197 rfl rfl, g1 12 rfl rfl, by decide, by decide +kernel⟩
theorem c_X12_355_3 : CU RX12 355 (clR 3) mX11_width mX3_width 0 := ⟨mkX3_width, mkX11_width, g4 196 rfl rfl, g4 199 rfl rfl, g4 210 rfl rfl, g4 211 rfl rfl, g4 197 rfl rfl, g1 13 rfl rfl, by decide, by decide +kernel⟩
theorem c_X12_355_8 : CU RX12 355 (clR 8) mX11_width mX8_width 0 := ⟨mkX8_width, mkX11_width, g4 196 rfl rfl, g4 199 rfl rfl, g4 214 rfl rfl, g4 204 rfl rfl, g4 197 rfl rfl, g1 14 rfl rfl, by decide, by decide +kernel⟩
theorem c_X12_355_1 : CU RX12 355 (clR 1) mX11_width mX1_width 0 := ⟨mkX1_width, mkX11_width, g4 196 rfl rfl, g4 199 rfl rfl, g4 200 rfl rfl, g4 201 rfl rfl, g4 197 rfl rfl, g1 15 rfl rfl, by decide, by decide +kernel⟩
theorem c_X12_355_10 : CU RX12 355 (clR 10) mX11_width mX10_width 0 := ⟨mkX10_width, mkX11_width, g4 196 rfl rfl, g4 199 rfl rfl, g4 215 rfl rfl, g4 216 rfl rfl, g4 197 rfl rfl, g1 16 rfl rfl, by decide, by decide +kernel⟩
theorem c_X1_24 : CUP RX1 24 mX8_width 0 := ⟨mkX8_width, g4 203 rfl rfl, g7 159 rfl rfl, g4 58 rfl rfl, g4 204 rfl rfl, g1 14 rfl rfl, by decide +kernel, by decide⟩
theorem c_X8_19 : CUP RX8 19 mX11_width 0 := ⟨mkX11_width, g4 206 rfl rfl, g4 199 rfl rfl, g4 50 rfl rfl, g4 197 rfl rfl, g1 11 rfl rfl, by decide +kernel, by decide⟩
theorem c_X3_20 : CUP RX3 20 mX2_width 0 := ⟨mkX2_width, g4 213 rfl rfl, g7 160 rfl rfl, g3 97 rfl rfl, g4 208 rfl rfl, g1 12 rfl rfl, by decide +kernel, by decide⟩
theorem c_X10_13 : CUP RX10 13 mX2_width 0 := ⟨mkX2_width, g4 218 rfl rfl, g7 160 rfl rfl, g4 66 rfl rfl, g4 208 rfl rfl, g1 12 rfl rfl, by decide +kernel, by decide⟩
theorem c_X12_358 : CV RX12 358 mX11_fail 0 := ⟨mkX11_fail, g4 225 rfl rfl, g4 226 rfl rfl, g4 227 rfl rfl, g1 11 rfl rfl, by decide, by decide +kernel⟩
theorem c_X12_358_2 : CU RX12 358 (clR 2) mX11_fail mX11_fail 0 := ⟨mkX11_fail, mkX11_fail, g4 225 rfl rfl, g4 228 rfl rfl, g4 230 rfl rfl, g4 226 rfl rfl, g4 226 rfl rfl, g1 11 rfl rfl, by decide, by decide +kernel⟩
theorem c_X12_358_3 : CU RX12 358 (clR 3) mX11_fail mX11_fail 0 := ⟨mkX11_fail, mkX11_fail, g4 225 rfl rfl, g4 228 rfl rfl, g4 231 rfl rfl, g4 226 rfl rfl, g4 226 rfl rfl, g1 11 rfl rfl, by decide, by decide +kernel⟩
theorem c_X12_358_8 : CU RX12 358 (clR 8) mX11_fail mX11_fail 0 := ⟨mkX11_fail, mkX11_fail, g4 225 rfl rfl, g4 228 rfl rfl, g4 232 rfl rfl, g4 226 rfl rfl, g4 226 rfl rfl, g1 11 rfl rfl, by decide, by decide +kernel⟩
theorem c_X12_358_1 : CU RX12 358 (clR 1) mX11_fail mX11_fail 0 := ⟨mkX11_fail, mkX11_fail, g4 225 rfl rfl, g4 228 rfl rfl, g4 229 rfl rfl, g4 226 rfl rfl, g4 226 rfl rfl, g1 11 rfl rfl, by decide, by decide +kernel⟩
theorem c_X12_358_10 : CU RX12 358 (clR 10) mX11_fail mX10_fail 0 := ⟨mkX10_fail, mkX11_fail, g4 225 rfl rfl, g4 228 rfl rfl, g4 233 rfl rfl, g4 234 rfl rfl, g4 226 rfl rfl, g1 16 rfl rfl, by decide, by decide +kernel⟩
theorem c_X12_361 : CV RX12 361 mX11_failureNumber 0 := ⟨mkX11_failureNumber, g5 64 rfl rfl, g5 65 rfl rfl, g5 66 rfl rfl, g1 11 rfl rfl, by decide, by decide +kernel⟩
theorem c_X12_361_2 : CU RX12 361 (clR 2) mX11_failureNumber mX11_failureNumber 0 := ⟨mkX11_failureNumber, mkX11_failureNumber, g5 64 rfl rfl, g5 67 rfl rfl, g5 72 rfl rfl, g5 65 rfl rfl, g5 65 rfl rfl, g1 11 rfl rfl, by decide, by decide +kernel⟩
theorem c_X12_361_3 : CU RX12 361 (clR 3) mX11_failureNumber mX3_failureNumber 0 := ⟨mkX3_failureNumber, mkX11_failureNumber, g5 64 rfl rfl, g5 67 rfl rfl, g5 73 rfl rfl, g5 74 rfl rfl, g5 65 rfl rfl, g1 13 rfl rfl, by decide, by decide +kernel⟩
theorem c_X12_361_8 : CU RX12 361 (clR 8) mX11_failureNumber mX11_failureNumber 0 := ⟨mkX11_failureNumber, mkX11_failureNumber, g5 64 rfl rfl, g5 67 rfl rfl, g5 79 rfl rfl, g5 65 rfl rfl, g5 65 rfl rfl, g1 11 rfl rfl, by decide, by decide +kernel⟩
theorem c_X12_361_1 : CU RX12 361 (clR 1) mX11_failureNumber mX1_failureNumber 0 := ⟨mkX1_failureNumber, mkX11_failureNumber, g5 64 rfl rfl, g5 67 rfl rfl, g5 68 rfl rfl, g5 69 rfl rfl, g5 65 rfl rfl, g1 15 rfl rfl, by decide, by decide +kernel⟩
theorem c_X12_361_10 : CU RX12 361 (clR 10) mX11_failureNumber mX11_failureNumber 0 := ⟨mkX11_failureNumber, mkX11_failureNumber, g5 64 rfl rfl, g5 67 rfl rfl, g5 80 rfl rfl, g5 65 rfl rfl, g5 65 rfl rfl, g1 11 rfl rfl, by decide, by decide +kernel⟩
theorem c_X1_28 : CV RX1 28 mX1_width 0 := ⟨mkX1_width, g5 71 rfl rfl, g4 201 rfl rfl, g7 162 rfl rfl, g1 15 rfl rfl, by decide, by decide +kernel⟩
theorem c_L_7 : CV RL 7 mX12_element 2 := ⟨mkX12_element, g5 87 rfl rfl, g5 88 rfl rfl, g5 89 rfl rfl, g1 1 rfl rfl, by decide, by decide +kernel⟩
theorem c_L_20 : CI RL 20 mX13_init 0 := ⟨mkX13_init, g5 111 rfl rfl, g5 112 rfl rfl, g1 8 rfl rfl, by decide, by decide +kernel, rfl, rfl⟩
theorem ob_X13_1 : ObjOK RX13 1 := ⟨g5 114 rfl rfl, g1 29 rfl rfl, g1 30 rfl rfl⟩
theorem c_L_151 : CV RL 151 mX13_thrown 0 := ⟨mkX13_thrown, g6 45 rfl rfl, g6 46 rfl rfl, g6 47 rfl rfl, g1 8 rfl rfl, by decide, by decide +kernel⟩
theorem c_L_25 : CV RL 25 mX13_street 1 := ⟨mkX13_street, g6 49 rfl rfl, g6 50 rfl rfl, g6 51 rfl rfl, g1 8 rfl rfl, by decide, by decide +kernel⟩
theorem c_X13_176 : CV RX13 176 mX13_wrongRow 1 := ⟨mkX13_wrongRow, g6 53 rfl rfl, g6 55 rfl rfl, gP 27 rfl rfl, g1 8 rfl rfl, by decide, by decide +kernel⟩
theorem c_X13_122 : CS RX13 122 mX13_in 3 := ⟨mkX13_in, g6 58 rfl rfl, g6 59 rfl rfl, g1 8 rfl rfl, by decide, by decide +kernel⟩
theorem c_X13_180 : CV RX13 180 mX13_readStatement 0 := ⟨mkX13_readStatement, g6 61 rfl rfl, g6 63 rfl rfl, gP 28 rfl rfl, g1 8 rfl rfl, by decide, by decide +kernel⟩
theorem c_X13_148 : CV RX13 148 mX13_here 0 := ⟨mkX13_here, g6 65 rfl rfl, g6 67 rfl rfl, gP 29 rfl rfl, g1 8 rfl rfl, by decide, by decide +kernel⟩
theorem c_X13_155 : CV RX13 155 mX13_readDigit 0 := ⟨mkX13_readDigit, g6 69 rfl rfl, g6 71 rfl rfl, gP 30 rfl rfl, g1 8 rfl rfl, by decide, by decide +kernel⟩
theorem c_X13_161 : CV RX13 161 mX13_readNumber 0 := ⟨mkX13_readNumber, g6 75 rfl rfl, g6 77 rfl rfl, gP 31 rfl rfl, g1 8 rfl rfl, by decide, by decide +kernel⟩
theorem c_X13_164 : CV RX13 164 mX13_take 1 := ⟨mkX13_take, g6 79 rfl rfl, g6 81 rfl rfl, gP 32 rfl rfl, g1 8 rfl rfl, by decide, by decide +kernel⟩
theorem c_X13_183 : CV RX13 183 mX13_comes 1 := ⟨mkX13_comes, g6 83 rfl rfl, g6 85 rfl rfl, gP 33 rfl rfl, g1 8 rfl rfl, by decide, by decide +kernel⟩
theorem c_X13_131 : CV RX13 131 mX13_chancesTogether 0 := ⟨mkX13_chancesTogether, g6 88 rfl rfl, g6 90 rfl rfl, gP 34 rfl rfl, g1 8 rfl rfl, by decide, by decide +kernel⟩
theorem c_X13_168 : CV RX13 168 mX13_partsTogether 0 := ⟨mkX13_partsTogether, g6 92 rfl rfl, g6 94 rfl rfl, gP 35 rfl rfl, g1 8 rfl rfl, by decide, by decide +kernel⟩
theorem c_X13_187 : CV RX13 187 mX13_thinkAnew 0 := ⟨mkX13_thinkAnew, g6 97 rfl rfl, g6 99 rfl rfl, gP 36 rfl rfl, g1 8 rfl rfl, by decide, by decide +kernel⟩
theorem c_L_30 : CV RL 30 mX13_worth 2 := ⟨mkX13_worth, g6 101 rfl rfl, g6 102 rfl rfl, g6 103 rfl rfl, g1 8 rfl rfl, by decide, by decide +kernel⟩
theorem c_X13_193 : CV RX13 193 mX13_isWorth 1 := ⟨mkX13_isWorth, g6 105 rfl rfl, g6 107 rfl rfl, gP 37 rfl rfl, g1 8 rfl rfl, by decide, by decide +kernel⟩
theorem c_L_34 : CV RL 34 mX13_sort 2 := ⟨mkX13_sort, g6 109 rfl rfl, g6 110 rfl rfl, g6 111 rfl rfl, g1 8 rfl rfl, by decide, by decide +kernel⟩
theorem c_L_38 : CV RL 38 mX13_set 2 := ⟨mkX13_set, g6 114 rfl rfl, g6 115 rfl rfl, g6 116 rfl rfl, g1 8 rfl rfl, by decide, by decide +kernel⟩
theorem c_L_43 : CV RL 43 mX13_does 4 := ⟨mkX13_does, g6 120 rfl rfl, g6 121 rfl rfl, g6 122 rfl rfl, g1 8 rfl rfl, by decide, by decide +kernel⟩
theorem c_X13_202 : CS RX13 202 mX13_isSlate 2 := ⟨mkX13_isSlate, g6 124 rfl rfl, g6 125 rfl rfl, g1 8 rfl rfl, by decide, by decide +kernel⟩
theorem c_X13_206 : CV RX13 206 mX13_dealt 4 := ⟨mkX13_dealt, g6 127 rfl rfl, g6 129 rfl rfl, gP 38 rfl rfl, g1 8 rfl rfl, by decide, by decide +kernel⟩
theorem c_L_47 : CV RL 47 mX13_chance 4 := ⟨mkX13_chance, g6 131 rfl rfl, g6 132 rfl rfl, g6 133 rfl rfl, g1 8 rfl rfl, by decide, by decide +kernel⟩
theorem c_X13_214 : CV RX13 214 mX13_hundredths 5 := ⟨mkX13_hundredths, g6 135 rfl rfl, g6 137 rfl rfl, gP 39 rfl rfl, g1 8 rfl rfl, by decide, by decide +kernel⟩
theorem c_X13_210 : CV RX13 210 mX13_allowed 2 := ⟨mkX13_allowed, g6 139 rfl rfl, g6 141 rfl rfl, gP 40 rfl rfl, g1 8 rfl rfl, by decide, by decide +kernel⟩
theorem c_L_52 : CV RL 52 mX13_anew 0 := ⟨mkX13_anew, g6 143 rfl rfl, g6 144 rfl rfl, g6 145 rfl rfl, g1 8 rfl rfl, by decide, by decide +kernel⟩
theorem c_X13_228 : CV RX13 228 mX13_isReady 0 := ⟨mkX13_isReady, g6 147 rfl rfl, g6 149 rfl rfl, gP 41 rfl rfl, g1 8 rfl rfl, by decide, by decide +kernel⟩
theorem c_X13_231 : CV RX13 231 mX13_setMind 0 := ⟨mkX13_setMind, g6 151 rfl rfl, g6 153 rfl rfl, gP 42 rfl rfl, g1 8 rfl rfl, by decide, by decide +kernel⟩
theorem c_X13_234 : CV RX13 234 mX13_meanInMind 0 := ⟨mkX13_meanInMind, g6 155 rfl rfl, g6 157 rfl rfl, gP 43 rfl rfl, g1 8 rfl rfl, by decide, by decide +kernel⟩
theorem c_L_57 : CV RL 57 mX13_event 3 := ⟨mkX13_event, g6 159 rfl rfl, g6 160 rfl rfl, g6 161 rfl rfl, g1 8 rfl rfl, by decide, by decide +kernel⟩
theorem c_X13_237 : CV RX13 237 mX13_goesOn 4 := ⟨mkX13_goesOn, g6 163 rfl rfl, g6 165 rfl rfl, gP 44 rfl rfl, g1 8 rfl rfl, by decide, by decide +kernel⟩
theorem c_X13_224 : CV RX13 224 mX13_settle 0 := ⟨mkX13_settle, g6 167 rfl rfl, g6 169 rfl rfl, gP 45 rfl rfl, g1 8 rfl rfl, by decide, by decide +kernel⟩
theorem c_X13_218 : CS RX13 218 mX13_divisor 2 := ⟨mkX13_divisor, g6 171 rfl rfl, g6 172 rfl rfl, g1 8 rfl rfl, by decide, by decide +kernel⟩
theorem c_X13_241 : CS RX13 241 mX13_heldBy 2 := ⟨mkX13_heldBy, g6 175 rfl rfl, g6 176 rfl rfl, g1 8 rfl rfl, by decide, by decide +kernel⟩
theorem c_L_61 : CV RL 61 mX13_think 2 := ⟨mkX13_think, g6 178 rfl rfl, g6 179 rfl rfl, g6 180 rfl rfl, g1 8 rfl rfl, by decide, by decide +kernel⟩
theorem c_L_65 : CV RL 65 mX13_held 0 := ⟨mkX13_held, g6 184 rfl rfl, g6 185 rfl rfl, g6 186 rfl rfl, g1 8 rfl rfl, by decide, by decide +kernel⟩
theorem c_L_69 : CV RL 69 mX13_fair 1 := ⟨mkX13_fair, g6 188 rfl rfl, g6 189 rfl rfl, g6 190 rfl rfl, g1 8 rfl rfl, by decide, by decide +kernel⟩
theorem c_X13_252 : CV RX13 252 mX13_fairAsk 0 := ⟨mkX13_fairAsk, g6 192 rfl rfl, g6 194 rfl rfl, gP 46 rfl rfl, g1 8 rfl rfl, by decide, by decide +kernel⟩
theorem c_X13_248 : CV RX13 248 mX13_isFair 2 := ⟨mkX13_isFair, g6 196 rfl rfl, g6 198 rfl rfl, gP 47 rfl rfl, g1 8 rfl rfl, by decide, by decide +kernel⟩
theorem c_X13_255 : CV RX13 255 mX13_fairBid 0 := ⟨mkX13_fairBid, g6 200 rfl rfl, g6 202 rfl rfl, gP 48 rfl rfl, g1 8 rfl rfl, by decide, by decide +kernel⟩
theorem c_L_73 : CV RL 73 mX13_apart 0 := ⟨mkX13_apart, g6 204 rfl rfl, g6 205 rfl rfl, g6 206 rfl rfl, g1 8 rfl rfl, by decide, by decide +kernel⟩
theorem c_X13_258 : CS RX13 258 mX13_far 1 := ⟨mkX13_far, g6 208 rfl rfl, g6 209 rfl rfl, g1 8 rfl rfl, by decide, by decide +kernel⟩
theorem c_L_77 : CV RL 77 mX13_calls 2 := ⟨mkX13_calls, g6 212 rfl rfl, g6 213 rfl rfl, g6 214 rfl rfl, g1 8 rfl rfl, by decide, by decide +kernel⟩
theorem c_X13_275 : CV RX13 275 mX13_wrongWay 1 := ⟨mkX13_wrongWay, g6 216 rfl rfl, g6 218 rfl rfl, gP 49 rfl rfl, g1 8 rfl rfl, by decide, by decide +kernel⟩
theorem c_X13_278 : CV RX13 278 mX13_findChanceMean 0 := ⟨mkX13_findChanceMean, g6 220 rfl rfl, g6 222 rfl rfl, gP 50 rfl rfl, g1 8 rfl rfl, by decide, by decide +kernel⟩
theorem c_X13_281 : CV RX13 281 mX13_call 3 := ⟨mkX13_call, g6 224 rfl rfl, g6 226 rfl rfl, gP 51 rfl rfl, g1 8 rfl rfl, by decide, by decide +kernel⟩
theorem c_X13_264 : CS RX13 264 mX13_clamped 1 := ⟨mkX13_clamped, g6 228 rfl rfl, g6 229 rfl rfl, g1 8 rfl rfl, by decide, by decide +kernel⟩
theorem c_L_81 : CV RL 81 mX13_day 4 := ⟨mkX13_day, g6 231 rfl rfl, g6 232 rfl rfl, g6 233 rfl rfl, g1 8 rfl rfl, by decide, by decide +kernel⟩
theorem c_X13_285 : CV RX13 285 mX13_setChances 0 := ⟨mkX13_setChances, g6 235 rfl rfl, g6 237 rfl rfl, gP 52 rfl rfl, g1 8 rfl rfl, by decide, by decide +kernel⟩
theorem c_L_86 : CV RL 86 mX13_mean 1 := ⟨mkX13_mean, g7 2 rfl rfl, g7 3 rfl rfl, g7 4 rfl rfl, g1 8 rfl rfl, by decide, by decide +kernel⟩
theorem c_X13_310 : CV RX13 310 mX13_wrongMean 1 := ⟨mkX13_wrongMean, g7 6 rfl rfl, g7 8 rfl rfl, gP 53 rfl rfl, g1 8 rfl rfl, by decide, by decide +kernel⟩
theorem c_X13_315 : CV RX13 315 mX13_goAll 2 := ⟨mkX13_goAll, g7 11 rfl rfl, g7 13 rfl rfl, gP 54 rfl rfl, g1 8 rfl rfl, by decide, by decide +kernel⟩
theorem c_X13_301 : CV RX13 301 mX13_openHour 3 := ⟨mkX13_openHour, g7 15 rfl rfl, g7 17 rfl rfl, gP 55 rfl rfl, g1 8 rfl rfl, by decide, by decide +kernel⟩
theorem c_X13_298 : CV RX13 298 mX13_mindFrom 1 := ⟨mkX13_mindFrom, g7 19 rfl rfl, g7 21 rfl rfl, gP 56 rfl rfl, g1 8 rfl rfl, by decide, by decide +kernel⟩
theorem c_X13_304 : CV RX13 304 mX13_stepTo 2 := ⟨mkX13_stepTo, g7 23 rfl rfl, g7 25 rfl rfl, gP 57 rfl rfl, g1 8 rfl rfl, by decide, by decide +kernel⟩
theorem c_X13_307 : CV RX13 307 mX13_closeDay 1 := ⟨mkX13_closeDay, g7 27 rfl rfl, g7 29 rfl rfl, gP 58 rfl rfl, g1 8 rfl rfl, by decide, by decide +kernel⟩
theorem c_L_90 : CV RL 90 mX13_stuck 1 := ⟨mkX13_stuck, g7 31 rfl rfl, g7 32 rfl rfl, g7 33 rfl rfl, g1 8 rfl rfl, by decide, by decide +kernel⟩
theorem c_L_94 : CV RL 94 mX13_limit 1 := ⟨mkX13_limit, g7 35 rfl rfl, g7 36 rfl rfl, g7 37 rfl rfl, g1 8 rfl rfl, by decide, by decide +kernel⟩
theorem c_L_99 : CV RL 99 mX13_best 3 := ⟨mkX13_best, g7 39 rfl rfl, g7 40 rfl rfl, g7 41 rfl rfl, g1 8 rfl rfl, by decide, by decide +kernel⟩
theorem c_X13_343 : CV RX13 343 mX13_findBest 2 := ⟨mkX13_findBest, g7 45 rfl rfl, g7 47 rfl rfl, gP 59 rfl rfl, g1 8 rfl rfl, by decide, by decide +kernel⟩
theorem c_X13_319 : CV RX13 319 mX13_lastHour 4 := ⟨mkX13_lastHour, g7 49 rfl rfl, g7 51 rfl rfl, gP 60 rfl rfl, g1 8 rfl rfl, by decide, by decide +kernel⟩
theorem c_X13_327 : CV RX13 327 mX13_twoHours 3 := ⟨mkX13_twoHours, g7 53 rfl rfl, g7 55 rfl rfl, gP 61 rfl rfl, g1 8 rfl rfl, by decide, by decide +kernel⟩
theorem c_X13_323 : CV RX13 323 mX13_bestLast 3 := ⟨mkX13_bestLast, g7 57 rfl rfl, g7 59 rfl rfl, gP 62 rfl rfl, g1 8 rfl rfl, by decide, by decide +kernel⟩
theorem c_L_103 : CV RL 103 mX13_bestWay 2 := ⟨mkX13_bestWay, g7 61 rfl rfl, g7 62 rfl rfl, g7 63 rfl rfl, g1 8 rfl rfl, by decide, by decide +kernel⟩
theorem c_L_108 : CV RL 108 mX13_beside 4 := ⟨mkX13_beside, g7 67 rfl rfl, g7 68 rfl rfl, g7 69 rfl rfl, g1 8 rfl rfl, by decide, by decide +kernel⟩
theorem c_X13_350 : CV RX13 350 mX13_meanBeside 5 := ⟨mkX13_meanBeside, g7 71 rfl rfl, g7 73 rfl rfl, gP 63 rfl rfl, g1 8 rfl rfl, by decide, by decide +kernel⟩
theorem c_L_112 : CV RL 112 mX13_rest 2 := ⟨mkX13_rest, g7 75 rfl rfl, g7 76 rfl rfl, g7 77 rfl rfl, g1 8 rfl rfl, by decide, by decide +kernel⟩
theorem c_X13_357 : CV RX13 357 mX13_findSlates 1 := ⟨mkX13_findSlates, g7 79 rfl rfl, g7 81 rfl rfl, gP 64 rfl rfl, g1 8 rfl rfl, by decide, by decide +kernel⟩
theorem c_X13_360 : CV RX13 360 mX13_rests 2 := ⟨mkX13_rests, g7 83 rfl rfl, g7 85 rfl rfl, gP 65 rfl rfl, g1 8 rfl rfl, by decide, by decide +kernel⟩
theorem c_L_116 : CV RL 116 mX13_streets 4 := ⟨mkX13_streets, g7 87 rfl rfl, g7 88 rfl rfl, g7 89 rfl rfl, g1 8 rfl rfl, by decide, by decide +kernel⟩
theorem c_L_120 : CV RL 120 mX13_knew 4 := ⟨mkX13_knew, g7 91 rfl rfl, g7 92 rfl rfl, g7 93 rfl rfl, g1 8 rfl rfl, by decide, by decide +kernel⟩
theorem c_L_124 : CV RL 124 mX13_image 0 := ⟨mkX13_image, g7 98 rfl rfl, g7 99 rfl rfl, g7 100 rfl rfl, g1 8 rfl rfl, by decide, by decide +kernel⟩
theorem c_X13_385 : CV RX13 385 mX13_moveAll 0 := ⟨mkX13_moveAll, g7 102 rfl rfl, g7 104 rfl rfl, gP 66 rfl rfl, g1 8 rfl rfl, by decide, by decide +kernel⟩
theorem c_X13_379 : CV RX13 379 mX13_move 1 := ⟨mkX13_move, g7 106 rfl rfl, g7 108 rfl rfl, gP 67 rfl rfl, g1 8 rfl rfl, by decide, by decide +kernel⟩
theorem c_X13_375 : CV RX13 375 mX13_moveLong 1 := ⟨mkX13_moveLong, g7 110 rfl rfl, g7 112 rfl rfl, gP 68 rfl rfl, g1 8 rfl rfl, by decide, by decide +kernel⟩
theorem c_L_128 : CV RL 128 mX13_restore 0 := ⟨mkX13_restore, g7 114 rfl rfl, g7 115 rfl rfl, g7 116 rfl rfl, g1 8 rfl rfl, by decide, by decide +kernel⟩
theorem c_L_132 : CV RL 132 mX13_count 1 := ⟨mkX13_count, g7 118 rfl rfl, g7 119 rfl rfl, g7 120 rfl rfl, g1 8 rfl rfl, by decide, by decide +kernel⟩
theorem c_L_136 : CV RL 136 mX13_keep 4 := ⟨mkX13_keep, g7 122 rfl rfl, g7 123 rfl rfl, g7 124 rfl rfl, g1 8 rfl rfl, by decide, by decide +kernel⟩
theorem c_L_140 : CV RL 140 mX13_row 3 := ⟨mkX13_row, g7 126 rfl rfl, g7 127 rfl rfl, g7 128 rfl rfl, g1 8 rfl rfl, by decide, by decide +kernel⟩
theorem c_L_144 : CV RL 144 mX13_put 3 := ⟨mkX13_put, g7 130 rfl rfl, g7 131 rfl rfl, g7 132 rfl rfl, g1 8 rfl rfl, by decide, by decide +kernel⟩
theorem c_X13_388 : CS RX13 388 mX13_narrowed 2 := ⟨mkX13_narrowed, g7 134 rfl rfl, g7 135 rfl rfl, g1 8 rfl rfl, by decide, by decide +kernel⟩
theorem c_L_150 : CV RL 150 mX13_element 2 := ⟨mkX13_element, g7 137 rfl rfl, g7 138 rfl rfl, g7 139 rfl rfl, g1 8 rfl rfl, by decide, by decide +kernel⟩
theorem c_L_158 : CV RL 158 mX13_copy 5 := ⟨mkX13_copy, g7 141 rfl rfl, g7 142 rfl rfl, g7 143 rfl rfl, g1 8 rfl rfl, by decide, by decide +kernel⟩
theorem c_L_162 : CV RL 162 mX13_spread 1 := ⟨mkX13_spread, g7 145 rfl rfl, g7 146 rfl rfl, g7 147 rfl rfl, g1 8 rfl rfl, by decide, by decide +kernel⟩
theorem c_X13_392 : CV RX13 392 mX13_spreadOf 1 := ⟨mkX13_spreadOf, g7 149 rfl rfl, g7 151 rfl rfl, gP 69 rfl rfl, g1 8 rfl rfl, by decide, by decide +kernel⟩
theorem c_L_166 : CV RL 166 mX13_toss 1 := ⟨mkX13_toss, g7 153 rfl rfl, g7 154 rfl rfl, g7 155 rfl rfl, g1 8 rfl rfl, by decide, by decide +kernel⟩
