/-! WHAT THROWS, WHAT CATCHES: the way's number, toss, element -/
theorem xvE_ne : xvE "java/lang/IllegalArgumentException" ≠ xvE "java/lang/IllegalStateException" := by
  unfold xvE
  rw [if_pos rfl, if_neg (by decide)]
  intro h
  have := Value.double.inj h
  revert this
  decide
theorem xvE_inj {E F : String} (hE : E = "java/lang/IllegalArgumentException" ∨ E = "java/lang/IllegalStateException") (hF : F = "java/lang/IllegalArgumentException" ∨ F = "java/lang/IllegalStateException") (h : some (xvE E) = some (xvE F)) : E = F := by
  have h := Option.some.inj h
  rcases hE with rfl | rfl <;> rcases hF with rfl | rfl
  · rfl
  · exact absurd h xvE_ne
  · exact absurd h.symm xvE_ne
  · rfl
def wp_X3_failureNumber (p0 : Nat) (M : Mem) (Q : Int32 → Mem → Prop) : Prop := mK M p0 = 4 ∧ wp_X11_failureNumber p0 M (fun r M1 => Q (r + 100) M1)
theorem T_X3_failureNumber {G : GG} {Q : Int32 → Mem → Prop} {M : Mem} {p0 : Nat} (h : wp_X3_failureNumber p0 M Q) : PMet G mX3_failureNumber 1 0 0 [.ref p0] M (QI Q) :=
  mk_met (by decide) rfl rfl (by
    intro w hw x9 e9
    subst e9
    simp at hw) (Nat.le_of_ble_eq_true rfl) (s_pad (L1 := [some (.ref p0)]) 1 rfl (s_aload_n (pc := 0) dX3_failureNumber_0 rfl (s_callUQ (pc := 1) (x := ⟨"BothPrices$FixedWay", "failureNumber", "()I"⟩) (μ' := mX11_failureNumber) (n := 0) (c := 3) (As := []) (rest := []) (d' := 0) (mc' := 0) (ms' := 0) dX3_failureNumber_1 mkX11_failureNumber (g5 76 rfl rfl) (g5 77 rfl rfl) (g3 97 rfl rfl) (g4 35 rfl rfl) (g5 65 rfl rfl) (g1 11 rfl rfl) rfl rfl (by decide) (by decide +kernel) (Nat.le_of_ble_eq_true rfl) h.1 rfl rfl (Nat.le_of_ble_eq_true rfl) (rm_ok rfl rfl) ⟨Nat.le_refl 0, Nat.le_refl 0⟩ (T_X11_failureNumber h.2) (kkI (fun r M1 h1 => s_bipush (pc := 4) dX3_failureNumber_4 cb_100 (s_iadd (pc := 6) dX3_failureNumber_6 (s_ireturn (pc := 7) dX3_failureNumber_7 rfl (Nat.zero_le _) (Nat.zero_le _) ⟨_, rfl, h1⟩)))))))
def wv_X11_failureNumber (p0 : Nat) (M : Mem) (Q : Int32 → Mem → Prop) : Prop := (mK M p0 = 12 → wp_X11_failureNumber p0 M Q) ∧ (mK M p0 = 3 → wp_X11_failureNumber p0 M Q) ∧ (mK M p0 = 4 → wp_X3_failureNumber p0 M Q) ∧ (mK M p0 = 9 → wp_X11_failureNumber p0 M Q) ∧ (mK M p0 = 2 → wp_X1_failureNumber p0 M Q) ∧ (mK M p0 = 11 → wp_X11_failureNumber p0 M Q)
/-! toss -/
theorem dX12_toss_0 : cod mX12_toss 0 (.aload_n 0) 1 := by decide +kernel
theorem dX12_toss_1 : cod mX12_toss 1 (.iload_n 1) 1 := by decide +kernel
theorem dX12_toss_2 : cod mX12_toss 2 (.invokevirtual 352) 3 := by decide +kernel
theorem dX12_toss_5 : cod mX12_toss 5 (.astore_n 2) 1 := by decide +kernel
theorem dX12_toss_6 : cod mX12_toss 6 (.aload_n 2) 1 := by decide +kernel
theorem dX12_toss_7 : cod mX12_toss 7 (.ifnonnull 9) 3 := by decide +kernel
theorem dX12_toss_10 : cod mX12_toss 10 (.aload_n 0) 1 := by decide +kernel
theorem dX12_toss_11 : cod mX12_toss 11 (.iload_n 1) 1 := by decide +kernel
theorem dX12_toss_12 : cod mX12_toss 12 (.invokevirtual 67) 3 := by decide +kernel
theorem dX12_toss_15 : cod mX12_toss 15 (.ireturn) 1 := by decide +kernel
theorem dX12_toss_16 : cod mX12_toss 16 (.aload_n 2) 1 := by decide +kernel
theorem dX12_toss_17 : cod mX12_toss 17 (.invokevirtual 358) 3 := by decide +kernel
theorem dX12_toss_20 : cod mX12_toss 20 (.goto 9) 3 := by decide +kernel
theorem dX12_toss_23 : cod mX12_toss 23 (.astore_n 3) 1 := by decide +kernel
theorem dX12_toss_24 : cod mX12_toss 24 (.aload_n 2) 1 := by decide +kernel
theorem dX12_toss_25 : cod mX12_toss 25 (.invokevirtual 361) 3 := by decide +kernel
theorem dX12_toss_28 : cod mX12_toss 28 (.ireturn) 1 := by decide +kernel
theorem dX12_toss_29 : cod mX12_toss 29 (.bipush (-15)) 2 := by decide +kernel
theorem dX12_toss_31 : cod mX12_toss 31 (.ireturn) 1 := by decide +kernel
def wp_X12_toss (p0 : Nat) (p1 : Int32) (M : Mem) (Q : Int32 → Mem → Prop) : Prop := mK M p0 = 13 ∧ wp_X12_wayOn p0 p1 M (fun r M1 => (¬ r = 0 → isW M1 r ∧ (mK M1 r = 11 ∨ mI M1 r 0 ≤ 0 → Q (-15) M1) ∧ (¬ (mK M1 r = 11 ∨ mI M1 r 0 ≤ 0) → ∀ n, isW (gr M1 n) r ∧ wv_X11_failureNumber r (gr M1 n) (fun x M2 => Q x M2))) ∧ (r = 0 → mK M1 p0 = 13 ∧ wp_X12_whyNot p0 p1 M1 (fun x M2 => Q x M2)))
theorem s_fail {G : GG} {rm : Room} {Q : Option Value → Mem → Prop} {L : List (Option Value)} {M : Mem} {k sl r : Nat} {Q1 QX : Mem → Prop} (hw : isW M r) (hroom : RmOK rm 5 mX11_fail) (hroom0 : RmOK rm 0 mX10_fail) (hcs : k + 1 ≤ rm.cells ∧ sl + 6 ≤ rm.slots)
    (h1 : mK M r = 11 ∨ mI M r 0 ≤ 0 → Q1 M) (h2 : ¬ (mK M r = 11 ∨ mI M r 0 ≤ 0) → ∀ n, QX (gr M n))
    (kk : ∀ (M' : Mem) (k' sl' : Nat), Q1 M' → k' ≤ k + 1 → sl' ≤ sl + 6 → PW G mX12_toss rm Q 20 L [] M' k' sl') (kx : ∀ M', QX M' → PWx G mX12_toss rm Q 17 L M' (k + 1) (sl + 6) "java/lang/IllegalStateException") : PW G mX12_toss rm Q 17 L [.ref r] M k sl := by
  obtain ⟨c, hc6, hk⟩ := isW_c hw
  have nf : c ≠ 10 → PMetX G mX11_fail (mdC mX11_fail) 5 1 6 [.ref r] M (QVX Q1 QX) := fun hc => T_X11_fail ⟨hw, fun z => h1 (Or.inr z), fun z => h2 (fun q => q.elim (fun q => by omega) z)⟩
  have kx' : ∀ (E : String) (M' : Mem), (E = "java/lang/IllegalArgumentException" ∨ E = "java/lang/IllegalStateException") → QVX Q1 QX (some (xvE E)) M' → PWx G mX12_toss rm Q 17 L M' (k + 1) (sl + 6) E := fun E M' hE hq => by
    rcases hq with ⟨q, -⟩ | ⟨q, hq⟩
    · cases q
    · have e := xvE_inj hE (Or.inr rfl) q
      subst e
      exact kx M' hq
  have kk' : ∀ (v : Option Value) (M' : Mem), QVX Q1 QX v M' → nDv v → PW G mX12_toss rm Q 20 L (v.toList ++ []) M' (k + 1) (sl + 6) := fun v M' hq hn => by
    rcases hq with ⟨rfl, hq⟩ | ⟨q, -⟩
    · exact kk M' _ _ hq (Nat.le_refl _) (Nat.le_refl _)
    · exact absurd q (hn _)
  rcases hc6 with rfl | rfl | rfl | rfl | rfl | rfl
  · exact s_callVx (pc := 17) (c := 11) (a := r) (As := []) (rest := []) (d' := 5) (mc' := 1) (ms' := 6) rfl dX12_toss_17 c_X12_358 (Nat.le_of_ble_eq_true rfl) rfl hk rfl rfl (Nat.le_of_ble_eq_true rfl) hroom hcs (nf (by decide)) kk' kx'
  · exact s_callUx (pc := 17) (c := 2) (a := r) (As := []) (rest := []) (d' := 5) (mc' := 1) (ms' := 6) rfl dX12_toss_17 c_X12_358_2 (Nat.le_of_ble_eq_true rfl) hk rfl rfl (Nat.le_of_ble_eq_true rfl) hroom hcs (nf (by decide)) kk' kx'
  · exact s_callUx (pc := 17) (c := 3) (a := r) (As := []) (rest := []) (d' := 5) (mc' := 1) (ms' := 6) rfl dX12_toss_17 c_X12_358_3 (Nat.le_of_ble_eq_true rfl) hk rfl rfl (Nat.le_of_ble_eq_true rfl) hroom hcs (nf (by decide)) kk' kx'
  · exact s_callUx (pc := 17) (c := 8) (a := r) (As := []) (rest := []) (d' := 5) (mc' := 1) (ms' := 6) rfl dX12_toss_17 c_X12_358_8 (Nat.le_of_ble_eq_true rfl) hk rfl rfl (Nat.le_of_ble_eq_true rfl) hroom hcs (nf (by decide)) kk' kx'
  · exact s_callUx (pc := 17) (c := 1) (a := r) (As := []) (rest := []) (d' := 5) (mc' := 1) (ms' := 6) rfl dX12_toss_17 c_X12_358_1 (Nat.le_of_ble_eq_true rfl) hk rfl rfl (Nat.le_of_ble_eq_true rfl) hroom hcs (nf (by decide)) kk' kx'
  · refine s_callU (pc := 17) (c := 10) (a := r) (As := []) (rest := []) (d' := 0) (mc' := 0) (ms' := 0) dX12_toss_17 c_X12_358_10 (Nat.le_of_ble_eq_true rfl) hk rfl rfl (Nat.le_of_ble_eq_true rfl) hroom0 ⟨by omega, by omega⟩ (T_X10_fail (Q := Q1) (h1 (Or.inl hk))) (kkV (fun M' hq => kk M' _ _ hq (by omega) (by omega)))
theorem T_X12_toss {G : GG} {Q : Int32 → Mem → Prop} {M : Mem} {p0 : Nat} {p1 : Int32} (h : wp_X12_toss p0 p1 M Q) : PMetX G mX12_toss (mdW mX12_toss) 6 1 6 [.ref p0, .int p1] M (QI Q) :=
  mk_metW (by decide) rfl rfl (by
    intro w hw x9 e9
    subst e9
    simp at hw) (Nat.le_of_ble_eq_true rfl) (s_pad (L1 := [some (.ref p0), some (.int p1), none, none]) 4 rfl (s_aload_n (pc := 0) dX12_toss_0 rfl (s_iload_n (pc := 1) dX12_toss_1 rfl (s_callV (pc := 2) (As := [.int p1]) (rest := []) (d' := 1) (mc' := 0) (ms' := 0) dX12_toss_2 c_X12_352 (Nat.le_of_ble_eq_true rfl) rfl h.1 rfl rfl (Nat.le_of_ble_eq_true rfl) (rm_ok rfl rfl) ⟨Nat.zero_le _, Nat.zero_le _⟩ (T_X12_wayOn h.2) (kkR (fun r M1 h1 => s_astore_n (pc := 5) (L1 := [some (.ref p0), some (.int p1), some (.ref r), none]) dX12_toss_5 (Nat.le_of_ble_eq_true rfl) rfl (s_aload_n (pc := 6) dX12_toss_6 rfl (s_ifnonnull (pc := 7) (tgt := 16) dX12_toss_7 rfl
      (fun c4 => have h5 := h1.1 c4; s_aload_n (pc := 16) dX12_toss_16 rfl (s_fail (Q1 := fun M => Q (-15) M) (QX := fun M2 => isW M2 r ∧ wv_X11_failureNumber r M2 (fun x M3 => Q x M3)) h5.1 (rm_ok rfl rfl) (rm_ok rfl rfl) ⟨Nat.le_refl _, Nat.le_refl _⟩ h5.2.1 h5.2.2
        (fun M' k' sl' hq hk hs => s_goto (pc := 20) (tgt := 29) dX12_toss_20 rfl (s_bipush (pc := 29) dX12_toss_29 rfl (s_ireturn (pc := 31) dX12_toss_31 rfl hk hs ⟨_, rfl, hq⟩)))
        (fun M' hq => x_catch (16, 20, 23, 329) [] [] rfl rfl rfl (fun z hz => absurd hz List.not_mem_nil) ⟨by decide, by decide⟩ (by decide) (g4 224 rfl rfl) (List.mem_of_getElem? (i := 3) rfl) (Or.inl ⟨3, dX12_toss_23, Nat.le_of_ble_eq_true rfl,
          s_aload_n (pc := 24) (x := r) dX12_toss_24 rfl (s_callW (pc := 25) (Q' := QI (fun x M3 => Q x M3)) (As := []) (rest := []) dX12_toss_25 hq.1 rfl rfl (Nat.le_of_ble_eq_true rfl) (by
            intro c hc6 hk
            rcases hc6 with rfl | rfl | rfl | rfl | rfl | rfl
            · exact ⟨mX11_failureNumber, 0, Or.inl ⟨c_X12_361, rfl⟩, rm_ok rfl rfl, T_X11_failureNumber (hq.2.1 hk)⟩
            · exact ⟨mX11_failureNumber, 0, Or.inr ⟨mX11_failureNumber, c_X12_361_2⟩, rm_ok rfl rfl, T_X11_failureNumber (hq.2.2.1 hk)⟩
            · exact ⟨mX3_failureNumber, 1, Or.inr ⟨mX11_failureNumber, c_X12_361_3⟩, rm_ok rfl rfl, T_X3_failureNumber (hq.2.2.2.1 hk)⟩
            · exact ⟨mX11_failureNumber, 0, Or.inr ⟨mX11_failureNumber, c_X12_361_8⟩, rm_ok rfl rfl, T_X11_failureNumber (hq.2.2.2.2.1 hk)⟩
            · exact ⟨mX1_failureNumber, 3, Or.inr ⟨mX11_failureNumber, c_X12_361_1⟩, rm_ok rfl rfl, T_X1_failureNumber (hq.2.2.2.2.2.1 hk)⟩
            · exact ⟨mX11_failureNumber, 0, Or.inr ⟨mX11_failureNumber, c_X12_361_10⟩, rm_ok rfl rfl, T_X11_failureNumber (hq.2.2.2.2.2.2 hk)⟩) ⟨Nat.le_refl _, Nat.le_refl _⟩ (kkI (fun x M3 h8 => s_ireturn (pc := 28) dX12_toss_28 rfl (Nat.le_refl _) (Nat.le_refl _) ⟨_, rfl, h8⟩)))⟩))))
      (fun c6 => have h7 := h1.2 c6; s_aload_n (pc := 10) dX12_toss_10 rfl (s_iload_n (pc := 11) dX12_toss_11 rfl (s_callV (pc := 12) (As := [.int p1]) (rest := []) (d' := 1) (mc' := 0) (ms' := 0) dX12_toss_12 c_X12_67 (Nat.le_of_ble_eq_true rfl) rfl h7.1 rfl rfl (Nat.le_of_ble_eq_true rfl) (rm_ok rfl rfl) ⟨Nat.zero_le _, Nat.zero_le _⟩ (T_X12_whyNot h7.2) (kkI (fun x M2 h11 => s_ireturn (pc := 15) dX12_toss_15 rfl (Nat.zero_le _) (Nat.zero_le _) ⟨_, rfl, h11⟩)))))))))))))
/-! element -/
theorem dX12_element_0 : cod mX12_element 0 (.iload_n 1) 1 := by decide +kernel
theorem dX12_element_1 : cod mX12_element 1 (.invokestatic 295) 3 := by decide +kernel
theorem dX12_element_4 : cod mX12_element 4 (.ifCond .ne 14) 3 := by decide +kernel
theorem dX12_element_7 : cod mX12_element 7 (.new 322) 3 := by decide +kernel
theorem dX12_element_10 : cod mX12_element 10 .dup 1 := by decide +kernel
theorem dX12_element_11 : cod mX12_element 11 (.ldc_w 324) 3 := by decide +kernel
theorem dX12_element_14 : cod mX12_element 14 (.invokespecial 326) 3 := by decide +kernel
theorem dX12_element_17 : cod mX12_element 17 .athrow 1 := by decide +kernel
theorem dX12_element_18 : cod mX12_element 18 (.aload_n 0) 1 := by decide +kernel
theorem dX12_element_19 : cod mX12_element 19 (.iload_n 1) 1 := by decide +kernel
theorem dX12_element_20 : cod mX12_element 20 (.invokevirtual 313) 3 := by decide +kernel
theorem dX12_element_23 : cod mX12_element 23 (.astore_n 3) 1 := by decide +kernel
theorem dX12_element_24 : cod mX12_element 24 (.aload_n 3) 1 := by decide +kernel
theorem dX12_element_25 : cod mX12_element 25 (.ifnull 11) 3 := by decide +kernel
theorem dX12_element_28 : cod mX12_element 28 (.aload_n 3) 1 := by decide +kernel
theorem dX12_element_29 : cod mX12_element 29 (.iload_n 2) 1 := by decide +kernel
theorem dX12_element_30 : cod mX12_element 30 (.invokevirtual 316) 3 := by decide +kernel
theorem dX12_element_33 : cod mX12_element 33 (.ifCond .ne 14) 3 := by decide +kernel
theorem dX12_element_36 : cod mX12_element 36 (.new 329) 3 := by decide +kernel
theorem dX12_element_39 : cod mX12_element 39 .dup 1 := by decide +kernel
theorem dX12_element_40 : cod mX12_element 40 (.ldc_w 331) 3 := by decide +kernel
theorem dX12_element_43 : cod mX12_element 43 (.invokespecial 333) 3 := by decide +kernel
theorem dX12_element_46 : cod mX12_element 46 .athrow 1 := by decide +kernel
theorem dX12_element_47 : cod mX12_element 47 (.aload_n 3) 1 := by decide +kernel
theorem dX12_element_48 : cod mX12_element 48 (.getfield 334) 3 := by decide +kernel
theorem dX12_element_51 : cod mX12_element 51 (.iload_n 2) 1 := by decide +kernel
theorem dX12_element_52 : cod mX12_element 52 .iaload 1 := by decide +kernel
theorem dX12_element_53 : cod mX12_element 53 .i2l 1 := by decide +kernel
theorem dX12_element_54 : cod mX12_element 54 .lreturn 1 := by decide +kernel
def QJX (Q : Int64 → Mem → Prop) (A B : Mem → Prop) : Option Value → Mem → Prop := fun v M => (∃ x, v = some (.long x) ∧ Q x M) ∨ (v = some (xvE "java/lang/IllegalArgumentException") ∧ A M) ∨ (v = some (xvE "java/lang/IllegalStateException") ∧ B M)
def wp_X12_element (p0 : Nat) (p1 p2 : Int32) (M : Mem) (Q : Int64 → Mem → Prop) (A B : Mem → Prop) : Prop := wp_X12_isShelf p1 M (fun r M1 => (r = 0 → ∀ n, A (gr M1 n)) ∧ (¬ r = 0 → mK M1 p0 = 13 ∧ wp_X12_rowOn p0 p1 M1 (fun q M2 => (q = 0 → ∀ n, B (gr M2 n)) ∧ (¬ q = 0 → mK M2 q = 5 ∧ wp_X4_hasPlace q p2 M2 (fun b M3 => (b = 0 → ∀ n, B (gr M3 n)) ∧ (¬ b = 0 → mK M3 q = 5 ∧ mK M3 (mR M3 q 3) = 20 ∧ vp_in p2 (mN M3 (mR M3 q 3)) ∧ Q (mI M3 (mR M3 q 3) p2.toNatClampNeg).toInt64 M3))))))
theorem s_noRow {G : GG} {Q : Int64 → Mem → Prop} {A B : Mem → Prop} {L : List (Option Value)} {M : Mem} (h : ∀ n, B (gr M n)) : PW G mX12_element (rmD 5 1 6) (QJX Q A B) 36 L [] M 0 0 :=
  s_throwW (pc := 36) (ik := 329) (is := 331) (ic := 333) (E := "java/lang/IllegalStateException") (text := "no row, or no such place in it") rfl rfl rfl dX12_element_36 dX12_element_39 dX12_element_40 dX12_element_43 dX12_element_46 (by decide) (Or.inr rfl) (g4 224 rfl rfl) (g1 22 rfl rfl) th_s (fun U h => h.2.2.2.2.2.1) (Nat.le_of_ble_eq_true rfl) (Nat.le_of_ble_eq_true rfl) ⟨Nat.le_refl _, Nat.le_refl _⟩ (fun n => Or.inr (Or.inr ⟨rfl, h n⟩))
theorem T_X12_element {G : GG} {Q : Int64 → Mem → Prop} {A B : Mem → Prop} {M : Mem} {p0 : Nat} {p1 p2 : Int32} (h : wp_X12_element p0 p1 p2 M Q A B) : PMetX G mX12_element (mdC mX12_element) 5 1 6 [.ref p0, .int p1, .int p2] M (QJX Q A B) :=
  mk_metX (by decide) rfl rfl rfl (by
    intro w hw x9 e9
    subst e9
    simp at hw) (Nat.le_of_ble_eq_true rfl) (s_pad (L1 := [some (.ref p0), some (.int p1), some (.int p2), none]) 4 rfl (s_iload_n (pc := 0) dX12_element_0 rfl (s_callS (pc := 1) (As := [.int p1]) (rest := []) (d' := 0) (mc' := 0) (ms' := 0) dX12_element_1 c_X12_295 rfl rfl (Nat.le_of_ble_eq_true rfl) (rm_ok rfl rfl) ⟨Nat.zero_le _, Nat.zero_le _⟩ (T_X12_isShelf h) (kkI (fun r M1 h1 => s_if_ne (pc := 4) (tgt := 18) dX12_element_4 rfl
      (fun c1 => have h2 := h1.2 c1; s_aload_n (pc := 18) dX12_element_18 rfl (s_iload_n (pc := 19) dX12_element_19 rfl (s_callV (pc := 20) (As := [.int p1]) (rest := []) (d' := 1) (mc' := 0) (ms' := 0) dX12_element_20 c_X12_313 (Nat.le_of_ble_eq_true rfl) rfl h2.1 rfl rfl (Nat.le_of_ble_eq_true rfl) (rm_ok rfl rfl) ⟨Nat.zero_le _, Nat.zero_le _⟩ (T_X12_rowOn h2.2) (kkR (fun q M2 h3 => s_astore_n (pc := 23) (L1 := [some (.ref p0), some (.int p1), some (.int p2), some (.ref q)]) dX12_element_23 (Nat.le_of_ble_eq_true rfl) rfl (s_aload_n (pc := 24) dX12_element_24 rfl (s_ifnull (pc := 25) (tgt := 36) dX12_element_25 rfl (fun c3 => s_noRow (h3.1 c3)) (fun c3 => have h4 := h3.2 c3; s_aload_n (pc := 28) dX12_element_28 rfl (s_iload_n (pc := 29) dX12_element_29 rfl (s_callV (pc := 30) (As := [.int p2]) (rest := []) (d' := 0) (mc' := 0) (ms' := 0) dX12_element_30 c_X12_316 (Nat.le_of_ble_eq_true rfl) rfl h4.1 rfl rfl (Nat.le_of_ble_eq_true rfl) (rm_ok rfl rfl) ⟨Nat.zero_le _, Nat.zero_le _⟩ (T_X4_hasPlace h4.2) (kkI (fun b M3 h5 => s_if_ne (pc := 33) (tgt := 47) dX12_element_33 rfl (fun c5 => have h6 := h5.2 c5; s_aload_n (pc := 47) dX12_element_47 rfl (s_getR (pc := 48) dX12_element_48 f_X12_334 rfl h6.1 (s_iload_n (pc := 51) dX12_element_51 rfl (s_ial (pc := 52) dX12_element_52 h6.2.1 h6.2.2.1 (s_i2l (pc := 53) dX12_element_53 (s_lreturn (pc := 54) dX12_element_54 rfl (Nat.zero_le _) (Nat.zero_le _) (Or.inl ⟨_, rfl, h6.2.2.2⟩))))))) (fun c5 => s_noRow (h5.1 c5))))))))))))))
      (fun c1 => s_throwW (pc := 7) (ik := 322) (is := 324) (ic := 326) (E := "java/lang/IllegalArgumentException") (text := "no such shelf") rfl rfl rfl dX12_element_7 dX12_element_10 dX12_element_11 dX12_element_14 dX12_element_17 (by decide) (Or.inl rfl) (g5 91 rfl rfl) (g1 21 rfl rfl) th_a (fun U h => h.2.2.2.2.1) (Nat.le_of_ble_eq_true rfl) (Nat.le_of_ble_eq_true rfl) ⟨Nat.le_refl _, Nat.le_refl _⟩ (fun n => Or.inr (Or.inl ⟨rfl, h1.1 c1 n⟩))))))))
/-! the law's element -/
theorem dL_element_0 : cod mL_element 0 (.aload_n 3) 1 := by decide +kernel
theorem dL_element_1 : cod mL_element 1 (.iconst 0) 1 := by decide +kernel
theorem dL_element_2 : cod mL_element 2 (.aload_n 0) 1 := by decide +kernel
theorem dL_element_3 : cod mL_element 3 (.iload_n 1) 1 := by decide +kernel
theorem dL_element_4 : cod mL_element 4 (.iload_n 2) 1 := by decide +kernel
theorem dL_element_5 : cod mL_element 5 (.invokevirtual 7) 3 := by decide +kernel
theorem dL_element_8 : cod mL_element 8 .lastore 1 := by decide +kernel
theorem dL_element_9 : cod mL_element 9 (.goto 11) 3 := by decide +kernel
theorem dL_element_12 : cod mL_element 12 (.astore 4) 2 := by decide +kernel
theorem dL_element_14 : cod mL_element 14 (.iconst 1) 1 := by decide +kernel
theorem dL_element_15 : cod mL_element 15 .ireturn 1 := by decide +kernel
theorem dL_element_16 : cod mL_element 16 (.astore 4) 2 := by decide +kernel
theorem dL_element_18 : cod mL_element 18 (.iconst 2) 1 := by decide +kernel
theorem dL_element_19 : cod mL_element 19 .ireturn 1 := by decide +kernel
theorem dL_element_20 : cod mL_element 20 (.iconst 0) 1 := by decide +kernel
theorem dL_element_21 : cod mL_element 21 .ireturn 1 := by decide +kernel
def wp_L_element (x : Nat) (p1 p2 : Int32) (o : Nat) (M : Mem) (Q : Int32 → Mem → Prop) : Prop := mK M x = 13 ∧ wp_X12_element x p1 p2 M (fun v M1 => mK M1 o = 21 ∧ vp_in 0 (mN M1 o) ∧ Q 0 (uJ M1 o 0 v)) (fun M1 => Q 1 M1) (fun M1 => Q 2 M1)
theorem T_L_element {G : GG} {Q : Int32 → Mem → Prop} {M : Mem} {x o : Nat} {p1 p2 : Int32} (h : wp_L_element x p1 p2 o M Q) : PMetX G mL_element (mdW mL_element) 6 1 6 [.ref x, .int p1, .int p2, .ref o] M (QI Q) :=
  mk_metW (by decide) rfl rfl (by
    intro w hw x9 e9
    subst e9
    simp at hw) (Nat.le_of_ble_eq_true rfl) (s_pad (L1 := [some (.ref x), some (.int p1), some (.int p2), some (.ref o), none]) 5 rfl (s_aload_n (pc := 0) dL_element_0 rfl (s_iconst (pc := 1) dL_element_1 ci_0 (s_aload_n (pc := 2) dL_element_2 rfl (s_iload_n (pc := 3) dL_element_3 rfl (s_iload_n (pc := 4) dL_element_4 rfl (s_callVx (pc := 5) (c := 12) (a := x) (As := [.int p1, .int p2]) (rest := [.int 0, .ref o]) (d' := 5) (mc' := 1) (ms' := 6) rfl dL_element_5 c_L_7 (Nat.le_of_ble_eq_true rfl) rfl h.1 rfl rfl (Nat.le_of_ble_eq_true rfl) (rm_ok rfl rfl) ⟨Nat.le_refl _, Nat.le_refl _⟩ (T_X12_element h.2)
      (fun v M1 hq hn => by
        rcases hq with ⟨w, rfl, h1, h2, h3⟩ | ⟨q, -⟩ | ⟨q, -⟩
        · exact s_las (pc := 8) (i := 0) dL_element_8 h1 h2 (s_goto (pc := 9) (tgt := 20) dL_element_9 rfl (s_iconst (pc := 20) dL_element_20 ci_0 (s_ireturn (pc := 21) dL_element_21 rfl (Nat.le_refl _) (Nat.le_refl _) ⟨_, rfl, h3⟩)))
        · exact absurd q (hn _)
        · exact absurd q (hn _))
      (fun E M1 hE hq => by
        rcases hq with ⟨w, q, -⟩ | ⟨q, hq⟩ | ⟨q, hq⟩
        · cases q
        · have e := xvE_inj hE (Or.inl rfl) q
          subst e
          exact x_catch (0, 9, 12, 13) [] [(0, 9, 16, 15)] rfl rfl rfl (fun z hz => absurd hz List.not_mem_nil) ⟨by decide, by decide⟩ (by decide) (g5 85 rfl rfl) (List.mem_of_getElem? (i := 4) rfl) (Or.inr ⟨4, dL_element_12, Nat.le_of_ble_eq_true rfl, s_iconst (pc := 14) dL_element_14 rfl (s_ireturn (pc := 15) dL_element_15 rfl (Nat.le_refl _) (Nat.le_refl _) ⟨_, rfl, hq⟩)⟩)
        · have e := xvE_inj hE (Or.inr rfl) q
          subst e
          exact x_catch (0, 9, 16, 15) [(0, 9, 12, 13)] [] rfl rfl rfl (fun z hz => by
            have e := List.mem_singleton.mp hz
            subst e
            exact ⟨by decide, "java/lang/IllegalArgumentException", g5 85 rfl rfl, fun U hU => hU.2.2.2.2.2.2.1⟩) ⟨by decide, by decide⟩ (by decide) (g5 86 rfl rfl) (List.mem_of_getElem? (i := 3) rfl) (Or.inr ⟨4, dL_element_16, Nat.le_of_ble_eq_true rfl, s_iconst (pc := 18) dL_element_18 rfl (s_ireturn (pc := 19) dL_element_19 rfl (Nat.le_refl _) (Nat.le_refl _) ⟨_, rfl, hq⟩)⟩)))))))))
