/-! X12_bestWay -/
theorem dX12_bestWay_0 : cod mX12_bestWay 0 (.iload_n 2) 1 := by decide +kernel
theorem dX12_bestWay_1 : cod mX12_bestWay 1 (.invokestatic 236) 3 := by decide +kernel
theorem dX12_bestWay_4 : cod mX12_bestWay 4 (.ifCond .ne 5) 3 := by decide +kernel
theorem dX12_bestWay_7 : cod mX12_bestWay 7 (.iconst (-1)) 1 := by decide +kernel
theorem dX12_bestWay_8 : cod mX12_bestWay 8 (.ireturn) 1 := by decide +kernel
theorem dX12_bestWay_9 : cod mX12_bestWay 9 (.aload_n 0) 1 := by decide +kernel
theorem dX12_bestWay_10 : cod mX12_bestWay 10 (.iload_n 1) 1 := by decide +kernel
theorem dX12_bestWay_11 : cod mX12_bestWay 11 (.invokevirtual 63) 3 := by decide +kernel
theorem dX12_bestWay_14 : cod mX12_bestWay 14 (.astore_n 3) 1 := by decide +kernel
theorem dX12_bestWay_15 : cod mX12_bestWay 15 (.aload_n 3) 1 := by decide +kernel
theorem dX12_bestWay_16 : cod mX12_bestWay 16 (.ifnonnull 9) 3 := by decide +kernel
theorem dX12_bestWay_19 : cod mX12_bestWay 19 (.aload_n 0) 1 := by decide +kernel
theorem dX12_bestWay_20 : cod mX12_bestWay 20 (.iload_n 1) 1 := by decide +kernel
theorem dX12_bestWay_21 : cod mX12_bestWay 21 (.invokevirtual 67) 3 := by decide +kernel
theorem dX12_bestWay_24 : cod mX12_bestWay 24 (.ireturn) 1 := by decide +kernel
theorem dX12_bestWay_25 : cod mX12_bestWay 25 (.aload_n 3) 1 := by decide +kernel
theorem dX12_bestWay_26 : cod mX12_bestWay 26 (.getfield 239) 3 := by decide +kernel
theorem dX12_bestWay_29 : cod mX12_bestWay 29 (.iconst 1) 1 := by decide +kernel
theorem dX12_bestWay_30 : cod mX12_bestWay 30 (.if_icmp .lt 21) 3 := by decide +kernel
theorem dX12_bestWay_33 : cod mX12_bestWay 33 (.aload_n 3) 1 := by decide +kernel
theorem dX12_bestWay_34 : cod mX12_bestWay 34 (.getfield 239) 3 := by decide +kernel
theorem dX12_bestWay_37 : cod mX12_bestWay 37 (.bipush 6) 2 := by decide +kernel
theorem dX12_bestWay_39 : cod mX12_bestWay 39 (.if_icmp .gt 12) 3 := by decide +kernel
theorem dX12_bestWay_42 : cod mX12_bestWay 42 (.aload_n 3) 1 := by decide +kernel
theorem dX12_bestWay_43 : cod mX12_bestWay 43 (.bipush 6) 2 := by decide +kernel
theorem dX12_bestWay_45 : cod mX12_bestWay 45 (.invokevirtual 242) 3 := by decide +kernel
theorem dX12_bestWay_48 : cod mX12_bestWay 48 (.ifCond .ne 6) 3 := by decide +kernel
theorem dX12_bestWay_51 : cod mX12_bestWay 51 (.bipush (-13)) 2 := by decide +kernel
theorem dX12_bestWay_53 : cod mX12_bestWay 53 (.ireturn) 1 := by decide +kernel
theorem dX12_bestWay_54 : cod mX12_bestWay 54 (.aload_n 0) 1 := by decide +kernel
theorem dX12_bestWay_55 : cod mX12_bestWay 55 (.getfield 10) 3 := by decide +kernel
theorem dX12_bestWay_58 : cod mX12_bestWay 58 (.invokevirtual 132) 3 := by decide +kernel
theorem dX12_bestWay_61 : cod mX12_bestWay 61 (.ifCond .eq 12) 3 := by decide +kernel
theorem dX12_bestWay_64 : cod mX12_bestWay 64 (.aload_n 0) 1 := by decide +kernel
theorem dX12_bestWay_65 : cod mX12_bestWay 65 (.aload_n 3) 1 := by decide +kernel
theorem dX12_bestWay_66 : cod mX12_bestWay 66 (.iload_n 2) 1 := by decide +kernel
theorem dX12_bestWay_67 : cod mX12_bestWay 67 (.invokevirtual 245) 3 := by decide +kernel
theorem dX12_bestWay_70 : cod mX12_bestWay 70 (.goto 5) 3 := by decide +kernel
theorem dX12_bestWay_73 : cod mX12_bestWay 73 (.bipush (-3)) 2 := by decide +kernel
theorem dX12_bestWay_75 : cod mX12_bestWay 75 (.ireturn) 1 := by decide +kernel
def wp_X12_bestWay (p0 : Nat) (p1 : Int32) (p2 : Int32) (M : Mem) (Q : Int32 → Mem → Prop) : Prop := (0 + 0 ≤ 6 ∧ 0 + 0 ≤ 6) ∧ wp_X12_isFigure p2 M (fun r3 M2 => (¬ r3 = (0 : Int32) → mK M2 p0 = 13 ∧ ((0 + 0) + 0 ≤ 6 ∧ (0 + 0) + 0 ≤ 6) ∧ wp_X12_bytesOn p0 p1 M2 (fun r10 M9 => (¬ r10 = 0 → mK M9 r10 = 5 ∧ ((mI M9 r10 2) < (1 : Int32) → (((0 + 0) + 0) ≤ 6 ∧ ((0 + 0) + 0) ≤ 6) ∧ Q (-13) M9) ∧ (¬ (mI M9 r10 2) < (1 : Int32) → ((6 : Int32) < (mI M9 r10 2) → (((0 + 0) + 0) ≤ 6 ∧ ((0 + 0) + 0) ≤ 6) ∧ Q (-13) M9) ∧ (¬ (6 : Int32) < (mI M9 r10 2) → (((0 + 0) + 0) + 0 ≤ 6 ∧ ((0 + 0) + 0) + 0 ≤ 6) ∧ wp_X4_allBelow r10 6 M9 (fun r25 M24 => (¬ r25 = (0 : Int32) → mK M24 p0 = 13 ∧ mK M24 (mR M24 p0 0) = 7 ∧ ((((0 + 0) + 0) + 0) + 0 ≤ 6 ∧ (((0 + 0) + 0) + 0) + 0 ≤ 6) ∧ wp_X6_isReady (mR M24 p0 0) M24 (fun r32 M31 => (r32 = (0 : Int32) → (((((0 + 0) + 0) + 0) + 0) ≤ 6 ∧ ((((0 + 0) + 0) + 0) + 0) ≤ 6) ∧ Q (-3) M31) ∧ (¬ r32 = (0 : Int32) → mK M31 p0 = 13 ∧ (((((0 + 0) + 0) + 0) + 0) + 6 ≤ 6 ∧ ((((0 + 0) + 0) + 0) + 0) + 6 ≤ 6) ∧ wp_X12_placeOfBest p0 r10 p2 M31 (fun r39 M38 => ((((((0 + 0) + 0) + 0) + 0) + 6) ≤ 6 ∧ (((((0 + 0) + 0) + 0) + 0) + 6) ≤ 6) ∧ Q r39 M38)))) ∧ (r25 = (0 : Int32) → ((((0 + 0) + 0) + 0) ≤ 6 ∧ (((0 + 0) + 0) + 0) ≤ 6) ∧ Q (-13) M24))))) ∧ (r10 = 0 → mK M9 p0 = 13 ∧ (((0 + 0) + 0) + 0 ≤ 6 ∧ ((0 + 0) + 0) + 0 ≤ 6) ∧ wp_X12_whyNot p0 p1 M9 (fun r42 M41 => ((((0 + 0) + 0) + 0) ≤ 6 ∧ (((0 + 0) + 0) + 0) ≤ 6) ∧ Q r42 M41)))) ∧ (r3 = (0 : Int32) → ((0 + 0) ≤ 6 ∧ (0 + 0) ≤ 6) ∧ Q (-1) M2))
theorem T_X12_bestWay {G : GG} {Q : Int32 → Mem → Prop} {M : Mem} {p0 : Nat} {p1 : Int32} {p2 : Int32} (h : wp_X12_bestWay p0 p1 p2 M Q) : PMet G mX12_bestWay 14 6 6 [.ref p0, .int p1, .int p2] M (QI Q) :=
  mk_met (by decide) rfl rfl (by
    intro w hw x9 e9
    subst e9
    simp at hw) (Nat.le_of_ble_eq_true rfl) (s_pad (L1 := [some (.ref p0), some (.int p1), some (.int p2), none]) 4 rfl (s_iload_n (pc := 0) dX12_bestWay_0 rfl (s_callS (pc := 1) (As := [.int p2]) (rest := []) (d' := 0) (mc' := 0) (ms' := 0) dX12_bestWay_1 c_X12_236 rfl rfl (Nat.le_of_ble_eq_true rfl) (rm_ok rfl rfl) h.1 (T_X12_isFigure h.2) (kkI (fun r3 M2 h1 => s_if_ne (pc := 4) (tgt := 9) dX12_bestWay_4 rfl (fun c4 => have h5 := h1.1 c4; s_aload_n (pc := 9) dX12_bestWay_9 rfl (s_iload_n (pc := 10) dX12_bestWay_10 rfl (s_callV (pc := 11) (As := [.int p1]) (rest := []) (d' := 1) (mc' := 0) (ms' := 0) dX12_bestWay_11 c_X12_63 (Nat.le_of_ble_eq_true rfl) rfl h5.1 rfl rfl (Nat.le_of_ble_eq_true rfl) (rm_ok rfl rfl) h5.2.1 (T_X12_bytesOn h5.2.2) (kkR (fun r10 M9 h8 => s_astore_n (pc := 14) (L1 := [some (.ref p0), some (.int p1), some (.int p2), some (.ref r10)]) dX12_bestWay_14 (Nat.le_of_ble_eq_true rfl) rfl (s_aload_n (pc := 15) dX12_bestWay_15 rfl (s_ifnonnull (pc := 16) (tgt := 25) dX12_bestWay_16 rfl (fun c11 => have h12 := h8.1 c11; s_aload_n (pc := 25) dX12_bestWay_25 rfl (s_getI (pc := 26) dX12_bestWay_26 f_X12_239 rfl h12.1 (s_iconst (pc := 29) dX12_bestWay_29 ci_1 (s_icmp_lt (pc := 30) (tgt := 51) dX12_bestWay_30 rfl (fun c15 => have h16 := h12.2.1 c15; s_bipush (pc := 51) dX12_bestWay_51 cb_m13 (s_ireturn (pc := 53) dX12_bestWay_53 rfl h16.1.1 h16.1.2 ⟨_, rfl, h16.2⟩)) (fun c17 => have h18 := h12.2.2 c17; s_aload_n (pc := 33) dX12_bestWay_33 rfl (s_getI (pc := 34) dX12_bestWay_34 f_X12_239 rfl h12.1 (s_bipush (pc := 37) dX12_bestWay_37 cb_6 (s_icmp_gt (pc := 39) (tgt := 51) dX12_bestWay_39 rfl (fun c19 => have h20 := h18.1 c19; s_bipush (pc := 51) dX12_bestWay_51 cb_m13 (s_ireturn (pc := 53) dX12_bestWay_53 rfl h20.1.1 h20.1.2 ⟨_, rfl, h20.2⟩)) (fun c21 => have h22 := h18.2 c21; s_aload_n (pc := 42) dX12_bestWay_42 rfl (s_bipush (pc := 43) dX12_bestWay_43 cb_6 (s_callV (pc := 45) (As := [.int 6]) (rest := []) (d' := 0) (mc' := 0) (ms' := 0) dX12_bestWay_45 c_X12_242 (Nat.le_of_ble_eq_true rfl) rfl h12.1 rfl rfl (Nat.le_of_ble_eq_true rfl) (rm_ok rfl rfl) h22.1 (T_X4_allBelow h22.2) (kkI (fun r25 M24 h23 => s_if_ne (pc := 48) (tgt := 54) dX12_bestWay_48 rfl (fun c26 => have h27 := h23.1 c26; s_aload_n (pc := 54) dX12_bestWay_54 rfl (s_getR (pc := 55) dX12_bestWay_55 f_X12_10 rfl h27.1 (s_callV (pc := 58) (As := []) (rest := []) (d' := 1) (mc' := 0) (ms' := 0) dX12_bestWay_58 c_X12_132 (Nat.le_of_ble_eq_true rfl) rfl h27.2.1 rfl rfl (Nat.le_of_ble_eq_true rfl) (rm_ok rfl rfl) h27.2.2.1 (T_X6_isReady h27.2.2.2) (kkI (fun r32 M31 h30 => s_if_eq (pc := 61) (tgt := 73) dX12_bestWay_61 rfl (fun c33 => have h34 := h30.1 c33; s_bipush (pc := 73) dX12_bestWay_73 cb_m3 (s_ireturn (pc := 75) dX12_bestWay_75 rfl h34.1.1 h34.1.2 ⟨_, rfl, h34.2⟩)) (fun c35 => have h36 := h30.2 c35; s_aload_n (pc := 64) dX12_bestWay_64 rfl (s_aload_n (pc := 65) dX12_bestWay_65 rfl (s_iload_n (pc := 66) dX12_bestWay_66 rfl (s_callV (pc := 67) (As := [.ref r10, .int p2]) (rest := []) (d' := 13) (mc' := 6) (ms' := 6) dX12_bestWay_67 c_X12_245 (Nat.le_of_ble_eq_true rfl) rfl h36.1 rfl rfl (Nat.le_of_ble_eq_true rfl) (rm_ok rfl rfl) h36.2.1 (T_X12_placeOfBest h36.2.2) (kkI (fun r39 M38 h37 => s_goto (pc := 70) (tgt := 75) dX12_bestWay_70 rfl (s_ireturn (pc := 75) dX12_bestWay_75 rfl h37.1.1 h37.1.2 ⟨_, rfl, h37.2⟩)))))))))))) (fun c28 => have h29 := h23.2 c28; s_bipush (pc := 51) dX12_bestWay_51 cb_m13 (s_ireturn (pc := 53) dX12_bestWay_53 rfl h29.1.1 h29.1.2 ⟨_, rfl, h29.2⟩))))))))))))))) (fun c13 => have h14 := h8.2 c13; s_aload_n (pc := 19) dX12_bestWay_19 rfl (s_iload_n (pc := 20) dX12_bestWay_20 rfl (s_callV (pc := 21) (As := [.int p1]) (rest := []) (d' := 1) (mc' := 0) (ms' := 0) dX12_bestWay_21 c_X12_67 (Nat.le_of_ble_eq_true rfl) rfl h14.1 rfl rfl (Nat.le_of_ble_eq_true rfl) (rm_ok rfl rfl) h14.2.1 (T_X12_whyNot h14.2.2) (kkI (fun r42 M41 h40 => s_ireturn (pc := 24) dX12_bestWay_24 rfl h40.1.1 h40.1.2 ⟨_, rfl, h40.2⟩)))))))))))) (fun c6 => have h7 := h1.2 c6; s_iconst (pc := 7) dX12_bestWay_7 ci_m1 (s_ireturn (pc := 8) dX12_bestWay_8 rfl h7.1.1 h7.1.2 ⟨_, rfl, h7.2⟩)))))))
/-! X12_isPart -/
theorem dX12_isPart_0 : cod mX12_isPart 0 (.iload_n 0) 1 := by decide +kernel
theorem dX12_isPart_1 : cod mX12_isPart 1 (.ifCond .eq 8) 3 := by decide +kernel
theorem dX12_isPart_4 : cod mX12_isPart 4 (.iload_n 0) 1 := by decide +kernel
theorem dX12_isPart_5 : cod mX12_isPart 5 (.iconst 1) 1 := by decide +kernel
theorem dX12_isPart_6 : cod mX12_isPart 6 (.if_icmp .ne 7) 3 := by decide +kernel
theorem dX12_isPart_9 : cod mX12_isPart 9 (.iconst 1) 1 := by decide +kernel
theorem dX12_isPart_10 : cod mX12_isPart 10 (.goto 4) 3 := by decide +kernel
theorem dX12_isPart_13 : cod mX12_isPart 13 (.iconst 0) 1 := by decide +kernel
theorem dX12_isPart_14 : cod mX12_isPart 14 (.ireturn) 1 := by decide +kernel
def wp_X12_isPart (p0 : Int32) (M : Mem) (Q : Int32 → Mem → Prop) : Prop := (p0 = (0 : Int32) → Q 1 M) ∧ (¬ p0 = (0 : Int32) → (¬ p0 = (1 : Int32) → Q 0 M) ∧ (p0 = (1 : Int32) → Q 1 M))
theorem T_X12_isPart {G : GG} {Q : Int32 → Mem → Prop} {M : Mem} {p0 : Int32} (h : wp_X12_isPart p0 M Q) : PMet G mX12_isPart 0 0 0 [.int p0] M (QI Q) :=
  mk_met (by decide) rfl rfl (by
    intro w hw x9 e9
    subst e9
    simp at hw) (Nat.le_of_ble_eq_true rfl) (s_pad (L1 := [some (.int p0)]) 1 rfl (s_iload_n (pc := 0) dX12_isPart_0 rfl (s_if_eq (pc := 1) (tgt := 9) dX12_isPart_1 rfl (fun c1 => have h2 := h.1 c1; s_iconst (pc := 9) dX12_isPart_9 ci_1 (s_goto (pc := 10) (tgt := 14) dX12_isPart_10 rfl (s_zreturn (pc := 14) dX12_isPart_14 rfl (Or.inr rfl) (Nat.zero_le _) (Nat.zero_le _) ⟨_, rfl, h2⟩))) (fun c3 => have h4 := h.2 c3; s_iload_n (pc := 4) dX12_isPart_4 rfl (s_iconst (pc := 5) dX12_isPart_5 ci_1 (s_icmp_ne (pc := 6) (tgt := 13) dX12_isPart_6 rfl (fun c5 => have h6 := h4.1 c5; s_iconst (pc := 13) dX12_isPart_13 ci_0 (s_zreturn (pc := 14) dX12_isPart_14 rfl (Or.inl rfl) (Nat.zero_le _) (Nat.zero_le _) ⟨_, rfl, h6⟩)) (fun c7 => have h8 := h4.2 c7; s_iconst (pc := 9) dX12_isPart_9 ci_1 (s_goto (pc := 10) (tgt := 14) dX12_isPart_10 rfl (s_zreturn (pc := 14) dX12_isPart_14 rfl (Or.inr rfl) (Nat.zero_le _) (Nat.zero_le _) ⟨_, rfl, h8⟩)))))))))
/-! X12_wayOn -/
theorem dX12_wayOn_0 : cod mX12_wayOn 0 (.iload_n 1) 1 := by decide +kernel
theorem dX12_wayOn_1 : cod mX12_wayOn 1 (.invokestatic 295) 3 := by decide +kernel
theorem dX12_wayOn_4 : cod mX12_wayOn 4 (.ifCond .eq 15) 3 := by decide +kernel
theorem dX12_wayOn_7 : cod mX12_wayOn 7 (.aload_n 0) 1 := by decide +kernel
theorem dX12_wayOn_8 : cod mX12_wayOn 8 (.getfield 37) 3 := by decide +kernel
theorem dX12_wayOn_11 : cod mX12_wayOn 11 (.iload_n 1) 1 := by decide +kernel
theorem dX12_wayOn_12 : cod mX12_wayOn 12 (.aaload) 1 := by decide +kernel
theorem dX12_wayOn_13 : cod mX12_wayOn 13 (.getfield 364) 3 := by decide +kernel
theorem dX12_wayOn_16 : cod mX12_wayOn 16 (.goto 4) 3 := by decide +kernel
theorem dX12_wayOn_19 : cod mX12_wayOn 19 (.aconst_null) 1 := by decide +kernel
theorem dX12_wayOn_20 : cod mX12_wayOn 20 (.areturn) 1 := by decide +kernel
def wp_X12_wayOn (p0 : Nat) (p1 : Int32) (M : Mem) (Q : Nat → Mem → Prop) : Prop := wp_X12_isShelf p1 M (fun r3 M2 => (r3 = (0 : Int32) → Q 0 M2) ∧ (¬ r3 = (0 : Int32) → mK M2 p0 = 13 ∧ mK M2 (mR M2 p0 7) = 24 ∧ vp_in p1 (mN M2 (mR M2 p0 7)) ∧ mK M2 (mR M2 (mR M2 p0 7) p1.toNatClampNeg) = 5 ∧ Q (mR M2 (mR M2 (mR M2 p0 7) p1.toNatClampNeg) 0) M2))
theorem T_X12_wayOn {G : GG} {Q : Nat → Mem → Prop} {M : Mem} {p0 : Nat} {p1 : Int32} (h : wp_X12_wayOn p0 p1 M Q) : PMet G mX12_wayOn 1 0 0 [.ref p0, .int p1] M (QR Q) :=
  mk_met (by decide) rfl rfl (by
    intro w hw x9 e9
    subst e9
    simp at hw) (Nat.le_of_ble_eq_true rfl) (s_pad (L1 := [some (.ref p0), some (.int p1)]) 2 rfl (s_iload_n (pc := 0) dX12_wayOn_0 rfl (s_callS (pc := 1) (As := [.int p1]) (rest := []) (d' := 0) (mc' := 0) (ms' := 0) dX12_wayOn_1 c_X12_295 rfl rfl (Nat.le_of_ble_eq_true rfl) (rm_ok rfl rfl) ⟨Nat.le_refl 0, Nat.le_refl 0⟩ (T_X12_isShelf h) (kkI (fun r3 M2 h1 => s_if_eq (pc := 4) (tgt := 19) dX12_wayOn_4 rfl (fun c4 => have h5 := h1.1 c4; s_null (pc := 19) dX12_wayOn_19 (s_areturn (pc := 20) dX12_wayOn_20 rfl (Nat.zero_le _) (Nat.zero_le _) ⟨_, rfl, h5⟩)) (fun c6 => have h7 := h1.2 c6; s_aload_n (pc := 7) dX12_wayOn_7 rfl (s_getR (pc := 8) dX12_wayOn_8 f_X12_37 rfl h7.1 (s_iload_n (pc := 11) dX12_wayOn_11 rfl (s_aal (pc := 12) (t := 4) dX12_wayOn_12 (Nat.le_of_ble_eq_true rfl) (Nat.le_of_ble_eq_true rfl) h7.2.1 h7.2.2.1 (s_getR (pc := 13) dX12_wayOn_13 f_X12_364 rfl h7.2.2.2.1 (s_goto (pc := 16) (tgt := 20) dX12_wayOn_16 rfl (s_areturn (pc := 20) dX12_wayOn_20 rfl (Nat.zero_le _) (Nat.zero_le _) ⟨_, rfl, h7.2.2.2.2⟩))))))))))))
/-! X12_readyWayOn -/
theorem dX12_readyWayOn_0 : cod mX12_readyWayOn 0 (.aload_n 0) 1 := by decide +kernel
theorem dX12_readyWayOn_1 : cod mX12_readyWayOn 1 (.getfield 10) 3 := by decide +kernel
theorem dX12_readyWayOn_4 : cod mX12_readyWayOn 4 (.invokevirtual 132) 3 := by decide +kernel
theorem dX12_readyWayOn_7 : cod mX12_readyWayOn 7 (.ifCond .eq 11) 3 := by decide +kernel
theorem dX12_readyWayOn_10 : cod mX12_readyWayOn 10 (.aload_n 0) 1 := by decide +kernel
theorem dX12_readyWayOn_11 : cod mX12_readyWayOn 11 (.iload_n 1) 1 := by decide +kernel
theorem dX12_readyWayOn_12 : cod mX12_readyWayOn 12 (.invokevirtual 352) 3 := by decide +kernel
theorem dX12_readyWayOn_15 : cod mX12_readyWayOn 15 (.goto 4) 3 := by decide +kernel
theorem dX12_readyWayOn_18 : cod mX12_readyWayOn 18 (.aconst_null) 1 := by decide +kernel
theorem dX12_readyWayOn_19 : cod mX12_readyWayOn 19 (.areturn) 1 := by decide +kernel
def wp_X12_readyWayOn (p0 : Nat) (p1 : Int32) (M : Mem) (Q : Nat → Mem → Prop) : Prop := mK M p0 = 13 ∧ mK M (mR M p0 0) = 7 ∧ wp_X6_isReady (mR M p0 0) M (fun r3 M2 => (r3 = (0 : Int32) → Q 0 M2) ∧ (¬ r3 = (0 : Int32) → mK M2 p0 = 13 ∧ wp_X12_wayOn p0 p1 M2 (fun r10 M9 => Q r10 M9)))
theorem T_X12_readyWayOn {G : GG} {Q : Nat → Mem → Prop} {M : Mem} {p0 : Nat} {p1 : Int32} (h : wp_X12_readyWayOn p0 p1 M Q) : PMet G mX12_readyWayOn 2 0 0 [.ref p0, .int p1] M (QR Q) :=
  mk_met (by decide) rfl rfl (by
    intro w hw x9 e9
    subst e9
    simp at hw) (Nat.le_of_ble_eq_true rfl) (s_pad (L1 := [some (.ref p0), some (.int p1)]) 2 rfl (s_aload_n (pc := 0) dX12_readyWayOn_0 rfl (s_getR (pc := 1) dX12_readyWayOn_1 f_X12_10 rfl h.1 (s_callV (pc := 4) (As := []) (rest := []) (d' := 1) (mc' := 0) (ms' := 0) dX12_readyWayOn_4 c_X12_132 (Nat.le_of_ble_eq_true rfl) rfl h.2.1 rfl rfl (Nat.le_of_ble_eq_true rfl) (rm_ok rfl rfl) ⟨Nat.le_refl 0, Nat.le_refl 0⟩ (T_X6_isReady h.2.2) (kkI (fun r3 M2 h1 => s_if_eq (pc := 7) (tgt := 18) dX12_readyWayOn_7 rfl (fun c4 => have h5 := h1.1 c4; s_null (pc := 18) dX12_readyWayOn_18 (s_areturn (pc := 19) dX12_readyWayOn_19 rfl (Nat.zero_le _) (Nat.zero_le _) ⟨_, rfl, h5⟩)) (fun c6 => have h7 := h1.2 c6; s_aload_n (pc := 10) dX12_readyWayOn_10 rfl (s_iload_n (pc := 11) dX12_readyWayOn_11 rfl (s_callV (pc := 12) (As := [.int p1]) (rest := []) (d' := 1) (mc' := 0) (ms' := 0) dX12_readyWayOn_12 c_X12_352 (Nat.le_of_ble_eq_true rfl) rfl h7.1 rfl rfl (Nat.le_of_ble_eq_true rfl) (rm_ok rfl rfl) ⟨Nat.le_refl 0, Nat.le_refl 0⟩ (T_X12_wayOn h7.2) (kkR (fun r10 M9 h8 => s_goto (pc := 15) (tgt := 19) dX12_readyWayOn_15 rfl (s_areturn (pc := 19) dX12_readyWayOn_19 rfl (Nat.zero_le _) (Nat.zero_le _) ⟨_, rfl, h8⟩))))))))))))
/-! X12_whyNotReady -/
theorem dX12_whyNotReady_0 : cod mX12_whyNotReady 0 (.aload_n 0) 1 := by decide +kernel
theorem dX12_whyNotReady_1 : cod mX12_whyNotReady 1 (.iload_n 1) 1 := by decide +kernel
theorem dX12_whyNotReady_2 : cod mX12_whyNotReady 2 (.invokevirtual 352) 3 := by decide +kernel
theorem dX12_whyNotReady_5 : cod mX12_whyNotReady 5 (.ifnonnull 11) 3 := by decide +kernel
theorem dX12_whyNotReady_8 : cod mX12_whyNotReady 8 (.aload_n 0) 1 := by decide +kernel
theorem dX12_whyNotReady_9 : cod mX12_whyNotReady 9 (.iload_n 1) 1 := by decide +kernel
theorem dX12_whyNotReady_10 : cod mX12_whyNotReady 10 (.invokevirtual 67) 3 := by decide +kernel
theorem dX12_whyNotReady_13 : cod mX12_whyNotReady 13 (.goto 5) 3 := by decide +kernel
theorem dX12_whyNotReady_16 : cod mX12_whyNotReady 16 (.bipush (-3)) 2 := by decide +kernel
theorem dX12_whyNotReady_18 : cod mX12_whyNotReady 18 (.ireturn) 1 := by decide +kernel
def wp_X12_whyNotReady (p0 : Nat) (p1 : Int32) (M : Mem) (Q : Int32 → Mem → Prop) : Prop := mK M p0 = 13 ∧ wp_X12_wayOn p0 p1 M (fun r3 M2 => (¬ r3 = 0 → Q (-3) M2) ∧ (r3 = 0 → mK M2 p0 = 13 ∧ wp_X12_whyNot p0 p1 M2 (fun r10 M9 => Q r10 M9)))
theorem T_X12_whyNotReady {G : GG} {Q : Int32 → Mem → Prop} {M : Mem} {p0 : Nat} {p1 : Int32} (h : wp_X12_whyNotReady p0 p1 M Q) : PMet G mX12_whyNotReady 2 0 0 [.ref p0, .int p1] M (QI Q) :=
  mk_met (by decide) rfl rfl (by
    intro w hw x9 e9
    subst e9
    simp at hw) (Nat.le_of_ble_eq_true rfl) (s_pad (L1 := [some (.ref p0), some (.int p1)]) 2 rfl (s_aload_n (pc := 0) dX12_whyNotReady_0 rfl (s_iload_n (pc := 1) dX12_whyNotReady_1 rfl (s_callV (pc := 2) (As := [.int p1]) (rest := []) (d' := 1) (mc' := 0) (ms' := 0) dX12_whyNotReady_2 c_X12_352 (Nat.le_of_ble_eq_true rfl) rfl h.1 rfl rfl (Nat.le_of_ble_eq_true rfl) (rm_ok rfl rfl) ⟨Nat.le_refl 0, Nat.le_refl 0⟩ (T_X12_wayOn h.2) (kkR (fun r3 M2 h1 => s_ifnonnull (pc := 5) (tgt := 16) dX12_whyNotReady_5 rfl (fun c4 => have h5 := h1.1 c4; s_bipush (pc := 16) dX12_whyNotReady_16 cb_m3 (s_ireturn (pc := 18) dX12_whyNotReady_18 rfl (Nat.zero_le _) (Nat.zero_le _) ⟨_, rfl, h5⟩)) (fun c6 => have h7 := h1.2 c6; s_aload_n (pc := 8) dX12_whyNotReady_8 rfl (s_iload_n (pc := 9) dX12_whyNotReady_9 rfl (s_callV (pc := 10) (As := [.int p1]) (rest := []) (d' := 1) (mc' := 0) (ms' := 0) dX12_whyNotReady_10 c_X12_67 (Nat.le_of_ble_eq_true rfl) rfl h7.1 rfl rfl (Nat.le_of_ble_eq_true rfl) (rm_ok rfl rfl) ⟨Nat.le_refl 0, Nat.le_refl 0⟩ (T_X12_whyNot h7.2) (kkI (fun r10 M9 h8 => s_goto (pc := 13) (tgt := 18) dX12_whyNotReady_13 rfl (s_ireturn (pc := 18) dX12_whyNotReady_18 rfl (Nat.zero_le _) (Nat.zero_le _) ⟨_, rfl, h8⟩))))))))))))
/-! X12_calls -/
theorem dX12_calls_0 : cod mX12_calls 0 (.iload_n 2) 1 := by decide +kernel
theorem dX12_calls_1 : cod mX12_calls 1 (.invokestatic 89) 3 := by decide +kernel
theorem dX12_calls_4 : cod mX12_calls 4 (.ifCond .ne 5) 3 := by decide +kernel
theorem dX12_calls_7 : cod mX12_calls 7 (.iconst (-1)) 1 := by decide +kernel
theorem dX12_calls_8 : cod mX12_calls 8 (.ireturn) 1 := by decide +kernel
theorem dX12_calls_9 : cod mX12_calls 9 (.aload_n 0) 1 := by decide +kernel
theorem dX12_calls_10 : cod mX12_calls 10 (.iload_n 1) 1 := by decide +kernel
theorem dX12_calls_11 : cod mX12_calls 11 (.invokevirtual 175) 3 := by decide +kernel
theorem dX12_calls_14 : cod mX12_calls 14 (.astore_n 3) 1 := by decide +kernel
theorem dX12_calls_15 : cod mX12_calls 15 (.aload_n 3) 1 := by decide +kernel
theorem dX12_calls_16 : cod mX12_calls 16 (.ifnonnull 9) 3 := by decide +kernel
theorem dX12_calls_19 : cod mX12_calls 19 (.aload_n 0) 1 := by decide +kernel
theorem dX12_calls_20 : cod mX12_calls 20 (.iload_n 1) 1 := by decide +kernel
theorem dX12_calls_21 : cod mX12_calls 21 (.invokevirtual 179) 3 := by decide +kernel
theorem dX12_calls_24 : cod mX12_calls 24 (.ireturn) 1 := by decide +kernel
theorem dX12_calls_25 : cod mX12_calls 25 (.aload_n 3) 1 := by decide +kernel
theorem dX12_calls_26 : cod mX12_calls 26 (.aload_n 0) 1 := by decide +kernel
theorem dX12_calls_27 : cod mX12_calls 27 (.getfield 10) 3 := by decide +kernel
theorem dX12_calls_30 : cod mX12_calls 30 (.aload_n 0) 1 := by decide +kernel
theorem dX12_calls_31 : cod mX12_calls 31 (.getfield 25) 3 := by decide +kernel
theorem dX12_calls_34 : cod mX12_calls 34 (.invokevirtual 182) 3 := by decide +kernel
theorem dX12_calls_37 : cod mX12_calls 37 (.istore 4) 2 := by decide +kernel
theorem dX12_calls_39 : cod mX12_calls 39 (.iload_n 2) 1 := by decide +kernel
theorem dX12_calls_40 : cod mX12_calls 40 (.ifCond .ne 8) 3 := by decide +kernel
theorem dX12_calls_43 : cod mX12_calls 43 (.iload 4) 2 := by decide +kernel
theorem dX12_calls_45 : cod mX12_calls 45 (.goto 17) 3 := by decide +kernel
theorem dX12_calls_48 : cod mX12_calls 48 (.aload_n 3) 1 := by decide +kernel
theorem dX12_calls_49 : cod mX12_calls 49 (.aload_n 0) 1 := by decide +kernel
theorem dX12_calls_50 : cod mX12_calls 50 (.getfield 10) 3 := by decide +kernel
theorem dX12_calls_53 : cod mX12_calls 53 (.aload_n 0) 1 := by decide +kernel
theorem dX12_calls_54 : cod mX12_calls 54 (.getfield 25) 3 := by decide +kernel
theorem dX12_calls_57 : cod mX12_calls 57 (.iload 4) 2 := by decide +kernel
theorem dX12_calls_59 : cod mX12_calls 59 (.invokevirtual 188) 3 := by decide +kernel
theorem dX12_calls_62 : cod mX12_calls 62 (.ireturn) 1 := by decide +kernel
def wp_X12_calls (p0 : Nat) (p1 : Int32) (p2 : Int32) (M : Mem) (Q : Int32 → Mem → Prop) : Prop := wp_X12_isPart p2 M (fun r3 M2 => (¬ r3 = (0 : Int32) → mK M2 p0 = 13 ∧ wp_X12_readyWayOn p0 p1 M2 (fun r10 M9 => (¬ r10 = 0 → mK M9 p0 = 13 ∧ isW M9 r10 ∧ wp_X11_bid r10 (mR M9 p0 0) (mR M9 p0 3) M9 (fun r17 M16 => (¬ p2 = (0 : Int32) → mK M16 p0 = 13 ∧ isW M16 r10 ∧ wp_X11_ask r10 (mR M16 p0 0) (mR M16 p0 3) r17 M16 (fun r24 M23 => Q r24 M23)) ∧ (p2 = (0 : Int32) → Q r17 M16))) ∧ (r10 = 0 → mK M9 p0 = 13 ∧ wp_X12_whyNotReady p0 p1 M9 (fun r27 M26 => Q r27 M26)))) ∧ (r3 = (0 : Int32) → Q (-1) M2))
theorem T_X12_calls {G : GG} {Q : Int32 → Mem → Prop} {M : Mem} {p0 : Nat} {p1 : Int32} {p2 : Int32} (h : wp_X12_calls p0 p1 p2 M Q) : PMet G mX12_calls 4 0 0 [.ref p0, .int p1, .int p2] M (QI Q) :=
  mk_met (by decide) rfl rfl (by
    intro w hw x9 e9
    subst e9
    simp at hw) (Nat.le_of_ble_eq_true rfl) (s_pad (L1 := [some (.ref p0), some (.int p1), some (.int p2), none, none]) 5 rfl (s_iload_n (pc := 0) dX12_calls_0 rfl (s_callS (pc := 1) (As := [.int p2]) (rest := []) (d' := 0) (mc' := 0) (ms' := 0) dX12_calls_1 c_X12_89 rfl rfl (Nat.le_of_ble_eq_true rfl) (rm_ok rfl rfl) ⟨Nat.le_refl 0, Nat.le_refl 0⟩ (T_X12_isPart h) (kkI (fun r3 M2 h1 => s_if_ne (pc := 4) (tgt := 9) dX12_calls_4 rfl (fun c4 => have h5 := h1.1 c4; s_aload_n (pc := 9) dX12_calls_9 rfl (s_iload_n (pc := 10) dX12_calls_10 rfl (s_callV (pc := 11) (As := [.int p1]) (rest := []) (d' := 2) (mc' := 0) (ms' := 0) dX12_calls_11 c_X12_175 (Nat.le_of_ble_eq_true rfl) rfl h5.1 rfl rfl (Nat.le_of_ble_eq_true rfl) (rm_ok rfl rfl) ⟨Nat.le_refl 0, Nat.le_refl 0⟩ (T_X12_readyWayOn h5.2) (kkR (fun r10 M9 h8 => s_astore_n (pc := 14) (L1 := [some (.ref p0), some (.int p1), some (.int p2), some (.ref r10), none]) dX12_calls_14 (Nat.le_of_ble_eq_true rfl) rfl (s_aload_n (pc := 15) dX12_calls_15 rfl (s_ifnonnull (pc := 16) (tgt := 25) dX12_calls_16 rfl (fun c11 => have h12 := h8.1 c11; s_aload_n (pc := 25) dX12_calls_25 rfl (s_aload_n (pc := 26) dX12_calls_26 rfl (s_getR (pc := 27) dX12_calls_27 f_X12_10 rfl h12.1 (s_aload_n (pc := 30) dX12_calls_30 rfl (s_getR (pc := 31) dX12_calls_31 f_X12_25 rfl h12.1 (s_callW (pc := 34) (Q' := QI (fun r17 M16 => (¬ p2 = (0 : Int32) → mK M16 p0 = 13 ∧ isW M16 r10 ∧ wp_X11_ask r10 (mR M16 p0 0) (mR M16 p0 3) r17 M16 (fun r24 M23 => Q r24 M23)) ∧ (p2 = (0 : Int32) → Q r17 M16))) (As := [.ref (mR M9 p0 0), .ref (mR M9 p0 3)]) (rest := []) dX12_calls_34 h12.2.1 rfl rfl (Nat.le_of_ble_eq_true rfl) (by
    intro c hc6 hk
    rcases hc6 with rfl | rfl | rfl | rfl | rfl | rfl
    · exact ⟨mX11_bid, 3, Or.inl ⟨c_X12_182, rfl⟩, rm_ok rfl rfl, T_X11_bid h12.2.2⟩
    · exact ⟨mX11_bid, 3, Or.inr ⟨mX11_bid, c_X12_182_2⟩, rm_ok rfl rfl, T_X11_bid h12.2.2⟩
    · exact ⟨mX11_bid, 3, Or.inr ⟨mX11_bid, c_X12_182_3⟩, rm_ok rfl rfl, T_X11_bid h12.2.2⟩
    · exact ⟨mX11_bid, 3, Or.inr ⟨mX11_bid, c_X12_182_8⟩, rm_ok rfl rfl, T_X11_bid h12.2.2⟩
    · exact ⟨mX11_bid, 3, Or.inr ⟨mX11_bid, c_X12_182_1⟩, rm_ok rfl rfl, T_X11_bid h12.2.2⟩
    · exact ⟨mX11_bid, 3, Or.inr ⟨mX11_bid, c_X12_182_10⟩, rm_ok rfl rfl, T_X11_bid h12.2.2⟩) ⟨Nat.le_refl 0, Nat.le_refl 0⟩ (kkI (fun r17 M16 h15 => s_istore (pc := 37) (L1 := [some (.ref p0), some (.int p1), some (.int p2), some (.ref r10), some (.int r17)]) dX12_calls_37 (Nat.le_of_ble_eq_true rfl) rfl (s_iload_n (pc := 39) dX12_calls_39 rfl (s_if_ne (pc := 40) (tgt := 48) dX12_calls_40 rfl (fun c18 => have h19 := h15.1 c18; s_aload_n (pc := 48) dX12_calls_48 rfl (s_aload_n (pc := 49) dX12_calls_49 rfl (s_getR (pc := 50) dX12_calls_50 f_X12_10 rfl h19.1 (s_aload_n (pc := 53) dX12_calls_53 rfl (s_getR (pc := 54) dX12_calls_54 f_X12_25 rfl h19.1 (s_iload (pc := 57) dX12_calls_57 rfl (s_callW (pc := 59) (Q' := QI (fun r24 M23 => Q r24 M23)) (As := [.ref (mR M16 p0 0), .ref (mR M16 p0 3), .int r17]) (rest := []) dX12_calls_59 h19.2.1 rfl rfl (Nat.le_of_ble_eq_true rfl) (by
    intro c hc6 hk
    rcases hc6 with rfl | rfl | rfl | rfl | rfl | rfl
    · exact ⟨mX11_ask, 3, Or.inl ⟨c_X12_188, rfl⟩, rm_ok rfl rfl, T_X11_ask h19.2.2⟩
    · exact ⟨mX11_ask, 3, Or.inr ⟨mX11_ask, c_X12_188_2⟩, rm_ok rfl rfl, T_X11_ask h19.2.2⟩
    · exact ⟨mX11_ask, 3, Or.inr ⟨mX11_ask, c_X12_188_3⟩, rm_ok rfl rfl, T_X11_ask h19.2.2⟩
    · exact ⟨mX11_ask, 3, Or.inr ⟨mX11_ask, c_X12_188_8⟩, rm_ok rfl rfl, T_X11_ask h19.2.2⟩
    · exact ⟨mX11_ask, 3, Or.inr ⟨mX11_ask, c_X12_188_1⟩, rm_ok rfl rfl, T_X11_ask h19.2.2⟩
    · exact ⟨mX11_ask, 3, Or.inr ⟨mX11_ask, c_X12_188_10⟩, rm_ok rfl rfl, T_X11_ask h19.2.2⟩) ⟨Nat.le_refl 0, Nat.le_refl 0⟩ (kkI (fun r24 M23 h22 => s_ireturn (pc := 62) dX12_calls_62 rfl (Nat.zero_le _) (Nat.zero_le _) ⟨_, rfl, h22⟩))))))))) (fun c20 => have h21 := h15.2 c20; s_iload (pc := 43) dX12_calls_43 rfl (s_goto (pc := 45) (tgt := 62) dX12_calls_45 rfl (s_ireturn (pc := 62) dX12_calls_62 rfl (Nat.zero_le _) (Nat.zero_le _) ⟨_, rfl, h21⟩))))))))))))) (fun c13 => have h14 := h8.2 c13; s_aload_n (pc := 19) dX12_calls_19 rfl (s_iload_n (pc := 20) dX12_calls_20 rfl (s_callV (pc := 21) (As := [.int p1]) (rest := []) (d' := 2) (mc' := 0) (ms' := 0) dX12_calls_21 c_X12_179 (Nat.le_of_ble_eq_true rfl) rfl h14.1 rfl rfl (Nat.le_of_ble_eq_true rfl) (rm_ok rfl rfl) ⟨Nat.le_refl 0, Nat.le_refl 0⟩ (T_X12_whyNotReady h14.2) (kkI (fun r27 M26 h25 => s_ireturn (pc := 24) dX12_calls_24 rfl (Nat.zero_le _) (Nat.zero_le _) ⟨_, rfl, h25⟩)))))))))))) (fun c6 => have h7 := h1.2 c6; s_iconst (pc := 7) dX12_calls_7 ci_m1 (s_ireturn (pc := 8) dX12_calls_8 rfl (Nat.zero_le _) (Nat.zero_le _) ⟨_, rfl, h7⟩)))))))
/-! X12_isEvent -/
theorem dX12_isEvent_0 : cod mX12_isEvent 0 (.iload_n 0) 1 := by decide +kernel
theorem dX12_isEvent_1 : cod mX12_isEvent 1 (.ifCond .lt 12) 3 := by decide +kernel
theorem dX12_isEvent_4 : cod mX12_isEvent 4 (.iload_n 0) 1 := by decide +kernel
theorem dX12_isEvent_5 : cod mX12_isEvent 5 (.iconst 2) 1 := by decide +kernel
theorem dX12_isEvent_6 : cod mX12_isEvent 6 (.if_icmp .gt 7) 3 := by decide +kernel
theorem dX12_isEvent_9 : cod mX12_isEvent 9 (.iconst 1) 1 := by decide +kernel
theorem dX12_isEvent_10 : cod mX12_isEvent 10 (.goto 4) 3 := by decide +kernel
theorem dX12_isEvent_13 : cod mX12_isEvent 13 (.iconst 0) 1 := by decide +kernel
theorem dX12_isEvent_14 : cod mX12_isEvent 14 (.ireturn) 1 := by decide +kernel
def wp_X12_isEvent (p0 : Int32) (M : Mem) (Q : Int32 → Mem → Prop) : Prop := (p0 < (0 : Int32) → Q 0 M) ∧ (¬ p0 < (0 : Int32) → ((2 : Int32) < p0 → Q 0 M) ∧ (¬ (2 : Int32) < p0 → Q 1 M))
theorem T_X12_isEvent {G : GG} {Q : Int32 → Mem → Prop} {M : Mem} {p0 : Int32} (h : wp_X12_isEvent p0 M Q) : PMet G mX12_isEvent 0 0 0 [.int p0] M (QI Q) :=
  mk_met (by decide) rfl rfl (by
    intro w hw x9 e9
    subst e9
    simp at hw) (Nat.le_of_ble_eq_true rfl) (s_pad (L1 := [some (.int p0)]) 1 rfl (s_iload_n (pc := 0) dX12_isEvent_0 rfl (s_if_lt (pc := 1) (tgt := 13) dX12_isEvent_1 rfl (fun c1 => have h2 := h.1 c1; s_iconst (pc := 13) dX12_isEvent_13 ci_0 (s_zreturn (pc := 14) dX12_isEvent_14 rfl (Or.inl rfl) (Nat.zero_le _) (Nat.zero_le _) ⟨_, rfl, h2⟩)) (fun c3 => have h4 := h.2 c3; s_iload_n (pc := 4) dX12_isEvent_4 rfl (s_iconst (pc := 5) dX12_isEvent_5 ci_2 (s_icmp_gt (pc := 6) (tgt := 13) dX12_isEvent_6 rfl (fun c5 => have h6 := h4.1 c5; s_iconst (pc := 13) dX12_isEvent_13 ci_0 (s_zreturn (pc := 14) dX12_isEvent_14 rfl (Or.inl rfl) (Nat.zero_le _) (Nat.zero_le _) ⟨_, rfl, h6⟩)) (fun c7 => have h8 := h4.2 c7; s_iconst (pc := 9) dX12_isEvent_9 ci_1 (s_goto (pc := 10) (tgt := 14) dX12_isEvent_10 rfl (s_zreturn (pc := 14) dX12_isEvent_14 rfl (Or.inr rfl) (Nat.zero_le _) (Nat.zero_le _) ⟨_, rfl, h8⟩)))))))))
/-! X12_isWorth -/
theorem dX12_isWorth_0 : cod mX12_isWorth 0 (.iload_n 1) 1 := by decide +kernel
theorem dX12_isWorth_1 : cod mX12_isWorth 1 (.ifCond .lt 18) 3 := by decide +kernel
theorem dX12_isWorth_4 : cod mX12_isWorth 4 (.iload_n 1) 1 := by decide +kernel
theorem dX12_isWorth_5 : cod mX12_isWorth 5 (.aload_n 0) 1 := by decide +kernel
theorem dX12_isWorth_6 : cod mX12_isWorth 6 (.getfield 10) 3 := by decide +kernel
theorem dX12_isWorth_9 : cod mX12_isWorth 9 (.getfield 279) 3 := by decide +kernel
theorem dX12_isWorth_12 : cod mX12_isWorth 12 (.if_icmp .ge 7) 3 := by decide +kernel
theorem dX12_isWorth_15 : cod mX12_isWorth 15 (.iconst 1) 1 := by decide +kernel
theorem dX12_isWorth_16 : cod mX12_isWorth 16 (.goto 4) 3 := by decide +kernel
theorem dX12_isWorth_19 : cod mX12_isWorth 19 (.iconst 0) 1 := by decide +kernel
theorem dX12_isWorth_20 : cod mX12_isWorth 20 (.ireturn) 1 := by decide +kernel
def wp_X12_isWorth (p0 : Nat) (p1 : Int32) (M : Mem) (Q : Int32 → Mem → Prop) : Prop := (p1 < (0 : Int32) → Q 0 M) ∧ (¬ p1 < (0 : Int32) → mK M p0 = 13 ∧ mK M (mR M p0 0) = 7 ∧ ((mI M (mR M p0 0) 0) ≤ p1 → Q 0 M) ∧ (¬ (mI M (mR M p0 0) 0) ≤ p1 → Q 1 M))
theorem T_X12_isWorth {G : GG} {Q : Int32 → Mem → Prop} {M : Mem} {p0 : Nat} {p1 : Int32} (h : wp_X12_isWorth p0 p1 M Q) : PMet G mX12_isWorth 0 0 0 [.ref p0, .int p1] M (QI Q) :=
  mk_met (by decide) rfl rfl (by
    intro w hw x9 e9
    subst e9
    simp at hw) (Nat.le_of_ble_eq_true rfl) (s_pad (L1 := [some (.ref p0), some (.int p1)]) 2 rfl (s_iload_n (pc := 0) dX12_isWorth_0 rfl (s_if_lt (pc := 1) (tgt := 19) dX12_isWorth_1 rfl (fun c1 => have h2 := h.1 c1; s_iconst (pc := 19) dX12_isWorth_19 ci_0 (s_zreturn (pc := 20) dX12_isWorth_20 rfl (Or.inl rfl) (Nat.zero_le _) (Nat.zero_le _) ⟨_, rfl, h2⟩)) (fun c3 => have h4 := h.2 c3; s_iload_n (pc := 4) dX12_isWorth_4 rfl (s_aload_n (pc := 5) dX12_isWorth_5 rfl (s_getR (pc := 6) dX12_isWorth_6 f_X12_10 rfl h4.1 (s_getI (pc := 9) dX12_isWorth_9 f_X12_279 rfl h4.2.1 (s_icmp_ge (pc := 12) (tgt := 19) dX12_isWorth_12 rfl (fun c5 => have h6 := h4.2.2.1 c5; s_iconst (pc := 19) dX12_isWorth_19 ci_0 (s_zreturn (pc := 20) dX12_isWorth_20 rfl (Or.inl rfl) (Nat.zero_le _) (Nat.zero_le _) ⟨_, rfl, h6⟩)) (fun c7 => have h8 := h4.2.2.2 c7; s_iconst (pc := 15) dX12_isWorth_15 ci_1 (s_goto (pc := 16) (tgt := 20) dX12_isWorth_16 rfl (s_zreturn (pc := 20) dX12_isWorth_20 rfl (Or.inr rfl) (Nat.zero_le _) (Nat.zero_le _) ⟨_, rfl, h8⟩)))))))))))
/-! X12_chance -/
theorem dX12_chance_0 : cod mX12_chance 0 (.iload_n 1) 1 := by decide +kernel
theorem dX12_chance_1 : cod mX12_chance 1 (.invokestatic 125) 3 := by decide +kernel
theorem dX12_chance_4 : cod mX12_chance 4 (.ifCond .eq 20) 3 := by decide +kernel
theorem dX12_chance_7 : cod mX12_chance 7 (.aload_n 0) 1 := by decide +kernel
theorem dX12_chance_8 : cod mX12_chance 8 (.iload_n 2) 1 := by decide +kernel
theorem dX12_chance_9 : cod mX12_chance 9 (.invokevirtual 85) 3 := by decide +kernel
theorem dX12_chance_12 : cod mX12_chance 12 (.ifCond .eq 12) 3 := by decide +kernel
theorem dX12_chance_15 : cod mX12_chance 15 (.iload_n 3) 1 := by decide +kernel
theorem dX12_chance_16 : cod mX12_chance 16 (.iload 4) 2 := by decide +kernel
theorem dX12_chance_18 : cod mX12_chance 18 (.invokestatic 118) 3 := by decide +kernel
theorem dX12_chance_21 : cod mX12_chance 21 (.ifCond .ne 5) 3 := by decide +kernel
theorem dX12_chance_24 : cod mX12_chance 24 (.iconst (-1)) 1 := by decide +kernel
theorem dX12_chance_25 : cod mX12_chance 25 (.ireturn) 1 := by decide +kernel
theorem dX12_chance_26 : cod mX12_chance 26 (.aload_n 0) 1 := by decide +kernel
theorem dX12_chance_27 : cod mX12_chance 27 (.getfield 25) 3 := by decide +kernel
theorem dX12_chance_30 : cod mX12_chance 30 (.aload_n 0) 1 := by decide +kernel
theorem dX12_chance_31 : cod mX12_chance 31 (.getfield 10) 3 := by decide +kernel
theorem dX12_chance_34 : cod mX12_chance 34 (.iload_n 1) 1 := by decide +kernel
theorem dX12_chance_35 : cod mX12_chance 35 (.iload_n 2) 1 := by decide +kernel
theorem dX12_chance_36 : cod mX12_chance 36 (.iload_n 3) 1 := by decide +kernel
theorem dX12_chance_37 : cod mX12_chance 37 (.iload 4) 2 := by decide +kernel
theorem dX12_chance_39 : cod mX12_chance 39 (.invokevirtual 128) 3 := by decide +kernel
theorem dX12_chance_42 : cod mX12_chance 42 (.ireturn) 1 := by decide +kernel
def wp_X12_chance (p0 : Nat) (p1 : Int32) (p2 : Int32) (p3 : Int32) (p4 : Int32) (M : Mem) (Q : Int32 → Mem → Prop) : Prop := wp_X12_isEvent p1 M (fun r3 M2 => (r3 = (0 : Int32) → Q (-1) M2) ∧ (¬ r3 = (0 : Int32) → mK M2 p0 = 13 ∧ wp_X12_isWorth p0 p2 M2 (fun r10 M9 => (r10 = (0 : Int32) → Q (-1) M9) ∧ (¬ r10 = (0 : Int32) → wp_X12_isSlate p3 p4 M9 (fun r17 M16 => (¬ r17 = (0 : Int32) → mK M16 p0 = 13 ∧ mK M16 (mR M16 p0 3) = 10 ∧ wp_X9_oddsOf (mR M16 p0 3) (mR M16 p0 0) p1 p2 p3 p4 M16 (fun r24 M23 => Q r24 M23)) ∧ (r17 = (0 : Int32) → Q (-1) M16))))))
theorem T_X12_chance {G : GG} {Q : Int32 → Mem → Prop} {M : Mem} {p0 : Nat} {p1 : Int32} {p2 : Int32} {p3 : Int32} {p4 : Int32} (h : wp_X12_chance p0 p1 p2 p3 p4 M Q) : PMet G mX12_chance 1 0 0 [.ref p0, .int p1, .int p2, .int p3, .int p4] M (QI Q) :=
  mk_met (by decide) rfl rfl (by
    intro w hw x9 e9
    subst e9
    simp at hw) (Nat.le_of_ble_eq_true rfl) (s_pad (L1 := [some (.ref p0), some (.int p1), some (.int p2), some (.int p3), some (.int p4)]) 5 rfl (s_iload_n (pc := 0) dX12_chance_0 rfl (s_callS (pc := 1) (As := [.int p1]) (rest := []) (d' := 0) (mc' := 0) (ms' := 0) dX12_chance_1 c_X12_125 rfl rfl (Nat.le_of_ble_eq_true rfl) (rm_ok rfl rfl) ⟨Nat.le_refl 0, Nat.le_refl 0⟩ (T_X12_isEvent h) (kkI (fun r3 M2 h1 => s_if_eq (pc := 4) (tgt := 24) dX12_chance_4 rfl (fun c4 => have h5 := h1.1 c4; s_iconst (pc := 24) dX12_chance_24 ci_m1 (s_ireturn (pc := 25) dX12_chance_25 rfl (Nat.zero_le _) (Nat.zero_le _) ⟨_, rfl, h5⟩)) (fun c6 => have h7 := h1.2 c6; s_aload_n (pc := 7) dX12_chance_7 rfl (s_iload_n (pc := 8) dX12_chance_8 rfl (s_callV (pc := 9) (As := [.int p2]) (rest := []) (d' := 0) (mc' := 0) (ms' := 0) dX12_chance_9 c_X12_85 (Nat.le_of_ble_eq_true rfl) rfl h7.1 rfl rfl (Nat.le_of_ble_eq_true rfl) (rm_ok rfl rfl) ⟨Nat.le_refl 0, Nat.le_refl 0⟩ (T_X12_isWorth h7.2) (kkI (fun r10 M9 h8 => s_if_eq (pc := 12) (tgt := 24) dX12_chance_12 rfl (fun c11 => have h12 := h8.1 c11; s_iconst (pc := 24) dX12_chance_24 ci_m1 (s_ireturn (pc := 25) dX12_chance_25 rfl (Nat.zero_le _) (Nat.zero_le _) ⟨_, rfl, h12⟩)) (fun c13 => have h14 := h8.2 c13; s_iload_n (pc := 15) dX12_chance_15 rfl (s_iload (pc := 16) dX12_chance_16 rfl (s_callS (pc := 18) (As := [.int p3, .int p4]) (rest := []) (d' := 0) (mc' := 0) (ms' := 0) dX12_chance_18 c_X12_118 rfl rfl (Nat.le_of_ble_eq_true rfl) (rm_ok rfl rfl) ⟨Nat.le_refl 0, Nat.le_refl 0⟩ (T_X12_isSlate h14) (kkI (fun r17 M16 h15 => s_if_ne (pc := 21) (tgt := 26) dX12_chance_21 rfl (fun c18 => have h19 := h15.1 c18; s_aload_n (pc := 26) dX12_chance_26 rfl (s_getR (pc := 27) dX12_chance_27 f_X12_25 rfl h19.1 (s_aload_n (pc := 30) dX12_chance_30 rfl (s_getR (pc := 31) dX12_chance_31 f_X12_10 rfl h19.1 (s_iload_n (pc := 34) dX12_chance_34 rfl (s_iload_n (pc := 35) dX12_chance_35 rfl (s_iload_n (pc := 36) dX12_chance_36 rfl (s_iload (pc := 37) dX12_chance_37 rfl (s_callV (pc := 39) (As := [.ref (mR M16 p0 0), .int p1, .int p2, .int p3, .int p4]) (rest := []) (d' := 0) (mc' := 0) (ms' := 0) dX12_chance_39 c_X12_128 (Nat.le_of_ble_eq_true rfl) rfl h19.2.1 rfl rfl (Nat.le_of_ble_eq_true rfl) (rm_ok rfl rfl) ⟨Nat.le_refl 0, Nat.le_refl 0⟩ (T_X9_oddsOf h19.2.2) (kkI (fun r24 M23 h22 => s_ireturn (pc := 42) dX12_chance_42 rfl (Nat.zero_le _) (Nat.zero_le _) ⟨_, rfl, h22⟩))))))))))) (fun c20 => have h21 := h15.2 c20; s_iconst (pc := 24) dX12_chance_24 ci_m1 (s_ireturn (pc := 25) dX12_chance_25 rfl (Nat.zero_le _) (Nat.zero_le _) ⟨_, rfl, h21⟩)))))))))))))))))
/-! X4_hasPlaces -/
theorem dX4_hasPlaces_0 : cod mX4_hasPlaces 0 (.iload_n 1) 1 := by decide +kernel
theorem dX4_hasPlaces_1 : cod mX4_hasPlaces 1 (.ifCond .lt 29) 3 := by decide +kernel
theorem dX4_hasPlaces_4 : cod mX4_hasPlaces 4 (.iload_n 2) 1 := by decide +kernel
theorem dX4_hasPlaces_5 : cod mX4_hasPlaces 5 (.ifCond .lt 25) 3 := by decide +kernel
theorem dX4_hasPlaces_8 : cod mX4_hasPlaces 8 (.iload_n 1) 1 := by decide +kernel
theorem dX4_hasPlaces_9 : cod mX4_hasPlaces 9 (.aload_n 0) 1 := by decide +kernel
theorem dX4_hasPlaces_10 : cod mX4_hasPlaces 10 (.getfield 23) 3 := by decide +kernel
theorem dX4_hasPlaces_13 : cod mX4_hasPlaces 13 (.if_icmp .gt 17) 3 := by decide +kernel
theorem dX4_hasPlaces_16 : cod mX4_hasPlaces 16 (.iload_n 2) 1 := by decide +kernel
theorem dX4_hasPlaces_17 : cod mX4_hasPlaces 17 (.aload_n 0) 1 := by decide +kernel
theorem dX4_hasPlaces_18 : cod mX4_hasPlaces 18 (.getfield 23) 3 := by decide +kernel
theorem dX4_hasPlaces_21 : cod mX4_hasPlaces 21 (.iload_n 1) 1 := by decide +kernel
theorem dX4_hasPlaces_22 : cod mX4_hasPlaces 22 (.isub) 1 := by decide +kernel
theorem dX4_hasPlaces_23 : cod mX4_hasPlaces 23 (.if_icmp .gt 7) 3 := by decide +kernel
theorem dX4_hasPlaces_26 : cod mX4_hasPlaces 26 (.iconst 1) 1 := by decide +kernel
theorem dX4_hasPlaces_27 : cod mX4_hasPlaces 27 (.goto 4) 3 := by decide +kernel
theorem dX4_hasPlaces_30 : cod mX4_hasPlaces 30 (.iconst 0) 1 := by decide +kernel
theorem dX4_hasPlaces_31 : cod mX4_hasPlaces 31 (.ireturn) 1 := by decide +kernel
def wp_X4_hasPlaces (p0 : Nat) (p1 : Int32) (p2 : Int32) (M : Mem) (Q : Int32 → Mem → Prop) : Prop := (p1 < (0 : Int32) → Q 0 M) ∧ (¬ p1 < (0 : Int32) → (p2 < (0 : Int32) → Q 0 M) ∧ (¬ p2 < (0 : Int32) → mK M p0 = 5 ∧ ((mI M p0 2) < p1 → Q 0 M) ∧ (¬ (mI M p0 2) < p1 → (((mI M p0 2) - p1) < p2 → Q 0 M) ∧ (¬ ((mI M p0 2) - p1) < p2 → Q 1 M))))
theorem T_X4_hasPlaces {G : GG} {Q : Int32 → Mem → Prop} {M : Mem} {p0 : Nat} {p1 : Int32} {p2 : Int32} (h : wp_X4_hasPlaces p0 p1 p2 M Q) : PMet G mX4_hasPlaces 0 0 0 [.ref p0, .int p1, .int p2] M (QI Q) :=
  mk_met (by decide) rfl rfl (by
    intro w hw x9 e9
    subst e9
    simp at hw) (Nat.le_of_ble_eq_true rfl) (s_pad (L1 := [some (.ref p0), some (.int p1), some (.int p2)]) 3 rfl (s_iload_n (pc := 0) dX4_hasPlaces_0 rfl (s_if_lt (pc := 1) (tgt := 30) dX4_hasPlaces_1 rfl (fun c1 => have h2 := h.1 c1; s_iconst (pc := 30) dX4_hasPlaces_30 ci_0 (s_zreturn (pc := 31) dX4_hasPlaces_31 rfl (Or.inl rfl) (Nat.zero_le _) (Nat.zero_le _) ⟨_, rfl, h2⟩)) (fun c3 => have h4 := h.2 c3; s_iload_n (pc := 4) dX4_hasPlaces_4 rfl (s_if_lt (pc := 5) (tgt := 30) dX4_hasPlaces_5 rfl (fun c5 => have h6 := h4.1 c5; s_iconst (pc := 30) dX4_hasPlaces_30 ci_0 (s_zreturn (pc := 31) dX4_hasPlaces_31 rfl (Or.inl rfl) (Nat.zero_le _) (Nat.zero_le _) ⟨_, rfl, h6⟩)) (fun c7 => have h8 := h4.2 c7; s_iload_n (pc := 8) dX4_hasPlaces_8 rfl (s_aload_n (pc := 9) dX4_hasPlaces_9 rfl (s_getI (pc := 10) dX4_hasPlaces_10 f_X4_23 rfl h8.1 (s_icmp_gt (pc := 13) (tgt := 30) dX4_hasPlaces_13 rfl (fun c9 => have h10 := h8.2.1 c9; s_iconst (pc := 30) dX4_hasPlaces_30 ci_0 (s_zreturn (pc := 31) dX4_hasPlaces_31 rfl (Or.inl rfl) (Nat.zero_le _) (Nat.zero_le _) ⟨_, rfl, h10⟩)) (fun c11 => have h12 := h8.2.2 c11; s_iload_n (pc := 16) dX4_hasPlaces_16 rfl (s_aload_n (pc := 17) dX4_hasPlaces_17 rfl (s_getI (pc := 18) dX4_hasPlaces_18 f_X4_23 rfl h8.1 (s_iload_n (pc := 21) dX4_hasPlaces_21 rfl (s_isub (pc := 22) dX4_hasPlaces_22 (s_icmp_gt (pc := 23) (tgt := 30) dX4_hasPlaces_23 rfl (fun c13 => have h14 := h12.1 c13; s_iconst (pc := 30) dX4_hasPlaces_30 ci_0 (s_zreturn (pc := 31) dX4_hasPlaces_31 rfl (Or.inl rfl) (Nat.zero_le _) (Nat.zero_le _) ⟨_, rfl, h14⟩)) (fun c15 => have h16 := h12.2 c15; s_iconst (pc := 26) dX4_hasPlaces_26 ci_1 (s_goto (pc := 27) (tgt := 31) dX4_hasPlaces_27 rfl (s_zreturn (pc := 31) dX4_hasPlaces_31 rfl (Or.inr rfl) (Nat.zero_le _) (Nat.zero_le _) ⟨_, rfl, h16⟩))))))))))))))))))
/-! X12_copy -/
theorem dX12_copy_0 : cod mX12_copy 0 (.iload_n 1) 1 := by decide +kernel
theorem dX12_copy_1 : cod mX12_copy 1 (.invokestatic 295) 3 := by decide +kernel
theorem dX12_copy_4 : cod mX12_copy 4 (.ifCond .eq 10) 3 := by decide +kernel
theorem dX12_copy_7 : cod mX12_copy 7 (.iload_n 3) 1 := by decide +kernel
theorem dX12_copy_8 : cod mX12_copy 8 (.invokestatic 295) 3 := by decide +kernel
theorem dX12_copy_11 : cod mX12_copy 11 (.ifCond .ne 5) 3 := by decide +kernel
theorem dX12_copy_14 : cod mX12_copy 14 (.iconst (-1)) 1 := by decide +kernel
theorem dX12_copy_15 : cod mX12_copy 15 (.ireturn) 1 := by decide +kernel
theorem dX12_copy_16 : cod mX12_copy 16 (.aload_n 0) 1 := by decide +kernel
theorem dX12_copy_17 : cod mX12_copy 17 (.getfield 37) 3 := by decide +kernel
theorem dX12_copy_20 : cod mX12_copy 20 (.iload_n 1) 1 := by decide +kernel
theorem dX12_copy_21 : cod mX12_copy 21 (.aaload) 1 := by decide +kernel
theorem dX12_copy_22 : cod mX12_copy 22 (.invokevirtual 337) 3 := by decide +kernel
theorem dX12_copy_25 : cod mX12_copy 25 (.ifCond .ne 15) 3 := by decide +kernel
theorem dX12_copy_28 : cod mX12_copy 28 (.aload_n 0) 1 := by decide +kernel
theorem dX12_copy_29 : cod mX12_copy 29 (.getfield 37) 3 := by decide +kernel
theorem dX12_copy_32 : cod mX12_copy 32 (.iload_n 3) 1 := by decide +kernel
theorem dX12_copy_33 : cod mX12_copy 33 (.aaload) 1 := by decide +kernel
theorem dX12_copy_34 : cod mX12_copy 34 (.invokevirtual 337) 3 := by decide +kernel
theorem dX12_copy_37 : cod mX12_copy 37 (.ifCond .eq 6) 3 := by decide +kernel
theorem dX12_copy_40 : cod mX12_copy 40 (.bipush (-11)) 2 := by decide +kernel
theorem dX12_copy_42 : cod mX12_copy 42 (.ireturn) 1 := by decide +kernel
theorem dX12_copy_43 : cod mX12_copy 43 (.aload_n 0) 1 := by decide +kernel
theorem dX12_copy_44 : cod mX12_copy 44 (.iload_n 1) 1 := by decide +kernel
theorem dX12_copy_45 : cod mX12_copy 45 (.invokevirtual 313) 3 := by decide +kernel
theorem dX12_copy_48 : cod mX12_copy 48 (.astore 6) 2 := by decide +kernel
theorem dX12_copy_50 : cod mX12_copy 50 (.aload_n 0) 1 := by decide +kernel
theorem dX12_copy_51 : cod mX12_copy 51 (.iload_n 3) 1 := by decide +kernel
theorem dX12_copy_52 : cod mX12_copy 52 (.invokevirtual 313) 3 := by decide +kernel
theorem dX12_copy_55 : cod mX12_copy 55 (.astore 7) 2 := by decide +kernel
theorem dX12_copy_57 : cod mX12_copy 57 (.aload 6) 2 := by decide +kernel
theorem dX12_copy_59 : cod mX12_copy 59 (.ifnull 21) 3 := by decide +kernel
theorem dX12_copy_62 : cod mX12_copy 62 (.aload 7) 2 := by decide +kernel
theorem dX12_copy_64 : cod mX12_copy 64 (.ifnull 16) 3 := by decide +kernel
theorem dX12_copy_67 : cod mX12_copy 67 (.aload 6) 2 := by decide +kernel
theorem dX12_copy_69 : cod mX12_copy 69 (.getfield 340) 3 := by decide +kernel
theorem dX12_copy_72 : cod mX12_copy 72 (.aload 7) 2 := by decide +kernel
theorem dX12_copy_74 : cod mX12_copy 74 (.getfield 340) 3 := by decide +kernel
theorem dX12_copy_77 : cod mX12_copy 77 (.if_icmp .eq 6) 3 := by decide +kernel
theorem dX12_copy_80 : cod mX12_copy 80 (.bipush (-12)) 2 := by decide +kernel
theorem dX12_copy_82 : cod mX12_copy 82 (.ireturn) 1 := by decide +kernel
theorem dX12_copy_83 : cod mX12_copy 83 (.aload 6) 2 := by decide +kernel
theorem dX12_copy_85 : cod mX12_copy 85 (.iload_n 2) 1 := by decide +kernel
theorem dX12_copy_86 : cod mX12_copy 86 (.iload 5) 2 := by decide +kernel
theorem dX12_copy_88 : cod mX12_copy 88 (.invokevirtual 343) 3 := by decide +kernel
theorem dX12_copy_91 : cod mX12_copy 91 (.ifCond .eq 15) 3 := by decide +kernel
theorem dX12_copy_94 : cod mX12_copy 94 (.aload 7) 2 := by decide +kernel
theorem dX12_copy_96 : cod mX12_copy 96 (.iload 4) 2 := by decide +kernel
theorem dX12_copy_98 : cod mX12_copy 98 (.iload 5) 2 := by decide +kernel
theorem dX12_copy_100 : cod mX12_copy 100 (.invokevirtual 343) 3 := by decide +kernel
theorem dX12_copy_103 : cod mX12_copy 103 (.ifCond .ne 6) 3 := by decide +kernel
theorem dX12_copy_106 : cod mX12_copy 106 (.bipush (-13)) 2 := by decide +kernel
theorem dX12_copy_108 : cod mX12_copy 108 (.ireturn) 1 := by decide +kernel
theorem dX12_copy_109 : cod mX12_copy 109 (.aload 6) 2 := by decide +kernel
theorem dX12_copy_111 : cod mX12_copy 111 (.getfield 334) 3 := by decide +kernel
theorem dX12_copy_114 : cod mX12_copy 114 (.iload_n 2) 1 := by decide +kernel
theorem dX12_copy_115 : cod mX12_copy 115 (.aload 7) 2 := by decide +kernel
theorem dX12_copy_117 : cod mX12_copy 117 (.getfield 334) 3 := by decide +kernel
theorem dX12_copy_120 : cod mX12_copy 120 (.iload 4) 2 := by decide +kernel
theorem dX12_copy_122 : cod mX12_copy 122 (.iload 5) 2 := by decide +kernel
theorem dX12_copy_124 : cod mX12_copy 124 (.invokestatic 346) 3 := by decide +kernel
theorem dX12_copy_127 : cod mX12_copy 127 (.iload 5) 2 := by decide +kernel
theorem dX12_copy_129 : cod mX12_copy 129 (.ireturn) 1 := by decide +kernel
def wp_X12_copy (p0 : Nat) (p1 : Int32) (p2 : Int32) (p3 : Int32) (p4 : Int32) (p5 : Int32) (M : Mem) (Q : Int32 → Mem → Prop) : Prop := wp_X12_isShelf p1 M (fun r3 M2 => (r3 = (0 : Int32) → Q (-1) M2) ∧ (¬ r3 = (0 : Int32) → wp_X12_isShelf p3 M2 (fun r10 M9 => (¬ r10 = (0 : Int32) → mK M9 p0 = 13 ∧ mK M9 (mR M9 p0 7) = 24 ∧ vp_in p1 (mN M9 (mR M9 p0 7)) ∧ mK M9 (mR M9 (mR M9 p0 7) p1.toNatClampNeg) = 5 ∧ wp_X4_isEmpty (mR M9 (mR M9 p0 7) p1.toNatClampNeg) M9 (fun r17 M16 => (¬ r17 = (0 : Int32) → Q (-11) M16) ∧ (r17 = (0 : Int32) → mK M16 p0 = 13 ∧ mK M16 (mR M16 p0 7) = 24 ∧ vp_in p3 (mN M16 (mR M16 p0 7)) ∧ mK M16 (mR M16 (mR M16 p0 7) p3.toNatClampNeg) = 5 ∧ wp_X4_isEmpty (mR M16 (mR M16 p0 7) p3.toNatClampNeg) M16 (fun r24 M23 => (r24 = (0 : Int32) → mK M23 p0 = 13 ∧ wp_X12_rowOn p0 p1 M23 (fun r31 M30 => mK M30 p0 = 13 ∧ wp_X12_rowOn p0 p3 M30 (fun r34 M33 => (r31 = 0 → Q (-12) M33) ∧ (¬ r31 = 0 → (r34 = 0 → Q (-12) M33) ∧ (¬ r34 = 0 → mK M33 r31 = 5 ∧ mK M33 r34 = 5 ∧ ((mI M33 r31 1) = (mI M33 r34 1) → wp_X4_hasPlaces r31 p2 p5 M33 (fun r49 M48 => (r49 = (0 : Int32) → Q (-13) M48) ∧ (¬ r49 = (0 : Int32) → mK M48 r34 = 5 ∧ wp_X4_hasPlaces r34 p4 p5 M48 (fun r56 M55 => (¬ r56 = (0 : Int32) → mK M55 r31 = 5 ∧ mK M55 r34 = 5 ∧ mK M55 (mR M55 r31 3) = 20 ∧ mK M55 (mR M55 r34 3) = 20 ∧ ¬ p2 < 0 ∧ ¬ p4 < 0 ∧ ¬ p5 < 0 ∧ p2.toNatClampNeg + p5.toNatClampNeg ≤ mN M55 (mR M55 r31 3) ∧ p4.toNatClampNeg + p5.toNatClampNeg ≤ mN M55 (mR M55 r34 3) ∧ ∀ M61 : Mem, M61 = wI M55 (mR M55 r34 3) (va_cpy (mI M55 (mR M55 r31 3)) (mI M55 (mR M55 r34 3)) p2.toNatClampNeg p4.toNatClampNeg p5.toNatClampNeg) → Q p5 M61) ∧ (r56 = (0 : Int32) → Q (-13) M55))))) ∧ (¬ (mI M33 r31 1) = (mI M33 r34 1) → Q (-12) M33)))))) ∧ (¬ r24 = (0 : Int32) → Q (-11) M23))))) ∧ (r10 = (0 : Int32) → Q (-1) M9))))
theorem T_X12_copy {G : GG} {Q : Int32 → Mem → Prop} {M : Mem} {p0 : Nat} {p1 : Int32} {p2 : Int32} {p3 : Int32} {p4 : Int32} {p5 : Int32} (h : wp_X12_copy p0 p1 p2 p3 p4 p5 M Q) : PMet G mX12_copy 2 0 0 [.ref p0, .int p1, .int p2, .int p3, .int p4, .int p5] M (QI Q) :=
  mk_met (by decide) rfl rfl (by
    intro w hw x9 e9
    subst e9
    simp at hw) (Nat.le_of_ble_eq_true rfl) (s_pad (L1 := [some (.ref p0), some (.int p1), some (.int p2), some (.int p3), some (.int p4), some (.int p5), none, none]) 8 rfl (s_iload_n (pc := 0) dX12_copy_0 rfl (s_callS (pc := 1) (As := [.int p1]) (rest := []) (d' := 0) (mc' := 0) (ms' := 0) dX12_copy_1 c_X12_295 rfl rfl (Nat.le_of_ble_eq_true rfl) (rm_ok rfl rfl) ⟨Nat.le_refl 0, Nat.le_refl 0⟩ (T_X12_isShelf h) (kkI (fun r3 M2 h1 => s_if_eq (pc := 4) (tgt := 14) dX12_copy_4 rfl (fun c4 => have h5 := h1.1 c4; s_iconst (pc := 14) dX12_copy_14 ci_m1 (s_ireturn (pc := 15) dX12_copy_15 rfl (Nat.zero_le _) (Nat.zero_le _) ⟨_, rfl, h5⟩)) (fun c6 => have h7 := h1.2 c6; s_iload_n (pc := 7) dX12_copy_7 rfl (s_callS (pc := 8) (As := [.int p3]) (rest := []) (d' := 0) (mc' := 0) (ms' := 0) dX12_copy_8 c_X12_295 rfl rfl (Nat.le_of_ble_eq_true rfl) (rm_ok rfl rfl) ⟨Nat.le_refl 0, Nat.le_refl 0⟩ (T_X12_isShelf h7) (kkI (fun r10 M9 h8 => s_if_ne (pc := 11) (tgt := 16) dX12_copy_11 rfl (fun c11 => have h12 := h8.1 c11; s_aload_n (pc := 16) dX12_copy_16 rfl (s_getR (pc := 17) dX12_copy_17 f_X12_37 rfl h12.1 (s_iload_n (pc := 20) dX12_copy_20 rfl (s_aal (pc := 21) (t := 4) dX12_copy_21 (Nat.le_of_ble_eq_true rfl) (Nat.le_of_ble_eq_true rfl) h12.2.1 h12.2.2.1 (s_callV (pc := 22) (As := []) (rest := []) (d' := 0) (mc' := 0) (ms' := 0) dX12_copy_22 c_X12_337 (Nat.le_of_ble_eq_true rfl) rfl h12.2.2.2.1 rfl rfl (Nat.le_of_ble_eq_true rfl) (rm_ok rfl rfl) ⟨Nat.le_refl 0, Nat.le_refl 0⟩ (T_X4_isEmpty h12.2.2.2.2) (kkI (fun r17 M16 h15 => s_if_ne (pc := 25) (tgt := 40) dX12_copy_25 rfl (fun c18 => have h19 := h15.1 c18; s_bipush (pc := 40) dX12_copy_40 cb_m11 (s_ireturn (pc := 42) dX12_copy_42 rfl (Nat.zero_le _) (Nat.zero_le _) ⟨_, rfl, h19⟩)) (fun c20 => have h21 := h15.2 c20; s_aload_n (pc := 28) dX12_copy_28 rfl (s_getR (pc := 29) dX12_copy_29 f_X12_37 rfl h21.1 (s_iload_n (pc := 32) dX12_copy_32 rfl (s_aal (pc := 33) (t := 4) dX12_copy_33 (Nat.le_of_ble_eq_true rfl) (Nat.le_of_ble_eq_true rfl) h21.2.1 h21.2.2.1 (s_callV (pc := 34) (As := []) (rest := []) (d' := 0) (mc' := 0) (ms' := 0) dX12_copy_34 c_X12_337 (Nat.le_of_ble_eq_true rfl) rfl h21.2.2.2.1 rfl rfl (Nat.le_of_ble_eq_true rfl) (rm_ok rfl rfl) ⟨Nat.le_refl 0, Nat.le_refl 0⟩ (T_X4_isEmpty h21.2.2.2.2) (kkI (fun r24 M23 h22 => s_if_eq (pc := 37) (tgt := 43) dX12_copy_37 rfl (fun c25 => have h26 := h22.1 c25; s_aload_n (pc := 43) dX12_copy_43 rfl (s_iload_n (pc := 44) dX12_copy_44 rfl (s_callV (pc := 45) (As := [.int p1]) (rest := []) (d' := 1) (mc' := 0) (ms' := 0) dX12_copy_45 c_X12_313 (Nat.le_of_ble_eq_true rfl) rfl h26.1 rfl rfl (Nat.le_of_ble_eq_true rfl) (rm_ok rfl rfl) ⟨Nat.le_refl 0, Nat.le_refl 0⟩ (T_X12_rowOn h26.2) (kkR (fun r31 M30 h29 => s_astore (pc := 48) (L1 := [some (.ref p0), some (.int p1), some (.int p2), some (.int p3), some (.int p4), some (.int p5), some (.ref r31), none]) dX12_copy_48 (Nat.le_of_ble_eq_true rfl) rfl (s_aload_n (pc := 50) dX12_copy_50 rfl (s_iload_n (pc := 51) dX12_copy_51 rfl (s_callV (pc := 52) (As := [.int p3]) (rest := []) (d' := 1) (mc' := 0) (ms' := 0) dX12_copy_52 c_X12_313 (Nat.le_of_ble_eq_true rfl) rfl h29.1 rfl rfl (Nat.le_of_ble_eq_true rfl) (rm_ok rfl rfl) ⟨Nat.le_refl 0, Nat.le_refl 0⟩ (T_X12_rowOn h29.2) (kkR (fun r34 M33 h32 => s_astore (pc := 55) (L1 := [some (.ref p0), some (.int p1), some (.int p2), some (.int p3), some (.int p4), some (.int p5), some (.ref r31), some (.ref r34)]) dX12_copy_55 (Nat.le_of_ble_eq_true rfl) rfl (s_aload (pc := 57) dX12_copy_57 rfl (s_ifnull (pc := 59) (tgt := 80) dX12_copy_59 rfl (fun c35 => have h36 := h32.1 c35; s_bipush (pc := 80) dX12_copy_80 cb_m12 (s_ireturn (pc := 82) dX12_copy_82 rfl (Nat.zero_le _) (Nat.zero_le _) ⟨_, rfl, h36⟩)) (fun c37 => have h38 := h32.2 c37; s_aload (pc := 62) dX12_copy_62 rfl (s_ifnull (pc := 64) (tgt := 80) dX12_copy_64 rfl (fun c39 => have h40 := h38.1 c39; s_bipush (pc := 80) dX12_copy_80 cb_m12 (s_ireturn (pc := 82) dX12_copy_82 rfl (Nat.zero_le _) (Nat.zero_le _) ⟨_, rfl, h40⟩)) (fun c41 => have h42 := h38.2 c41; s_aload (pc := 67) dX12_copy_67 rfl (s_getI (pc := 69) dX12_copy_69 f_X12_340 rfl h42.1 (s_aload (pc := 72) dX12_copy_72 rfl (s_getI (pc := 74) dX12_copy_74 f_X12_340 rfl h42.2.1 (s_icmp_eq (pc := 77) (tgt := 83) dX12_copy_77 rfl (fun c43 => have h44 := h42.2.2.1 c43; s_aload (pc := 83) dX12_copy_83 rfl (s_iload_n (pc := 85) dX12_copy_85 rfl (s_iload (pc := 86) dX12_copy_86 rfl (s_callV (pc := 88) (As := [.int p2, .int p5]) (rest := []) (d' := 0) (mc' := 0) (ms' := 0) dX12_copy_88 c_X12_343 (Nat.le_of_ble_eq_true rfl) rfl h42.1 rfl rfl (Nat.le_of_ble_eq_true rfl) (rm_ok rfl rfl) ⟨Nat.le_refl 0, Nat.le_refl 0⟩ (T_X4_hasPlaces h44) (kkI (fun r49 M48 h47 => s_if_eq (pc := 91) (tgt := 106) dX12_copy_91 rfl (fun c50 => have h51 := h47.1 c50; s_bipush (pc := 106) dX12_copy_106 cb_m13 (s_ireturn (pc := 108) dX12_copy_108 rfl (Nat.zero_le _) (Nat.zero_le _) ⟨_, rfl, h51⟩)) (fun c52 => have h53 := h47.2 c52; s_aload (pc := 94) dX12_copy_94 rfl (s_iload (pc := 96) dX12_copy_96 rfl (s_iload (pc := 98) dX12_copy_98 rfl (s_callV (pc := 100) (As := [.int p4, .int p5]) (rest := []) (d' := 0) (mc' := 0) (ms' := 0) dX12_copy_100 c_X12_343 (Nat.le_of_ble_eq_true rfl) rfl h53.1 rfl rfl (Nat.le_of_ble_eq_true rfl) (rm_ok rfl rfl) ⟨Nat.le_refl 0, Nat.le_refl 0⟩ (T_X4_hasPlaces h53.2) (kkI (fun r56 M55 h54 => s_if_ne (pc := 103) (tgt := 109) dX12_copy_103 rfl (fun c57 => have h58 := h54.1 c57; s_aload (pc := 109) dX12_copy_109 rfl (s_getR (pc := 111) dX12_copy_111 f_X12_334 rfl h58.1 (s_iload_n (pc := 114) dX12_copy_114 rfl (s_aload (pc := 115) dX12_copy_115 rfl (s_getR (pc := 117) dX12_copy_117 f_X12_334 rfl h58.2.1 (s_iload (pc := 120) dX12_copy_120 rfl (s_iload (pc := 122) dX12_copy_122 rfl (s_copyI (pc := 124) dX12_copy_124 cp_X12_346 h58.2.2.1 h58.2.2.2.1 h58.2.2.2.2.1 h58.2.2.2.2.2.1 h58.2.2.2.2.2.2.1 h58.2.2.2.2.2.2.2.1 h58.2.2.2.2.2.2.2.2.1 (Nat.le_of_ble_eq_true rfl) (by decide +kernel) (nmM (fun M61 e62 => have h63 := (h58.2.2.2.2.2.2.2.2.2) M61 e62; s_iload (pc := 127) dX12_copy_127 rfl (s_ireturn (pc := 129) dX12_copy_129 rfl (Nat.zero_le _) (Nat.zero_le _) ⟨_, rfl, h63⟩))))))))))) (fun c59 => have h60 := h54.2 c59; s_bipush (pc := 106) dX12_copy_106 cb_m13 (s_ireturn (pc := 108) dX12_copy_108 rfl (Nat.zero_le _) (Nat.zero_le _) ⟨_, rfl, h60⟩)))))))))))))) (fun c45 => have h46 := h42.2.2.2 c45; s_bipush (pc := 80) dX12_copy_80 cb_m12 (s_ireturn (pc := 82) dX12_copy_82 rfl (Nat.zero_le _) (Nat.zero_le _) ⟨_, rfl, h46⟩))))))))))))))))))))) (fun c27 => have h28 := h22.2 c27; s_bipush (pc := 40) dX12_copy_40 cb_m11 (s_ireturn (pc := 42) dX12_copy_42 rfl (Nat.zero_le _) (Nat.zero_le _) ⟨_, rfl, h28⟩)))))))))))))))) (fun c13 => have h14 := h8.2 c13; s_iconst (pc := 14) dX12_copy_14 ci_m1 (s_ireturn (pc := 15) dX12_copy_15 rfl (Nat.zero_le _) (Nat.zero_le _) ⟨_, rfl, h14⟩)))))))))))
/-! X6_allHundredths -/
theorem dX6_allHundredths_0 : cod mX6_allHundredths 0 (.iconst 0) 1 := by decide +kernel
theorem dX6_allHundredths_1 : cod mX6_allHundredths 1 (.istore_n 1) 1 := by decide +kernel
theorem dX6_allHundredths_2 : cod mX6_allHundredths 2 (.iconst 0) 1 := by decide +kernel
theorem dX6_allHundredths_3 : cod mX6_allHundredths 3 (.istore_n 2) 1 := by decide +kernel
theorem dX6_allHundredths_4 : cod mX6_allHundredths 4 (.iload_n 2) 1 := by decide +kernel
theorem dX6_allHundredths_5 : cod mX6_allHundredths 5 (.aload_n 0) 1 := by decide +kernel
theorem dX6_allHundredths_6 : cod mX6_allHundredths 6 (.getfield 43) 3 := by decide +kernel
theorem dX6_allHundredths_9 : cod mX6_allHundredths 9 (.if_icmp .ge 18) 3 := by decide +kernel
theorem dX6_allHundredths_12 : cod mX6_allHundredths 12 (.iload_n 1) 1 := by decide +kernel
theorem dX6_allHundredths_13 : cod mX6_allHundredths 13 (.aload_n 0) 1 := by decide +kernel
theorem dX6_allHundredths_14 : cod mX6_allHundredths 14 (.getfield 21) 3 := by decide +kernel
theorem dX6_allHundredths_17 : cod mX6_allHundredths 17 (.iload_n 2) 1 := by decide +kernel
theorem dX6_allHundredths_18 : cod mX6_allHundredths 18 (.iaload) 1 := by decide +kernel
theorem dX6_allHundredths_19 : cod mX6_allHundredths 19 (.iadd) 1 := by decide +kernel
theorem dX6_allHundredths_20 : cod mX6_allHundredths 20 (.istore_n 1) 1 := by decide +kernel
theorem dX6_allHundredths_21 : cod mX6_allHundredths 21 (.iinc 2 1) 3 := by decide +kernel
theorem dX6_allHundredths_24 : cod mX6_allHundredths 24 (.goto (-20)) 3 := by decide +kernel
theorem dX6_allHundredths_27 : cod mX6_allHundredths 27 (.iload_n 1) 1 := by decide +kernel
theorem dX6_allHundredths_28 : cod mX6_allHundredths 28 (.ireturn) 1 := by decide +kernel
def lp_X6_allHundredths_4 (Q : Int32 → Mem → Prop) : Nat → Nat → Int32 → Int32 → Mem → Prop
  | 0 => fun _ _ _ _ => False
  | n + 1 => fun x0 x1 x2 M => mK M x0 = 7 ∧ ((mI M x0 3) ≤ x2 → Q x1 M) ∧ (¬ (mI M x0 3) ≤ x2 → mK M (mR M x0 5) = 20 ∧ vp_in x2 (mN M (mR M x0 5)) ∧ ∀ y5 : Int32, y5 = x1 + (mI M (mR M x0 5) x2.toNatClampNeg) → (lp_X6_allHundredths_4 Q n) x0 y5 (x2 + 1) M)
theorem P_lp_X6_allHundredths_4 {G : GG} {Q : Int32 → Mem → Prop} : ∀ (n : Nat) (x0 : Nat) (x1 : Int32) (x2 : Int32) (M : Mem), lp_X6_allHundredths_4 Q n x0 x1 x2 M → PW G mX6_allHundredths (rmD 0 0 0) (QI Q) 4 [some (.ref x0), some (.int x1), some (.int x2)] [] M 0 0 := by
  intro n
  induction n with
  | zero => intro x0 x1 x2 M h; exact h.elim
  | succ n ih =>
    intro x0 x1 x2 M h
    exact (s_iload_n (pc := 4) dX6_allHundredths_4 rfl (s_aload_n (pc := 5) dX6_allHundredths_5 rfl (s_getI (pc := 6) dX6_allHundredths_6 f_X6_43 rfl h.1 (s_icmp_ge (pc := 9) (tgt := 27) dX6_allHundredths_9 rfl (fun c1 => have h2 := h.2.1 c1; s_iload_n (pc := 27) dX6_allHundredths_27 rfl (s_ireturn (pc := 28) dX6_allHundredths_28 rfl (Nat.zero_le _) (Nat.zero_le _) ⟨_, rfl, h2⟩)) (fun c3 => have h4 := h.2.2 c3; s_iload_n (pc := 12) dX6_allHundredths_12 rfl (s_aload_n (pc := 13) dX6_allHundredths_13 rfl (s_getR (pc := 14) dX6_allHundredths_14 f_X6_21 rfl h.1 (s_iload_n (pc := 17) dX6_allHundredths_17 rfl (s_ial (pc := 18) dX6_allHundredths_18 h4.1 h4.2.1 (s_iadd (pc := 19) dX6_allHundredths_19 (nmI (fun y5 e6 => have h7 := h4.2.2 y5 e6; s_istore_n (pc := 20) (L1 := [some (.ref x0), some (.int y5), some (.int x2)]) dX6_allHundredths_20 (Nat.le_of_ble_eq_true rfl) rfl (s_iinc (pc := 21) (L1 := [some (.ref x0), some (.int y5), some (.int (x2 + 1))]) dX6_allHundredths_21 rfl ci_1 (Nat.le_of_ble_eq_true rfl) rfl (s_goto (pc := 24) (tgt := 4) dX6_allHundredths_24 rfl (s_sel (L1 := [some (.ref x0), some (.int y5), some (.int (x2 + 1))]) [true, true, true] rfl (ih x0 y5 (x2 + 1) M h7))))))))))))))))
def wp_X6_allHundredths (p0 : Nat) (M : Mem) (Q : Int32 → Mem → Prop) : Prop := ∃ n8 : Nat, lp_X6_allHundredths_4 Q n8 p0 0 0 M
theorem T_X6_allHundredths {G : GG} {Q : Int32 → Mem → Prop} {M : Mem} {p0 : Nat} (h : wp_X6_allHundredths p0 M Q) : PMet G mX6_allHundredths 0 0 0 [.ref p0] M (QI Q) :=
  mk_met (by decide) rfl rfl (by
    intro w hw x9 e9
    subst e9
    simp at hw) (Nat.le_of_ble_eq_true rfl) (s_pad (L1 := [some (.ref p0), none, none]) 3 rfl (s_iconst (pc := 0) dX6_allHundredths_0 ci_0 (s_istore_n (pc := 1) (L1 := [some (.ref p0), some (.int 0), none]) dX6_allHundredths_1 (Nat.le_of_ble_eq_true rfl) rfl (s_iconst (pc := 2) dX6_allHundredths_2 ci_0 (s_istore_n (pc := 3) (L1 := [some (.ref p0), some (.int 0), some (.int 0)]) dX6_allHundredths_3 (Nat.le_of_ble_eq_true rfl) rfl (Exists.elim h (fun n8 hn => s_sel (L1 := [some (.ref p0), some (.int 0), some (.int 0)]) [true, true, true] rfl (P_lp_X6_allHundredths_4 n8 p0 0 0 M hn))))))))
/-! X12_count -/
theorem dX12_count_0 : cod mX12_count 0 (.iload_n 1) 1 := by decide +kernel
theorem dX12_count_1 : cod mX12_count 1 (.tableswitch 87 0 5 #[39, 47, 55, 63, 71, 79]) 39 := by decide +kernel
theorem dX12_count_40 : cod mX12_count 40 (.aload_n 0) 1 := by decide +kernel
theorem dX12_count_41 : cod mX12_count 41 (.getfield 10) 3 := by decide +kernel
theorem dX12_count_44 : cod mX12_count 44 (.getfield 279) 3 := by decide +kernel
theorem dX12_count_47 : cod mX12_count 47 (.ireturn) 1 := by decide +kernel
theorem dX12_count_48 : cod mX12_count 48 (.aload_n 0) 1 := by decide +kernel
theorem dX12_count_49 : cod mX12_count 49 (.getfield 10) 3 := by decide +kernel
theorem dX12_count_52 : cod mX12_count 52 (.getfield 282) 3 := by decide +kernel
theorem dX12_count_55 : cod mX12_count 55 (.ireturn) 1 := by decide +kernel
theorem dX12_count_56 : cod mX12_count 56 (.aload_n 0) 1 := by decide +kernel
theorem dX12_count_57 : cod mX12_count 57 (.getfield 10) 3 := by decide +kernel
theorem dX12_count_60 : cod mX12_count 60 (.invokevirtual 285) 3 := by decide +kernel
theorem dX12_count_63 : cod mX12_count 63 (.ireturn) 1 := by decide +kernel
theorem dX12_count_64 : cod mX12_count 64 (.aload_n 0) 1 := by decide +kernel
theorem dX12_count_65 : cod mX12_count 65 (.getfield 10) 3 := by decide +kernel
theorem dX12_count_68 : cod mX12_count 68 (.invokevirtual 289) 3 := by decide +kernel
theorem dX12_count_71 : cod mX12_count 71 (.ireturn) 1 := by decide +kernel
theorem dX12_count_72 : cod mX12_count 72 (.aload_n 0) 1 := by decide +kernel
theorem dX12_count_73 : cod mX12_count 73 (.getfield 10) 3 := by decide +kernel
theorem dX12_count_76 : cod mX12_count 76 (.getfield 220) 3 := by decide +kernel
theorem dX12_count_79 : cod mX12_count 79 (.ireturn) 1 := by decide +kernel
theorem dX12_count_80 : cod mX12_count 80 (.aload_n 0) 1 := by decide +kernel
theorem dX12_count_81 : cod mX12_count 81 (.getfield 10) 3 := by decide +kernel
theorem dX12_count_84 : cod mX12_count 84 (.getfield 292) 3 := by decide +kernel
theorem dX12_count_87 : cod mX12_count 87 (.ireturn) 1 := by decide +kernel
theorem dX12_count_88 : cod mX12_count 88 (.iconst (-1)) 1 := by decide +kernel
theorem dX12_count_89 : cod mX12_count 89 (.ireturn) 1 := by decide +kernel
def wp_X12_count (p0 : Nat) (p1 : Int32) (M : Mem) (Q : Int32 → Mem → Prop) : Prop := ((p1.toInt < 0 ∨ 5 < p1.toInt) → Q (-1) M) ∧ (p1 = 0 → mK M p0 = 13 ∧ mK M (mR M p0 0) = 7 ∧ Q (mI M (mR M p0 0) 0) M) ∧ (p1 = 1 → mK M p0 = 13 ∧ mK M (mR M p0 0) = 7 ∧ Q (mI M (mR M p0 0) 3) M) ∧ (p1 = 2 → mK M p0 = 13 ∧ mK M (mR M p0 0) = 7 ∧ wp_X6_allChances (mR M p0 0) M (fun r11 M10 => Q r11 M10)) ∧ (p1 = 3 → mK M p0 = 13 ∧ mK M (mR M p0 0) = 7 ∧ wp_X6_allHundredths (mR M p0 0) M (fun r16 M15 => Q r16 M15)) ∧ (p1 = 4 → mK M p0 = 13 ∧ mK M (mR M p0 0) = 7 ∧ Q (mI M (mR M p0 0) 7) M) ∧ (p1 = 5 → mK M p0 = 13 ∧ mK M (mR M p0 0) = 7 ∧ Q (mI M (mR M p0 0) 9) M)
theorem T_X12_count {G : GG} {Q : Int32 → Mem → Prop} {M : Mem} {p0 : Nat} {p1 : Int32} (h : wp_X12_count p0 p1 M Q) : PMet G mX12_count 1 0 0 [.ref p0, .int p1] M (QI Q) :=
  mk_met (by decide) rfl rfl (by
    intro w hw x9 e9
    subst e9
    simp at hw) (Nat.le_of_ble_eq_true rfl) (s_pad (L1 := [some (.ref p0), some (.int p1)]) 2 rfl (s_iload_n (pc := 0) dX12_count_0 rfl (s_ts (pc := 1) (tgt := 88) dX12_count_1 rfl (fun c2 => have h1 := h.1 c2; s_iconst (pc := 88) dX12_count_88 ci_m1 (s_ireturn (pc := 89) dX12_count_89 rfl (Nat.zero_le _) (Nat.zero_le _) ⟨_, rfl, h1⟩)) (by
      intro j hx hle
      match j, hx, hle with
      | 0, hx, _ => exact ⟨39, 40, rfl, rfl, have c4 : p1 = 0 := eqI hx (by decide); have h3 := h.2.1 c4; s_aload_n (pc := 40) dX12_count_40 rfl (s_getR (pc := 41) dX12_count_41 f_X12_10 rfl h3.1 (s_getI (pc := 44) dX12_count_44 f_X12_279 rfl h3.2.1 (s_ireturn (pc := 47) dX12_count_47 rfl (Nat.zero_le _) (Nat.zero_le _) ⟨_, rfl, h3.2.2⟩)))⟩
      | 1, hx, _ => exact ⟨47, 48, rfl, rfl, have c6 : p1 = 1 := eqI hx (by decide); have h5 := h.2.2.1 c6; s_aload_n (pc := 48) dX12_count_48 rfl (s_getR (pc := 49) dX12_count_49 f_X12_10 rfl h5.1 (s_getI (pc := 52) dX12_count_52 f_X12_282 rfl h5.2.1 (s_ireturn (pc := 55) dX12_count_55 rfl (Nat.zero_le _) (Nat.zero_le _) ⟨_, rfl, h5.2.2⟩)))⟩
      | 2, hx, _ => exact ⟨55, 56, rfl, rfl, have c8 : p1 = 2 := eqI hx (by decide); have h7 := h.2.2.2.1 c8; s_aload_n (pc := 56) dX12_count_56 rfl (s_getR (pc := 57) dX12_count_57 f_X12_10 rfl h7.1 (s_callV (pc := 60) (As := []) (rest := []) (d' := 0) (mc' := 0) (ms' := 0) dX12_count_60 c_X12_285 (Nat.le_of_ble_eq_true rfl) rfl h7.2.1 rfl rfl (Nat.le_of_ble_eq_true rfl) (rm_ok rfl rfl) ⟨Nat.le_refl 0, Nat.le_refl 0⟩ (T_X6_allChances h7.2.2) (kkI (fun r11 M10 h9 => s_ireturn (pc := 63) dX12_count_63 rfl (Nat.zero_le _) (Nat.zero_le _) ⟨_, rfl, h9⟩))))⟩
      | 3, hx, _ => exact ⟨63, 64, rfl, rfl, have c13 : p1 = 3 := eqI hx (by decide); have h12 := h.2.2.2.2.1 c13; s_aload_n (pc := 64) dX12_count_64 rfl (s_getR (pc := 65) dX12_count_65 f_X12_10 rfl h12.1 (s_callV (pc := 68) (As := []) (rest := []) (d' := 0) (mc' := 0) (ms' := 0) dX12_count_68 c_X12_289 (Nat.le_of_ble_eq_true rfl) rfl h12.2.1 rfl rfl (Nat.le_of_ble_eq_true rfl) (rm_ok rfl rfl) ⟨Nat.le_refl 0, Nat.le_refl 0⟩ (T_X6_allHundredths h12.2.2) (kkI (fun r16 M15 h14 => s_ireturn (pc := 71) dX12_count_71 rfl (Nat.zero_le _) (Nat.zero_le _) ⟨_, rfl, h14⟩))))⟩
      | 4, hx, _ => exact ⟨71, 72, rfl, rfl, have c18 : p1 = 4 := eqI hx (by decide); have h17 := h.2.2.2.2.2.1 c18; s_aload_n (pc := 72) dX12_count_72 rfl (s_getR (pc := 73) dX12_count_73 f_X12_10 rfl h17.1 (s_getI (pc := 76) dX12_count_76 f_X12_220 rfl h17.2.1 (s_ireturn (pc := 79) dX12_count_79 rfl (Nat.zero_le _) (Nat.zero_le _) ⟨_, rfl, h17.2.2⟩)))⟩
      | 5, hx, _ => exact ⟨79, 80, rfl, rfl, have c20 : p1 = 5 := eqI hx (by decide); have h19 := h.2.2.2.2.2.2 c20; s_aload_n (pc := 80) dX12_count_80 rfl (s_getR (pc := 81) dX12_count_81 f_X12_10 rfl h19.1 (s_getI (pc := 84) dX12_count_84 f_X12_292 rfl h19.2.1 (s_ireturn (pc := 87) dX12_count_87 rfl (Nat.zero_le _) (Nat.zero_le _) ⟨_, rfl, h19.2.2⟩)))⟩
      | jj + 6, hx, hle => exact absurd hle (by omega)))))
/-! X12_day -/
theorem dX12_day_0 : cod mX12_day 0 (.aload_n 0) 1 := by decide +kernel
theorem dX12_day_1 : cod mX12_day 1 (.iload_n 2) 1 := by decide +kernel
theorem dX12_day_2 : cod mX12_day 2 (.invokevirtual 85) 3 := by decide +kernel
theorem dX12_day_5 : cod mX12_day 5 (.ifCond .eq 14) 3 := by decide +kernel
theorem dX12_day_8 : cod mX12_day 8 (.iload 4) 2 := by decide +kernel
theorem dX12_day_10 : cod mX12_day 10 (.ifCond .lt 9) 3 := by decide +kernel
theorem dX12_day_13 : cod mX12_day 13 (.iload 4) 2 := by decide +kernel
theorem dX12_day_15 : cod mX12_day 15 (.iconst 2) 1 := by decide +kernel
theorem dX12_day_16 : cod mX12_day 16 (.if_icmp .le 6) 3 := by decide +kernel
theorem dX12_day_19 : cod mX12_day 19 (.ldc 192) 2 := by decide +kernel
theorem dX12_day_21 : cod mX12_day 21 (.ireturn) 1 := by decide +kernel
theorem dX12_day_22 : cod mX12_day 22 (.aload_n 0) 1 := by decide +kernel
theorem dX12_day_23 : cod mX12_day 23 (.iload_n 1) 1 := by decide +kernel
theorem dX12_day_24 : cod mX12_day 24 (.invokevirtual 175) 3 := by decide +kernel
theorem dX12_day_27 : cod mX12_day 27 (.astore 5) 2 := by decide +kernel
theorem dX12_day_29 : cod mX12_day 29 (.aload 5) 2 := by decide +kernel
theorem dX12_day_31 : cod mX12_day 31 (.ifnonnull 12) 3 := by decide +kernel
theorem dX12_day_34 : cod mX12_day 34 (.aload_n 0) 1 := by decide +kernel
theorem dX12_day_35 : cod mX12_day 35 (.iload_n 1) 1 := by decide +kernel
theorem dX12_day_36 : cod mX12_day 36 (.invokevirtual 179) 3 := by decide +kernel
theorem dX12_day_39 : cod mX12_day 39 (.ldc 193) 2 := by decide +kernel
theorem dX12_day_41 : cod mX12_day 41 (.isub) 1 := by decide +kernel
theorem dX12_day_42 : cod mX12_day 42 (.ireturn) 1 := by decide +kernel
theorem dX12_day_43 : cod mX12_day 43 (.aload_n 0) 1 := by decide +kernel
theorem dX12_day_44 : cod mX12_day 44 (.getfield 52) 3 := by decide +kernel
theorem dX12_day_47 : cod mX12_day 47 (.aload_n 0) 1 := by decide +kernel
theorem dX12_day_48 : cod mX12_day 48 (.getfield 10) 3 := by decide +kernel
theorem dX12_day_51 : cod mX12_day 51 (.aload 5) 2 := by decide +kernel
theorem dX12_day_53 : cod mX12_day 53 (.aload_n 0) 1 := by decide +kernel
theorem dX12_day_54 : cod mX12_day 54 (.getfield 10) 3 := by decide +kernel
theorem dX12_day_57 : cod mX12_day 57 (.getfield 96) 3 := by decide +kernel
theorem dX12_day_60 : cod mX12_day 60 (.iload_n 2) 1 := by decide +kernel
theorem dX12_day_61 : cod mX12_day 61 (.iaload) 1 := by decide +kernel
theorem dX12_day_62 : cod mX12_day 62 (.iload_n 3) 1 := by decide +kernel
theorem dX12_day_63 : cod mX12_day 63 (.invokevirtual 194) 3 := by decide +kernel
theorem dX12_day_66 : cod mX12_day 66 (.iload 4) 2 := by decide +kernel
theorem dX12_day_68 : cod mX12_day 68 (.ifCond .ne 13) 3 := by decide +kernel
theorem dX12_day_71 : cod mX12_day 71 (.aload_n 0) 1 := by decide +kernel
theorem dX12_day_72 : cod mX12_day 72 (.getfield 52) 3 := by decide +kernel
theorem dX12_day_75 : cod mX12_day 75 (.getfield 198) 3 := by decide +kernel
theorem dX12_day_78 : cod mX12_day 78 (.goto 26) 3 := by decide +kernel
theorem dX12_day_81 : cod mX12_day 81 (.iload 4) 2 := by decide +kernel
theorem dX12_day_83 : cod mX12_day 83 (.iconst 1) 1 := by decide +kernel
theorem dX12_day_84 : cod mX12_day 84 (.if_icmp .ne 13) 3 := by decide +kernel
theorem dX12_day_87 : cod mX12_day 87 (.aload_n 0) 1 := by decide +kernel
theorem dX12_day_88 : cod mX12_day 88 (.getfield 52) 3 := by decide +kernel
theorem dX12_day_91 : cod mX12_day 91 (.getfield 201) 3 := by decide +kernel
theorem dX12_day_94 : cod mX12_day 94 (.goto 10) 3 := by decide +kernel
theorem dX12_day_97 : cod mX12_day 97 (.aload_n 0) 1 := by decide +kernel
theorem dX12_day_98 : cod mX12_day 98 (.getfield 52) 3 := by decide +kernel
theorem dX12_day_101 : cod mX12_day 101 (.getfield 204) 3 := by decide +kernel
theorem dX12_day_104 : cod mX12_day 104 (.ireturn) 1 := by decide +kernel
def wp_X12_day (p0 : Nat) (p1 : Int32) (p2 : Int32) (p3 : Int32) (p4 : Int32) (M : Mem) (Q : Int32 → Mem → Prop) : Prop := mK M p0 = 13 ∧ wp_X12_isWorth p0 p2 M (fun r3 M2 => (r3 = (0 : Int32) → Q (-1000000001) M2) ∧ (¬ r3 = (0 : Int32) → (p4 < (0 : Int32) → Q (-1000000001) M2) ∧ (¬ p4 < (0 : Int32) → (p4 ≤ (2 : Int32) → mK M2 p0 = 13 ∧ wp_X12_readyWayOn p0 p1 M2 (fun r18 M17 => (¬ r18 = 0 → mK M17 p0 = 13 ∧ mK M17 (mR M17 p0 0) = 7 ∧ mK M17 (mR M17 (mR M17 p0 0) 2) = 20 ∧ vp_in p2 (mN M17 (mR M17 (mR M17 p0 0) 2)) ∧ mK M17 (mR M17 p0 9) = 1 ∧ wp_X0_live (mR M17 p0 9) (mR M17 p0 0) r18 (mI M17 (mR M17 (mR M17 p0 0) 2) p2.toNatClampNeg) p3 M17 (fun M24 => (¬ p4 = (0 : Int32) → (¬ p4 = (1 : Int32) → mK M24 p0 = 13 ∧ mK M24 (mR M24 p0 9) = 1 ∧ Q (mI M24 (mR M24 p0 9) 6) M24) ∧ (p4 = (1 : Int32) → mK M24 p0 = 13 ∧ mK M24 (mR M24 p0 9) = 1 ∧ Q (mI M24 (mR M24 p0 9) 5) M24)) ∧ (p4 = (0 : Int32) → mK M24 p0 = 13 ∧ mK M24 (mR M24 p0 9) = 1 ∧ Q (mI M24 (mR M24 p0 9) 4) M24))) ∧ (r18 = 0 → mK M17 p0 = 13 ∧ wp_X12_whyNotReady p0 p1 M17 (fun r35 M34 => Q (r35 - 1000000000) M34)))) ∧ (¬ p4 ≤ (2 : Int32) → Q (-1000000001) M2))))
theorem T_X12_day {G : GG} {Q : Int32 → Mem → Prop} {M : Mem} {p0 : Nat} {p1 : Int32} {p2 : Int32} {p3 : Int32} {p4 : Int32} (h : wp_X12_day p0 p1 p2 p3 p4 M Q) : PMet G mX12_day 5 0 0 [.ref p0, .int p1, .int p2, .int p3, .int p4] M (QI Q) :=
  mk_met (by decide) rfl rfl (by
    intro w hw x9 e9
    subst e9
    simp at hw) (Nat.le_of_ble_eq_true rfl) (s_pad (L1 := [some (.ref p0), some (.int p1), some (.int p2), some (.int p3), some (.int p4), none]) 6 rfl (s_aload_n (pc := 0) dX12_day_0 rfl (s_iload_n (pc := 1) dX12_day_1 rfl (s_callV (pc := 2) (As := [.int p2]) (rest := []) (d' := 0) (mc' := 0) (ms' := 0) dX12_day_2 c_X12_85 (Nat.le_of_ble_eq_true rfl) rfl h.1 rfl rfl (Nat.le_of_ble_eq_true rfl) (rm_ok rfl rfl) ⟨Nat.le_refl 0, Nat.le_refl 0⟩ (T_X12_isWorth h.2) (kkI (fun r3 M2 h1 => s_if_eq (pc := 5) (tgt := 19) dX12_day_5 rfl (fun c4 => have h5 := h1.1 c4; s_ldc (pc := 19) dX12_day_19 k_X12_192 (s_ireturn (pc := 21) dX12_day_21 rfl (Nat.zero_le _) (Nat.zero_le _) ⟨_, rfl, h5⟩)) (fun c6 => have h7 := h1.2 c6; s_iload (pc := 8) dX12_day_8 rfl (s_if_lt (pc := 10) (tgt := 19) dX12_day_10 rfl (fun c8 => have h9 := h7.1 c8; s_ldc (pc := 19) dX12_day_19 k_X12_192 (s_ireturn (pc := 21) dX12_day_21 rfl (Nat.zero_le _) (Nat.zero_le _) ⟨_, rfl, h9⟩)) (fun c10 => have h11 := h7.2 c10; s_iload (pc := 13) dX12_day_13 rfl (s_iconst (pc := 15) dX12_day_15 ci_2 (s_icmp_le (pc := 16) (tgt := 22) dX12_day_16 rfl (fun c12 => have h13 := h11.1 c12; s_aload_n (pc := 22) dX12_day_22 rfl (s_iload_n (pc := 23) dX12_day_23 rfl (s_callV (pc := 24) (As := [.int p1]) (rest := []) (d' := 2) (mc' := 0) (ms' := 0) dX12_day_24 c_X12_175 (Nat.le_of_ble_eq_true rfl) rfl h13.1 rfl rfl (Nat.le_of_ble_eq_true rfl) (rm_ok rfl rfl) ⟨Nat.le_refl 0, Nat.le_refl 0⟩ (T_X12_readyWayOn h13.2) (kkR (fun r18 M17 h16 => s_astore (pc := 27) (L1 := [some (.ref p0), some (.int p1), some (.int p2), some (.int p3), some (.int p4), some (.ref r18)]) dX12_day_27 (Nat.le_of_ble_eq_true rfl) rfl (s_aload (pc := 29) dX12_day_29 rfl (s_ifnonnull (pc := 31) (tgt := 43) dX12_day_31 rfl (fun c19 => have h20 := h16.1 c19; s_aload_n (pc := 43) dX12_day_43 rfl (s_getR (pc := 44) dX12_day_44 f_X12_52 rfl h20.1 (s_aload_n (pc := 47) dX12_day_47 rfl (s_getR (pc := 48) dX12_day_48 f_X12_10 rfl h20.1 (s_aload (pc := 51) dX12_day_51 rfl (s_aload_n (pc := 53) dX12_day_53 rfl (s_getR (pc := 54) dX12_day_54 f_X12_10 rfl h20.1 (s_getR (pc := 57) dX12_day_57 f_X12_96 rfl h20.2.1 (s_iload_n (pc := 60) dX12_day_60 rfl (s_ial (pc := 61) dX12_day_61 h20.2.2.1 h20.2.2.2.1 (s_iload_n (pc := 62) dX12_day_62 rfl (s_callV (pc := 63) (As := [.ref (mR M17 p0 0), .ref r18, .int (mI M17 (mR M17 (mR M17 p0 0) 2) p2.toNatClampNeg), .int p3]) (rest := []) (d' := 4) (mc' := 0) (ms' := 0) dX12_day_63 c_X12_194 (Nat.le_of_ble_eq_true rfl) rfl h20.2.2.2.2.1 rfl rfl (Nat.le_of_ble_eq_true rfl) (rm_ok rfl rfl) ⟨Nat.le_refl 0, Nat.le_refl 0⟩ (T_X0_live h20.2.2.2.2.2) (kkV (fun M24 h23 => s_iload (pc := 66) dX12_day_66 rfl (s_if_ne (pc := 68) (tgt := 81) dX12_day_68 rfl (fun c25 => have h26 := h23.1 c25; s_iload (pc := 81) dX12_day_81 rfl (s_iconst (pc := 83) dX12_day_83 ci_1 (s_icmp_ne (pc := 84) (tgt := 97) dX12_day_84 rfl (fun c29 => have h30 := h26.1 c29; s_aload_n (pc := 97) dX12_day_97 rfl (s_getR (pc := 98) dX12_day_98 f_X12_52 rfl h30.1 (s_getI (pc := 101) dX12_day_101 f_X12_204 rfl h30.2.1 (s_ireturn (pc := 104) dX12_day_104 rfl (Nat.zero_le _) (Nat.zero_le _) ⟨_, rfl, h30.2.2⟩)))) (fun c31 => have h32 := h26.2 c31; s_aload_n (pc := 87) dX12_day_87 rfl (s_getR (pc := 88) dX12_day_88 f_X12_52 rfl h32.1 (s_getI (pc := 91) dX12_day_91 f_X12_201 rfl h32.2.1 (s_goto (pc := 94) (tgt := 104) dX12_day_94 rfl (s_ireturn (pc := 104) dX12_day_104 rfl (Nat.zero_le _) (Nat.zero_le _) ⟨_, rfl, h32.2.2⟩)))))))) (fun c27 => have h28 := h23.2 c27; s_aload_n (pc := 71) dX12_day_71 rfl (s_getR (pc := 72) dX12_day_72 f_X12_52 rfl h28.1 (s_getI (pc := 75) dX12_day_75 f_X12_198 rfl h28.2.1 (s_goto (pc := 78) (tgt := 104) dX12_day_78 rfl (s_ireturn (pc := 104) dX12_day_104 rfl (Nat.zero_le _) (Nat.zero_le _) ⟨_, rfl, h28.2.2⟩)))))))))))))))))))) (fun c21 => have h22 := h16.2 c21; s_aload_n (pc := 34) dX12_day_34 rfl (s_iload_n (pc := 35) dX12_day_35 rfl (s_callV (pc := 36) (As := [.int p1]) (rest := []) (d' := 2) (mc' := 0) (ms' := 0) dX12_day_36 c_X12_179 (Nat.le_of_ble_eq_true rfl) rfl h22.1 rfl rfl (Nat.le_of_ble_eq_true rfl) (rm_ok rfl rfl) ⟨Nat.le_refl 0, Nat.le_refl 0⟩ (T_X12_whyNotReady h22.2) (kkI (fun r35 M34 h33 => s_ldc (pc := 39) dX12_day_39 k_X12_193 (s_isub (pc := 41) dX12_day_41 (s_ireturn (pc := 42) dX12_day_42 rfl (Nat.zero_le _) (Nat.zero_le _) ⟨_, rfl, h33⟩)))))))))))))) (fun c14 => have h15 := h11.2 c14; s_ldc (pc := 19) dX12_day_19 k_X12_192 (s_ireturn (pc := 21) dX12_day_21 rfl (Nat.zero_le _) (Nat.zero_le _) ⟨_, rfl, h15⟩)))))))))))))
/-! X12_isSort -/
theorem dX12_isSort_0 : cod mX12_isSort 0 (.iload_n 1) 1 := by decide +kernel
theorem dX12_isSort_1 : cod mX12_isSort 1 (.ifCond .lt 18) 3 := by decide +kernel
theorem dX12_isSort_4 : cod mX12_isSort 4 (.iload_n 1) 1 := by decide +kernel
theorem dX12_isSort_5 : cod mX12_isSort 5 (.aload_n 0) 1 := by decide +kernel
theorem dX12_isSort_6 : cod mX12_isSort 6 (.getfield 10) 3 := by decide +kernel
theorem dX12_isSort_9 : cod mX12_isSort 9 (.getfield 282) 3 := by decide +kernel
theorem dX12_isSort_12 : cod mX12_isSort 12 (.if_icmp .ge 7) 3 := by decide +kernel
theorem dX12_isSort_15 : cod mX12_isSort 15 (.iconst 1) 1 := by decide +kernel
theorem dX12_isSort_16 : cod mX12_isSort 16 (.goto 4) 3 := by decide +kernel
theorem dX12_isSort_19 : cod mX12_isSort 19 (.iconst 0) 1 := by decide +kernel
theorem dX12_isSort_20 : cod mX12_isSort 20 (.ireturn) 1 := by decide +kernel
def wp_X12_isSort (p0 : Nat) (p1 : Int32) (M : Mem) (Q : Int32 → Mem → Prop) : Prop := (p1 < (0 : Int32) → Q 0 M) ∧ (¬ p1 < (0 : Int32) → mK M p0 = 13 ∧ mK M (mR M p0 0) = 7 ∧ ((mI M (mR M p0 0) 3) ≤ p1 → Q 0 M) ∧ (¬ (mI M (mR M p0 0) 3) ≤ p1 → Q 1 M))
theorem T_X12_isSort {G : GG} {Q : Int32 → Mem → Prop} {M : Mem} {p0 : Nat} {p1 : Int32} (h : wp_X12_isSort p0 p1 M Q) : PMet G mX12_isSort 0 0 0 [.ref p0, .int p1] M (QI Q) :=
  mk_met (by decide) rfl rfl (by
    intro w hw x9 e9
    subst e9
    simp at hw) (Nat.le_of_ble_eq_true rfl) (s_pad (L1 := [some (.ref p0), some (.int p1)]) 2 rfl (s_iload_n (pc := 0) dX12_isSort_0 rfl (s_if_lt (pc := 1) (tgt := 19) dX12_isSort_1 rfl (fun c1 => have h2 := h.1 c1; s_iconst (pc := 19) dX12_isSort_19 ci_0 (s_zreturn (pc := 20) dX12_isSort_20 rfl (Or.inl rfl) (Nat.zero_le _) (Nat.zero_le _) ⟨_, rfl, h2⟩)) (fun c3 => have h4 := h.2 c3; s_iload_n (pc := 4) dX12_isSort_4 rfl (s_aload_n (pc := 5) dX12_isSort_5 rfl (s_getR (pc := 6) dX12_isSort_6 f_X12_10 rfl h4.1 (s_getI (pc := 9) dX12_isSort_9 f_X12_282 rfl h4.2.1 (s_icmp_ge (pc := 12) (tgt := 19) dX12_isSort_12 rfl (fun c5 => have h6 := h4.2.2.1 c5; s_iconst (pc := 19) dX12_isSort_19 ci_0 (s_zreturn (pc := 20) dX12_isSort_20 rfl (Or.inl rfl) (Nat.zero_le _) (Nat.zero_le _) ⟨_, rfl, h6⟩)) (fun c7 => have h8 := h4.2.2.2 c7; s_iconst (pc := 15) dX12_isSort_15 ci_1 (s_goto (pc := 16) (tgt := 20) dX12_isSort_16 rfl (s_zreturn (pc := 20) dX12_isSort_20 rfl (Or.inr rfl) (Nat.zero_le _) (Nat.zero_le _) ⟨_, rfl, h8⟩)))))))))))
/-! X12_does -/
theorem dX12_does_0 : cod mX12_does 0 (.aload_n 0) 1 := by decide +kernel
theorem dX12_does_1 : cod mX12_does 1 (.iload_n 1) 1 := by decide +kernel
theorem dX12_does_2 : cod mX12_does 2 (.invokevirtual 99) 3 := by decide +kernel
theorem dX12_does_5 : cod mX12_does 5 (.ifCond .eq 20) 3 := by decide +kernel
theorem dX12_does_8 : cod mX12_does 8 (.aload_n 0) 1 := by decide +kernel
theorem dX12_does_9 : cod mX12_does 9 (.iload_n 2) 1 := by decide +kernel
theorem dX12_does_10 : cod mX12_does 10 (.invokevirtual 85) 3 := by decide +kernel
theorem dX12_does_13 : cod mX12_does 13 (.ifCond .eq 12) 3 := by decide +kernel
theorem dX12_does_16 : cod mX12_does 16 (.iload_n 3) 1 := by decide +kernel
theorem dX12_does_17 : cod mX12_does 17 (.iload 4) 2 := by decide +kernel
theorem dX12_does_19 : cod mX12_does 19 (.invokestatic 118) 3 := by decide +kernel
theorem dX12_does_22 : cod mX12_does 22 (.ifCond .ne 5) 3 := by decide +kernel
theorem dX12_does_25 : cod mX12_does 25 (.iconst (-1)) 1 := by decide +kernel
theorem dX12_does_26 : cod mX12_does 26 (.ireturn) 1 := by decide +kernel
theorem dX12_does_27 : cod mX12_does 27 (.aload_n 0) 1 := by decide +kernel
theorem dX12_does_28 : cod mX12_does 28 (.getfield 10) 3 := by decide +kernel
theorem dX12_does_31 : cod mX12_does 31 (.iload_n 1) 1 := by decide +kernel
theorem dX12_does_32 : cod mX12_does 32 (.aload_n 0) 1 := by decide +kernel
theorem dX12_does_33 : cod mX12_does 33 (.getfield 10) 3 := by decide +kernel
theorem dX12_does_36 : cod mX12_does 36 (.getfield 96) 3 := by decide +kernel
theorem dX12_does_39 : cod mX12_does 39 (.iload_n 2) 1 := by decide +kernel
theorem dX12_does_40 : cod mX12_does 40 (.iaload) 1 := by decide +kernel
theorem dX12_does_41 : cod mX12_does 41 (.iload_n 3) 1 := by decide +kernel
theorem dX12_does_42 : cod mX12_does 42 (.iload 4) 2 := by decide +kernel
theorem dX12_does_44 : cod mX12_does 44 (.invokevirtual 121) 3 := by decide +kernel
theorem dX12_does_47 : cod mX12_does 47 (.ireturn) 1 := by decide +kernel
def wp_X12_does (p0 : Nat) (p1 : Int32) (p2 : Int32) (p3 : Int32) (p4 : Int32) (M : Mem) (Q : Int32 → Mem → Prop) : Prop := mK M p0 = 13 ∧ wp_X12_isSort p0 p1 M (fun r3 M2 => (r3 = (0 : Int32) → Q (-1) M2) ∧ (¬ r3 = (0 : Int32) → mK M2 p0 = 13 ∧ wp_X12_isWorth p0 p2 M2 (fun r10 M9 => (r10 = (0 : Int32) → Q (-1) M9) ∧ (¬ r10 = (0 : Int32) → wp_X12_isSlate p3 p4 M9 (fun r17 M16 => (¬ r17 = (0 : Int32) → mK M16 p0 = 13 ∧ mK M16 (mR M16 p0 0) = 7 ∧ mK M16 (mR M16 (mR M16 p0 0) 2) = 20 ∧ vp_in p2 (mN M16 (mR M16 (mR M16 p0 0) 2)) ∧ wp_X6_dealOf (mR M16 p0 0) p1 (mI M16 (mR M16 (mR M16 p0 0) 2) p2.toNatClampNeg) p3 p4 M16 (fun r24 M23 => Q r24 M23)) ∧ (r17 = (0 : Int32) → Q (-1) M16))))))
theorem T_X12_does {G : GG} {Q : Int32 → Mem → Prop} {M : Mem} {p0 : Nat} {p1 : Int32} {p2 : Int32} {p3 : Int32} {p4 : Int32} (h : wp_X12_does p0 p1 p2 p3 p4 M Q) : PMet G mX12_does 2 0 0 [.ref p0, .int p1, .int p2, .int p3, .int p4] M (QI Q) :=
  mk_met (by decide) rfl rfl (by
    intro w hw x9 e9
    subst e9
    simp at hw) (Nat.le_of_ble_eq_true rfl) (s_pad (L1 := [some (.ref p0), some (.int p1), some (.int p2), some (.int p3), some (.int p4)]) 5 rfl (s_aload_n (pc := 0) dX12_does_0 rfl (s_iload_n (pc := 1) dX12_does_1 rfl (s_callV (pc := 2) (As := [.int p1]) (rest := []) (d' := 0) (mc' := 0) (ms' := 0) dX12_does_2 c_X12_99 (Nat.le_of_ble_eq_true rfl) rfl h.1 rfl rfl (Nat.le_of_ble_eq_true rfl) (rm_ok rfl rfl) ⟨Nat.le_refl 0, Nat.le_refl 0⟩ (T_X12_isSort h.2) (kkI (fun r3 M2 h1 => s_if_eq (pc := 5) (tgt := 25) dX12_does_5 rfl (fun c4 => have h5 := h1.1 c4; s_iconst (pc := 25) dX12_does_25 ci_m1 (s_ireturn (pc := 26) dX12_does_26 rfl (Nat.zero_le _) (Nat.zero_le _) ⟨_, rfl, h5⟩)) (fun c6 => have h7 := h1.2 c6; s_aload_n (pc := 8) dX12_does_8 rfl (s_iload_n (pc := 9) dX12_does_9 rfl (s_callV (pc := 10) (As := [.int p2]) (rest := []) (d' := 0) (mc' := 0) (ms' := 0) dX12_does_10 c_X12_85 (Nat.le_of_ble_eq_true rfl) rfl h7.1 rfl rfl (Nat.le_of_ble_eq_true rfl) (rm_ok rfl rfl) ⟨Nat.le_refl 0, Nat.le_refl 0⟩ (T_X12_isWorth h7.2) (kkI (fun r10 M9 h8 => s_if_eq (pc := 13) (tgt := 25) dX12_does_13 rfl (fun c11 => have h12 := h8.1 c11; s_iconst (pc := 25) dX12_does_25 ci_m1 (s_ireturn (pc := 26) dX12_does_26 rfl (Nat.zero_le _) (Nat.zero_le _) ⟨_, rfl, h12⟩)) (fun c13 => have h14 := h8.2 c13; s_iload_n (pc := 16) dX12_does_16 rfl (s_iload (pc := 17) dX12_does_17 rfl (s_callS (pc := 19) (As := [.int p3, .int p4]) (rest := []) (d' := 0) (mc' := 0) (ms' := 0) dX12_does_19 c_X12_118 rfl rfl (Nat.le_of_ble_eq_true rfl) (rm_ok rfl rfl) ⟨Nat.le_refl 0, Nat.le_refl 0⟩ (T_X12_isSlate h14) (kkI (fun r17 M16 h15 => s_if_ne (pc := 22) (tgt := 27) dX12_does_22 rfl (fun c18 => have h19 := h15.1 c18; s_aload_n (pc := 27) dX12_does_27 rfl (s_getR (pc := 28) dX12_does_28 f_X12_10 rfl h19.1 (s_iload_n (pc := 31) dX12_does_31 rfl (s_aload_n (pc := 32) dX12_does_32 rfl (s_getR (pc := 33) dX12_does_33 f_X12_10 rfl h19.1 (s_getR (pc := 36) dX12_does_36 f_X12_96 rfl h19.2.1 (s_iload_n (pc := 39) dX12_does_39 rfl (s_ial (pc := 40) dX12_does_40 h19.2.2.1 h19.2.2.2.1 (s_iload_n (pc := 41) dX12_does_41 rfl (s_iload (pc := 42) dX12_does_42 rfl (s_callV (pc := 44) (As := [.int p1, .int (mI M16 (mR M16 (mR M16 p0 0) 2) p2.toNatClampNeg), .int p3, .int p4]) (rest := []) (d' := 1) (mc' := 0) (ms' := 0) dX12_does_44 c_X12_121 (Nat.le_of_ble_eq_true rfl) rfl h19.2.1 rfl rfl (Nat.le_of_ble_eq_true rfl) (rm_ok rfl rfl) ⟨Nat.le_refl 0, Nat.le_refl 0⟩ (T_X6_dealOf h19.2.2.2.2) (kkI (fun r24 M23 h22 => s_ireturn (pc := 47) dX12_does_47 rfl (Nat.zero_le _) (Nat.zero_le _) ⟨_, rfl, h22⟩))))))))))))) (fun c20 => have h21 := h15.2 c20; s_iconst (pc := 25) dX12_does_25 ci_m1 (s_ireturn (pc := 26) dX12_does_26 rfl (Nat.zero_le _) (Nat.zero_le _) ⟨_, rfl, h21⟩))))))))))))))))))
/-! X12_event -/
theorem dX12_event_0 : cod mX12_event 0 (.iload_n 1) 1 := by decide +kernel
theorem dX12_event_1 : cod mX12_event 1 (.invokestatic 125) 3 := by decide +kernel
theorem dX12_event_4 : cod mX12_event 4 (.ifCond .eq 11) 3 := by decide +kernel
theorem dX12_event_7 : cod mX12_event 7 (.iload_n 2) 1 := by decide +kernel
theorem dX12_event_8 : cod mX12_event 8 (.iload_n 3) 1 := by decide +kernel
theorem dX12_event_9 : cod mX12_event 9 (.invokestatic 118) 3 := by decide +kernel
theorem dX12_event_12 : cod mX12_event 12 (.ifCond .ne 5) 3 := by decide +kernel
theorem dX12_event_15 : cod mX12_event 15 (.iconst (-1)) 1 := by decide +kernel
theorem dX12_event_16 : cod mX12_event 16 (.ireturn) 1 := by decide +kernel
theorem dX12_event_17 : cod mX12_event 17 (.aload_n 0) 1 := by decide +kernel
theorem dX12_event_18 : cod mX12_event 18 (.getfield 10) 3 := by decide +kernel
theorem dX12_event_21 : cod mX12_event 21 (.invokevirtual 132) 3 := by decide +kernel
theorem dX12_event_24 : cod mX12_event 24 (.ifCond .eq 24) 3 := by decide +kernel
theorem dX12_event_27 : cod mX12_event 27 (.aload_n 0) 1 := by decide +kernel
theorem dX12_event_28 : cod mX12_event 28 (.getfield 29) 3 := by decide +kernel
theorem dX12_event_31 : cod mX12_event 31 (.aload_n 0) 1 := by decide +kernel
theorem dX12_event_32 : cod mX12_event 32 (.getfield 25) 3 := by decide +kernel
theorem dX12_event_35 : cod mX12_event 35 (.aload_n 0) 1 := by decide +kernel
theorem dX12_event_36 : cod mX12_event 36 (.getfield 10) 3 := by decide +kernel
theorem dX12_event_39 : cod mX12_event 39 (.iload_n 1) 1 := by decide +kernel
theorem dX12_event_40 : cod mX12_event 40 (.iload_n 2) 1 := by decide +kernel
theorem dX12_event_41 : cod mX12_event 41 (.iload_n 3) 1 := by decide +kernel
theorem dX12_event_42 : cod mX12_event 42 (.invokevirtual 140) 3 := by decide +kernel
theorem dX12_event_45 : cod mX12_event 45 (.ifCond .ne 6) 3 := by decide +kernel
theorem dX12_event_48 : cod mX12_event 48 (.bipush (-3)) 2 := by decide +kernel
theorem dX12_event_50 : cod mX12_event 50 (.ireturn) 1 := by decide +kernel
theorem dX12_event_51 : cod mX12_event 51 (.aload_n 0) 1 := by decide +kernel
theorem dX12_event_52 : cod mX12_event 52 (.getfield 25) 3 := by decide +kernel
theorem dX12_event_55 : cod mX12_event 55 (.aload_n 0) 1 := by decide +kernel
theorem dX12_event_56 : cod mX12_event 56 (.getfield 29) 3 := by decide +kernel
theorem dX12_event_59 : cod mX12_event 59 (.invokevirtual 144) 3 := by decide +kernel
theorem dX12_event_62 : cod mX12_event 62 (.aload_n 0) 1 := by decide +kernel
theorem dX12_event_63 : cod mX12_event 63 (.getfield 25) 3 := by decide +kernel
theorem dX12_event_66 : cod mX12_event 66 (.aload_n 0) 1 := by decide +kernel
theorem dX12_event_67 : cod mX12_event 67 (.getfield 10) 3 := by decide +kernel
theorem dX12_event_70 : cod mX12_event 70 (.invokevirtual 136) 3 := by decide +kernel
theorem dX12_event_73 : cod mX12_event 73 (.ireturn) 1 := by decide +kernel
def wp_X12_event (p0 : Nat) (p1 : Int32) (p2 : Int32) (p3 : Int32) (M : Mem) (Q : Int32 → Mem → Prop) : Prop := wp_X12_isEvent p1 M (fun r3 M2 => (r3 = (0 : Int32) → Q (-1) M2) ∧ (¬ r3 = (0 : Int32) → wp_X12_isSlate p2 p3 M2 (fun r10 M9 => (¬ r10 = (0 : Int32) → mK M9 p0 = 13 ∧ mK M9 (mR M9 p0 0) = 7 ∧ wp_X6_isReady (mR M9 p0 0) M9 (fun r17 M16 => (r17 = (0 : Int32) → Q (-3) M16) ∧ (¬ r17 = (0 : Int32) → mK M16 p0 = 13 ∧ mK M16 (mR M16 p0 4) = 10 ∧ wp_X9_follow (mR M16 p0 4) (mR M16 p0 3) (mR M16 p0 0) p1 p2 p3 M16 (fun r24 M23 => (¬ r24 = (0 : Int32) → mK M23 p0 = 13 ∧ mK M23 (mR M23 p0 3) = 10 ∧ wp_X9_copyFrom (mR M23 p0 3) (mR M23 p0 4) M23 (fun M30 => mK M30 p0 = 13 ∧ mK M30 (mR M30 p0 3) = 10 ∧ wp_X9_meanValue (mR M30 p0 3) (mR M30 p0 0) M30 (fun r33 M32 => Q r33 M32))) ∧ (r24 = (0 : Int32) → Q (-3) M23))))) ∧ (r10 = (0 : Int32) → Q (-1) M9))))
theorem T_X12_event {G : GG} {Q : Int32 → Mem → Prop} {M : Mem} {p0 : Nat} {p1 : Int32} {p2 : Int32} {p3 : Int32} (h : wp_X12_event p0 p1 p2 p3 M Q) : PMet G mX12_event 3 0 0 [.ref p0, .int p1, .int p2, .int p3] M (QI Q) :=
  mk_met (by decide) rfl rfl (by
    intro w hw x9 e9
    subst e9
    simp at hw) (Nat.le_of_ble_eq_true rfl) (s_pad (L1 := [some (.ref p0), some (.int p1), some (.int p2), some (.int p3)]) 4 rfl (s_iload_n (pc := 0) dX12_event_0 rfl (s_callS (pc := 1) (As := [.int p1]) (rest := []) (d' := 0) (mc' := 0) (ms' := 0) dX12_event_1 c_X12_125 rfl rfl (Nat.le_of_ble_eq_true rfl) (rm_ok rfl rfl) ⟨Nat.le_refl 0, Nat.le_refl 0⟩ (T_X12_isEvent h) (kkI (fun r3 M2 h1 => s_if_eq (pc := 4) (tgt := 15) dX12_event_4 rfl (fun c4 => have h5 := h1.1 c4; s_iconst (pc := 15) dX12_event_15 ci_m1 (s_ireturn (pc := 16) dX12_event_16 rfl (Nat.zero_le _) (Nat.zero_le _) ⟨_, rfl, h5⟩)) (fun c6 => have h7 := h1.2 c6; s_iload_n (pc := 7) dX12_event_7 rfl (s_iload_n (pc := 8) dX12_event_8 rfl (s_callS (pc := 9) (As := [.int p2, .int p3]) (rest := []) (d' := 0) (mc' := 0) (ms' := 0) dX12_event_9 c_X12_118 rfl rfl (Nat.le_of_ble_eq_true rfl) (rm_ok rfl rfl) ⟨Nat.le_refl 0, Nat.le_refl 0⟩ (T_X12_isSlate h7) (kkI (fun r10 M9 h8 => s_if_ne (pc := 12) (tgt := 17) dX12_event_12 rfl (fun c11 => have h12 := h8.1 c11; s_aload_n (pc := 17) dX12_event_17 rfl (s_getR (pc := 18) dX12_event_18 f_X12_10 rfl h12.1 (s_callV (pc := 21) (As := []) (rest := []) (d' := 1) (mc' := 0) (ms' := 0) dX12_event_21 c_X12_132 (Nat.le_of_ble_eq_true rfl) rfl h12.2.1 rfl rfl (Nat.le_of_ble_eq_true rfl) (rm_ok rfl rfl) ⟨Nat.le_refl 0, Nat.le_refl 0⟩ (T_X6_isReady h12.2.2) (kkI (fun r17 M16 h15 => s_if_eq (pc := 24) (tgt := 48) dX12_event_24 rfl (fun c18 => have h19 := h15.1 c18; s_bipush (pc := 48) dX12_event_48 cb_m3 (s_ireturn (pc := 50) dX12_event_50 rfl (Nat.zero_le _) (Nat.zero_le _) ⟨_, rfl, h19⟩)) (fun c20 => have h21 := h15.2 c20; s_aload_n (pc := 27) dX12_event_27 rfl (s_getR (pc := 28) dX12_event_28 f_X12_29 rfl h21.1 (s_aload_n (pc := 31) dX12_event_31 rfl (s_getR (pc := 32) dX12_event_32 f_X12_25 rfl h21.1 (s_aload_n (pc := 35) dX12_event_35 rfl (s_getR (pc := 36) dX12_event_36 f_X12_10 rfl h21.1 (s_iload_n (pc := 39) dX12_event_39 rfl (s_iload_n (pc := 40) dX12_event_40 rfl (s_iload_n (pc := 41) dX12_event_41 rfl (s_callV (pc := 42) (As := [.ref (mR M16 p0 3), .ref (mR M16 p0 0), .int p1, .int p2, .int p3]) (rest := []) (d' := 2) (mc' := 0) (ms' := 0) dX12_event_42 c_X12_140 (Nat.le_of_ble_eq_true rfl) rfl h21.2.1 rfl rfl (Nat.le_of_ble_eq_true rfl) (rm_ok rfl rfl) ⟨Nat.le_refl 0, Nat.le_refl 0⟩ (T_X9_follow h21.2.2) (kkI (fun r24 M23 h22 => s_if_ne (pc := 45) (tgt := 51) dX12_event_45 rfl (fun c25 => have h26 := h22.1 c25; s_aload_n (pc := 51) dX12_event_51 rfl (s_getR (pc := 52) dX12_event_52 f_X12_25 rfl h26.1 (s_aload_n (pc := 55) dX12_event_55 rfl (s_getR (pc := 56) dX12_event_56 f_X12_29 rfl h26.1 (s_callV (pc := 59) (As := [.ref (mR M23 p0 4)]) (rest := []) (d' := 0) (mc' := 0) (ms' := 0) dX12_event_59 c_X12_144 (Nat.le_of_ble_eq_true rfl) rfl h26.2.1 rfl rfl (Nat.le_of_ble_eq_true rfl) (rm_ok rfl rfl) ⟨Nat.le_refl 0, Nat.le_refl 0⟩ (T_X9_copyFrom h26.2.2) (kkV (fun M30 h29 => s_aload_n (pc := 62) dX12_event_62 rfl (s_getR (pc := 63) dX12_event_63 f_X12_25 rfl h29.1 (s_aload_n (pc := 66) dX12_event_66 rfl (s_getR (pc := 67) dX12_event_67 f_X12_10 rfl h29.1 (s_callV (pc := 70) (As := [.ref (mR M30 p0 0)]) (rest := []) (d' := 1) (mc' := 0) (ms' := 0) dX12_event_70 c_X12_136 (Nat.le_of_ble_eq_true rfl) rfl h29.2.1 rfl rfl (Nat.le_of_ble_eq_true rfl) (rm_ok rfl rfl) ⟨Nat.le_refl 0, Nat.le_refl 0⟩ (T_X9_meanValue h29.2.2) (kkI (fun r33 M32 h31 => s_ireturn (pc := 73) dX12_event_73 rfl (Nat.zero_le _) (Nat.zero_le _) ⟨_, rfl, h31⟩))))))))))))) (fun c27 => have h28 := h22.2 c27; s_bipush (pc := 48) dX12_event_48 cb_m3 (s_ireturn (pc := 50) dX12_event_50 rfl (Nat.zero_le _) (Nat.zero_le _) ⟨_, rfl, h28⟩))))))))))))))))))) (fun c13 => have h14 := h8.2 c13; s_iconst (pc := 15) dX12_event_15 ci_m1 (s_ireturn (pc := 16) dX12_event_16 rfl (Nat.zero_le _) (Nat.zero_le _) ⟨_, rfl, h14⟩))))))))))))
/-! X12_fair -/
theorem dX12_fair_0 : cod mX12_fair 0 (.iload_n 1) 1 := by decide +kernel
theorem dX12_fair_1 : cod mX12_fair 1 (.invokestatic 89) 3 := by decide +kernel
theorem dX12_fair_4 : cod mX12_fair 4 (.ifCond .ne 5) 3 := by decide +kernel
theorem dX12_fair_7 : cod mX12_fair 7 (.iconst (-1)) 1 := by decide +kernel
theorem dX12_fair_8 : cod mX12_fair 8 (.ireturn) 1 := by decide +kernel
theorem dX12_fair_9 : cod mX12_fair 9 (.aload_n 0) 1 := by decide +kernel
theorem dX12_fair_10 : cod mX12_fair 10 (.getfield 10) 3 := by decide +kernel
theorem dX12_fair_13 : cod mX12_fair 13 (.invokevirtual 132) 3 := by decide +kernel
theorem dX12_fair_16 : cod mX12_fair 16 (.ifCond .ne 6) 3 := by decide +kernel
theorem dX12_fair_19 : cod mX12_fair 19 (.bipush (-3)) 2 := by decide +kernel
theorem dX12_fair_21 : cod mX12_fair 21 (.ireturn) 1 := by decide +kernel
theorem dX12_fair_22 : cod mX12_fair 22 (.iload_n 1) 1 := by decide +kernel
theorem dX12_fair_23 : cod mX12_fair 23 (.ifCond .ne 17) 3 := by decide +kernel
theorem dX12_fair_26 : cod mX12_fair 26 (.aload_n 0) 1 := by decide +kernel
theorem dX12_fair_27 : cod mX12_fair 27 (.getfield 25) 3 := by decide +kernel
theorem dX12_fair_30 : cod mX12_fair 30 (.aload_n 0) 1 := by decide +kernel
theorem dX12_fair_31 : cod mX12_fair 31 (.getfield 10) 3 := by decide +kernel
theorem dX12_fair_34 : cod mX12_fair 34 (.invokevirtual 167) 3 := by decide +kernel
theorem dX12_fair_37 : cod mX12_fair 37 (.goto 14) 3 := by decide +kernel
theorem dX12_fair_40 : cod mX12_fair 40 (.aload_n 0) 1 := by decide +kernel
theorem dX12_fair_41 : cod mX12_fair 41 (.getfield 25) 3 := by decide +kernel
theorem dX12_fair_44 : cod mX12_fair 44 (.aload_n 0) 1 := by decide +kernel
theorem dX12_fair_45 : cod mX12_fair 45 (.getfield 10) 3 := by decide +kernel
theorem dX12_fair_48 : cod mX12_fair 48 (.invokevirtual 170) 3 := by decide +kernel
theorem dX12_fair_51 : cod mX12_fair 51 (.ireturn) 1 := by decide +kernel
def wp_X12_fair (p0 : Nat) (p1 : Int32) (M : Mem) (Q : Int32 → Mem → Prop) : Prop := wp_X12_isPart p1 M (fun r3 M2 => (¬ r3 = (0 : Int32) → mK M2 p0 = 13 ∧ mK M2 (mR M2 p0 0) = 7 ∧ wp_X6_isReady (mR M2 p0 0) M2 (fun r10 M9 => (¬ r10 = (0 : Int32) → (¬ p1 = (0 : Int32) → mK M9 p0 = 13 ∧ mK M9 (mR M9 p0 3) = 10 ∧ wp_X9_fairBid (mR M9 p0 3) (mR M9 p0 0) M9 (fun r21 M20 => Q r21 M20)) ∧ (p1 = (0 : Int32) → mK M9 p0 = 13 ∧ mK M9 (mR M9 p0 3) = 10 ∧ wp_X9_fairAsk (mR M9 p0 3) (mR M9 p0 0) M9 (fun r24 M23 => Q r24 M23))) ∧ (r10 = (0 : Int32) → Q (-3) M9))) ∧ (r3 = (0 : Int32) → Q (-1) M2))
theorem T_X12_fair {G : GG} {Q : Int32 → Mem → Prop} {M : Mem} {p0 : Nat} {p1 : Int32} (h : wp_X12_fair p0 p1 M Q) : PMet G mX12_fair 2 0 0 [.ref p0, .int p1] M (QI Q) :=
  mk_met (by decide) rfl rfl (by
    intro w hw x9 e9
    subst e9
    simp at hw) (Nat.le_of_ble_eq_true rfl) (s_pad (L1 := [some (.ref p0), some (.int p1)]) 2 rfl (s_iload_n (pc := 0) dX12_fair_0 rfl (s_callS (pc := 1) (As := [.int p1]) (rest := []) (d' := 0) (mc' := 0) (ms' := 0) dX12_fair_1 c_X12_89 rfl rfl (Nat.le_of_ble_eq_true rfl) (rm_ok rfl rfl) ⟨Nat.le_refl 0, Nat.le_refl 0⟩ (T_X12_isPart h) (kkI (fun r3 M2 h1 => s_if_ne (pc := 4) (tgt := 9) dX12_fair_4 rfl (fun c4 => have h5 := h1.1 c4; s_aload_n (pc := 9) dX12_fair_9 rfl (s_getR (pc := 10) dX12_fair_10 f_X12_10 rfl h5.1 (s_callV (pc := 13) (As := []) (rest := []) (d' := 1) (mc' := 0) (ms' := 0) dX12_fair_13 c_X12_132 (Nat.le_of_ble_eq_true rfl) rfl h5.2.1 rfl rfl (Nat.le_of_ble_eq_true rfl) (rm_ok rfl rfl) ⟨Nat.le_refl 0, Nat.le_refl 0⟩ (T_X6_isReady h5.2.2) (kkI (fun r10 M9 h8 => s_if_ne (pc := 16) (tgt := 22) dX12_fair_16 rfl (fun c11 => have h12 := h8.1 c11; s_iload_n (pc := 22) dX12_fair_22 rfl (s_if_ne (pc := 23) (tgt := 40) dX12_fair_23 rfl (fun c15 => have h16 := h12.1 c15; s_aload_n (pc := 40) dX12_fair_40 rfl (s_getR (pc := 41) dX12_fair_41 f_X12_25 rfl h16.1 (s_aload_n (pc := 44) dX12_fair_44 rfl (s_getR (pc := 45) dX12_fair_45 f_X12_10 rfl h16.1 (s_callV (pc := 48) (As := [.ref (mR M9 p0 0)]) (rest := []) (d' := 0) (mc' := 0) (ms' := 0) dX12_fair_48 c_X12_170 (Nat.le_of_ble_eq_true rfl) rfl h16.2.1 rfl rfl (Nat.le_of_ble_eq_true rfl) (rm_ok rfl rfl) ⟨Nat.le_refl 0, Nat.le_refl 0⟩ (T_X9_fairBid h16.2.2) (kkI (fun r21 M20 h19 => s_ireturn (pc := 51) dX12_fair_51 rfl (Nat.zero_le _) (Nat.zero_le _) ⟨_, rfl, h19⟩))))))) (fun c17 => have h18 := h12.2 c17; s_aload_n (pc := 26) dX12_fair_26 rfl (s_getR (pc := 27) dX12_fair_27 f_X12_25 rfl h18.1 (s_aload_n (pc := 30) dX12_fair_30 rfl (s_getR (pc := 31) dX12_fair_31 f_X12_10 rfl h18.1 (s_callV (pc := 34) (As := [.ref (mR M9 p0 0)]) (rest := []) (d' := 0) (mc' := 0) (ms' := 0) dX12_fair_34 c_X12_167 (Nat.le_of_ble_eq_true rfl) rfl h18.2.1 rfl rfl (Nat.le_of_ble_eq_true rfl) (rm_ok rfl rfl) ⟨Nat.le_refl 0, Nat.le_refl 0⟩ (T_X9_fairAsk h18.2.2) (kkI (fun r24 M23 h22 => s_goto (pc := 37) (tgt := 51) dX12_fair_37 rfl (s_ireturn (pc := 51) dX12_fair_51 rfl (Nat.zero_le _) (Nat.zero_le _) ⟨_, rfl, h22⟩)))))))))) (fun c13 => have h14 := h8.2 c13; s_bipush (pc := 19) dX12_fair_19 cb_m3 (s_ireturn (pc := 21) dX12_fair_21 rfl (Nat.zero_le _) (Nat.zero_le _) ⟨_, rfl, h14⟩))))))) (fun c6 => have h7 := h1.2 c6; s_iconst (pc := 7) dX12_fair_7 ci_m1 (s_ireturn (pc := 8) dX12_fair_8 rfl (Nat.zero_le _) (Nat.zero_le _) ⟨_, rfl, h7⟩)))))))
/-! X12_held -/
theorem dX12_held_0 : cod mX12_held 0 (.aload_n 0) 1 := by decide +kernel
theorem dX12_held_1 : cod mX12_held 1 (.getfield 25) 3 := by decide +kernel
theorem dX12_held_4 : cod mX12_held 4 (.getfield 163) 3 := by decide +kernel
theorem dX12_held_7 : cod mX12_held 7 (.ireturn) 1 := by decide +kernel
def wp_X12_held (p0 : Nat) (M : Mem) (Q : Int32 → Mem → Prop) : Prop := mK M p0 = 13 ∧ mK M (mR M p0 3) = 10 ∧ Q (mI M (mR M p0 3) 1) M
theorem T_X12_held {G : GG} {Q : Int32 → Mem → Prop} {M : Mem} {p0 : Nat} (h : wp_X12_held p0 M Q) : PMet G mX12_held 0 0 0 [.ref p0] M (QI Q) :=
  mk_met (by decide) rfl rfl (by
    intro w hw x9 e9
    subst e9
    simp at hw) (Nat.le_of_ble_eq_true rfl) (s_pad (L1 := [some (.ref p0)]) 1 rfl (s_aload_n (pc := 0) dX12_held_0 rfl (s_getR (pc := 1) dX12_held_1 f_X12_25 rfl h.1 (s_getI (pc := 4) dX12_held_4 f_X12_163 rfl h.2.1 (s_ireturn (pc := 7) dX12_held_7 rfl (Nat.zero_le _) (Nat.zero_le _) ⟨_, rfl, h.2.2⟩)))))
/-! X6_copyFrom -/
theorem dX6_copyFrom_0 : cod mX6_copyFrom 0 (.aload_n 0) 1 := by decide +kernel
theorem dX6_copyFrom_1 : cod mX6_copyFrom 1 (.aload_n 1) 1 := by decide +kernel
theorem dX6_copyFrom_2 : cod mX6_copyFrom 2 (.getfield 40) 3 := by decide +kernel
theorem dX6_copyFrom_5 : cod mX6_copyFrom 5 (.putfield 40) 3 := by decide +kernel
theorem dX6_copyFrom_8 : cod mX6_copyFrom 8 (.aload_n 0) 1 := by decide +kernel
theorem dX6_copyFrom_9 : cod mX6_copyFrom 9 (.aload_n 1) 1 := by decide +kernel
theorem dX6_copyFrom_10 : cod mX6_copyFrom 10 (.getfield 43) 3 := by decide +kernel
theorem dX6_copyFrom_13 : cod mX6_copyFrom 13 (.putfield 43) 3 := by decide +kernel
theorem dX6_copyFrom_16 : cod mX6_copyFrom 16 (.aload_n 0) 1 := by decide +kernel
theorem dX6_copyFrom_17 : cod mX6_copyFrom 17 (.aload_n 1) 1 := by decide +kernel
theorem dX6_copyFrom_18 : cod mX6_copyFrom 18 (.getfield 27) 3 := by decide +kernel
theorem dX6_copyFrom_21 : cod mX6_copyFrom 21 (.putfield 27) 3 := by decide +kernel
theorem dX6_copyFrom_24 : cod mX6_copyFrom 24 (.aload_n 0) 1 := by decide +kernel
theorem dX6_copyFrom_25 : cod mX6_copyFrom 25 (.aload_n 1) 1 := by decide +kernel
theorem dX6_copyFrom_26 : cod mX6_copyFrom 26 (.getfield 46) 3 := by decide +kernel
theorem dX6_copyFrom_29 : cod mX6_copyFrom 29 (.putfield 46) 3 := by decide +kernel
theorem dX6_copyFrom_32 : cod mX6_copyFrom 32 (.aload_n 0) 1 := by decide +kernel
theorem dX6_copyFrom_33 : cod mX6_copyFrom 33 (.aload_n 1) 1 := by decide +kernel
theorem dX6_copyFrom_34 : cod mX6_copyFrom 34 (.getfield 31) 3 := by decide +kernel
theorem dX6_copyFrom_37 : cod mX6_copyFrom 37 (.putfield 31) 3 := by decide +kernel
theorem dX6_copyFrom_40 : cod mX6_copyFrom 40 (.aload_n 1) 1 := by decide +kernel
theorem dX6_copyFrom_41 : cod mX6_copyFrom 41 (.getfield 9) 3 := by decide +kernel
theorem dX6_copyFrom_44 : cod mX6_copyFrom 44 (.iconst 0) 1 := by decide +kernel
theorem dX6_copyFrom_45 : cod mX6_copyFrom 45 (.aload_n 0) 1 := by decide +kernel
theorem dX6_copyFrom_46 : cod mX6_copyFrom 46 (.getfield 9) 3 := by decide +kernel
theorem dX6_copyFrom_49 : cod mX6_copyFrom 49 (.iconst 0) 1 := by decide +kernel
theorem dX6_copyFrom_50 : cod mX6_copyFrom 50 (.bipush 6) 2 := by decide +kernel
theorem dX6_copyFrom_52 : cod mX6_copyFrom 52 (.invokestatic 49) 3 := by decide +kernel
theorem dX6_copyFrom_55 : cod mX6_copyFrom 55 (.aload_n 1) 1 := by decide +kernel
theorem dX6_copyFrom_56 : cod mX6_copyFrom 56 (.getfield 15) 3 := by decide +kernel
theorem dX6_copyFrom_59 : cod mX6_copyFrom 59 (.iconst 0) 1 := by decide +kernel
theorem dX6_copyFrom_60 : cod mX6_copyFrom 60 (.aload_n 0) 1 := by decide +kernel
theorem dX6_copyFrom_61 : cod mX6_copyFrom 61 (.getfield 15) 3 := by decide +kernel
theorem dX6_copyFrom_64 : cod mX6_copyFrom 64 (.iconst 0) 1 := by decide +kernel
theorem dX6_copyFrom_65 : cod mX6_copyFrom 65 (.bipush 6) 2 := by decide +kernel
theorem dX6_copyFrom_67 : cod mX6_copyFrom 67 (.invokestatic 49) 3 := by decide +kernel
theorem dX6_copyFrom_70 : cod mX6_copyFrom 70 (.aload_n 1) 1 := by decide +kernel
theorem dX6_copyFrom_71 : cod mX6_copyFrom 71 (.getfield 18) 3 := by decide +kernel
theorem dX6_copyFrom_74 : cod mX6_copyFrom 74 (.iconst 0) 1 := by decide +kernel
theorem dX6_copyFrom_75 : cod mX6_copyFrom 75 (.aload_n 0) 1 := by decide +kernel
theorem dX6_copyFrom_76 : cod mX6_copyFrom 76 (.getfield 18) 3 := by decide +kernel
theorem dX6_copyFrom_79 : cod mX6_copyFrom 79 (.iconst 0) 1 := by decide +kernel
theorem dX6_copyFrom_80 : cod mX6_copyFrom 80 (.bipush 6) 2 := by decide +kernel
theorem dX6_copyFrom_82 : cod mX6_copyFrom 82 (.invokestatic 49) 3 := by decide +kernel
theorem dX6_copyFrom_85 : cod mX6_copyFrom 85 (.aload_n 1) 1 := by decide +kernel
theorem dX6_copyFrom_86 : cod mX6_copyFrom 86 (.getfield 21) 3 := by decide +kernel
theorem dX6_copyFrom_89 : cod mX6_copyFrom 89 (.iconst 0) 1 := by decide +kernel
theorem dX6_copyFrom_90 : cod mX6_copyFrom 90 (.aload_n 0) 1 := by decide +kernel
theorem dX6_copyFrom_91 : cod mX6_copyFrom 91 (.getfield 21) 3 := by decide +kernel
theorem dX6_copyFrom_94 : cod mX6_copyFrom 94 (.iconst 0) 1 := by decide +kernel
theorem dX6_copyFrom_95 : cod mX6_copyFrom 95 (.bipush 6) 2 := by decide +kernel
theorem dX6_copyFrom_97 : cod mX6_copyFrom 97 (.invokestatic 49) 3 := by decide +kernel
theorem dX6_copyFrom_100 : cod mX6_copyFrom 100 (.aload_n 1) 1 := by decide +kernel
theorem dX6_copyFrom_101 : cod mX6_copyFrom 101 (.getfield 24) 3 := by decide +kernel
theorem dX6_copyFrom_104 : cod mX6_copyFrom 104 (.iconst 0) 1 := by decide +kernel
theorem dX6_copyFrom_105 : cod mX6_copyFrom 105 (.aload_n 0) 1 := by decide +kernel
theorem dX6_copyFrom_106 : cod mX6_copyFrom 106 (.getfield 24) 3 := by decide +kernel
theorem dX6_copyFrom_109 : cod mX6_copyFrom 109 (.iconst 0) 1 := by decide +kernel
theorem dX6_copyFrom_110 : cod mX6_copyFrom 110 (.bipush 6) 2 := by decide +kernel
theorem dX6_copyFrom_112 : cod mX6_copyFrom 112 (.invokestatic 49) 3 := by decide +kernel
theorem dX6_copyFrom_115 : cod mX6_copyFrom 115 (.aload_n 1) 1 := by decide +kernel
theorem dX6_copyFrom_116 : cod mX6_copyFrom 116 (.getfield 34) 3 := by decide +kernel
theorem dX6_copyFrom_119 : cod mX6_copyFrom 119 (.iconst 0) 1 := by decide +kernel
theorem dX6_copyFrom_120 : cod mX6_copyFrom 120 (.aload_n 0) 1 := by decide +kernel
theorem dX6_copyFrom_121 : cod mX6_copyFrom 121 (.getfield 34) 3 := by decide +kernel
theorem dX6_copyFrom_124 : cod mX6_copyFrom 124 (.iconst 0) 1 := by decide +kernel
theorem dX6_copyFrom_125 : cod mX6_copyFrom 125 (.sipush 606) 3 := by decide +kernel
theorem dX6_copyFrom_128 : cod mX6_copyFrom 128 (.invokestatic 49) 3 := by decide +kernel
theorem dX6_copyFrom_131 : cod mX6_copyFrom 131 (.aload_n 1) 1 := by decide +kernel
theorem dX6_copyFrom_132 : cod mX6_copyFrom 132 (.getfield 37) 3 := by decide +kernel
theorem dX6_copyFrom_135 : cod mX6_copyFrom 135 (.iconst 0) 1 := by decide +kernel
theorem dX6_copyFrom_136 : cod mX6_copyFrom 136 (.aload_n 0) 1 := by decide +kernel
theorem dX6_copyFrom_137 : cod mX6_copyFrom 137 (.getfield 37) 3 := by decide +kernel
theorem dX6_copyFrom_140 : cod mX6_copyFrom 140 (.iconst 0) 1 := by decide +kernel
theorem dX6_copyFrom_141 : cod mX6_copyFrom 141 (.sipush 606) 3 := by decide +kernel
theorem dX6_copyFrom_144 : cod mX6_copyFrom 144 (.invokestatic 49) 3 := by decide +kernel
theorem dX6_copyFrom_147 : cod mX6_copyFrom 147 (.return_) 1 := by decide +kernel
def wp_X6_copyFrom (p0 : Nat) (p1 : Nat) (M : Mem) (Q : Mem → Prop) : Prop := mK M p1 = 7 ∧ mK M p0 = 7 ∧ ∀ M1 : Mem, M1 = uI M p0 0 (mI M p1 0) → ∀ M4 : Mem, M4 = uI M1 p0 3 (mI M1 p1 3) → ∀ M7 : Mem, M7 = uI M4 p0 7 (mI M4 p1 7) → ∀ M10 : Mem, M10 = uI M7 p0 8 (mI M7 p1 8) → ∀ M13 : Mem, M13 = uI M10 p0 9 (mI M10 p1 9) → mK M13 (mR M13 p1 1) = 20 ∧ mK M13 (mR M13 p0 1) = 20 ∧ ¬ (0 : Int32) < 0 ∧ ¬ (0 : Int32) < 0 ∧ ¬ (6 : Int32) < 0 ∧ (0 : Int32).toNatClampNeg + (6 : Int32).toNatClampNeg ≤ mN M13 (mR M13 p1 1) ∧ (0 : Int32).toNatClampNeg + (6 : Int32).toNatClampNeg ≤ mN M13 (mR M13 p0 1) ∧ ∀ M16 : Mem, M16 = wI M13 (mR M13 p0 1) (va_cpy (mI M13 (mR M13 p1 1)) (mI M13 (mR M13 p0 1)) (0 : Int32).toNatClampNeg (0 : Int32).toNatClampNeg (6 : Int32).toNatClampNeg) → mK M16 (mR M16 p1 2) = 20 ∧ mK M16 (mR M16 p0 2) = 20 ∧ ¬ (0 : Int32) < 0 ∧ ¬ (0 : Int32) < 0 ∧ ¬ (6 : Int32) < 0 ∧ (0 : Int32).toNatClampNeg + (6 : Int32).toNatClampNeg ≤ mN M16 (mR M16 p1 2) ∧ (0 : Int32).toNatClampNeg + (6 : Int32).toNatClampNeg ≤ mN M16 (mR M16 p0 2) ∧ ∀ M19 : Mem, M19 = wI M16 (mR M16 p0 2) (va_cpy (mI M16 (mR M16 p1 2)) (mI M16 (mR M16 p0 2)) (0 : Int32).toNatClampNeg (0 : Int32).toNatClampNeg (6 : Int32).toNatClampNeg) → mK M19 (mR M19 p1 4) = 20 ∧ mK M19 (mR M19 p0 4) = 20 ∧ ¬ (0 : Int32) < 0 ∧ ¬ (0 : Int32) < 0 ∧ ¬ (6 : Int32) < 0 ∧ (0 : Int32).toNatClampNeg + (6 : Int32).toNatClampNeg ≤ mN M19 (mR M19 p1 4) ∧ (0 : Int32).toNatClampNeg + (6 : Int32).toNatClampNeg ≤ mN M19 (mR M19 p0 4) ∧ ∀ M22 : Mem, M22 = wI M19 (mR M19 p0 4) (va_cpy (mI M19 (mR M19 p1 4)) (mI M19 (mR M19 p0 4)) (0 : Int32).toNatClampNeg (0 : Int32).toNatClampNeg (6 : Int32).toNatClampNeg) → mK M22 (mR M22 p1 5) = 20 ∧ mK M22 (mR M22 p0 5) = 20 ∧ ¬ (0 : Int32) < 0 ∧ ¬ (0 : Int32) < 0 ∧ ¬ (6 : Int32) < 0 ∧ (0 : Int32).toNatClampNeg + (6 : Int32).toNatClampNeg ≤ mN M22 (mR M22 p1 5) ∧ (0 : Int32).toNatClampNeg + (6 : Int32).toNatClampNeg ≤ mN M22 (mR M22 p0 5) ∧ ∀ M25 : Mem, M25 = wI M22 (mR M22 p0 5) (va_cpy (mI M22 (mR M22 p1 5)) (mI M22 (mR M22 p0 5)) (0 : Int32).toNatClampNeg (0 : Int32).toNatClampNeg (6 : Int32).toNatClampNeg) → mK M25 (mR M25 p1 6) = 20 ∧ mK M25 (mR M25 p0 6) = 20 ∧ ¬ (0 : Int32) < 0 ∧ ¬ (0 : Int32) < 0 ∧ ¬ (6 : Int32) < 0 ∧ (0 : Int32).toNatClampNeg + (6 : Int32).toNatClampNeg ≤ mN M25 (mR M25 p1 6) ∧ (0 : Int32).toNatClampNeg + (6 : Int32).toNatClampNeg ≤ mN M25 (mR M25 p0 6) ∧ ∀ M28 : Mem, M28 = wI M25 (mR M25 p0 6) (va_cpy (mI M25 (mR M25 p1 6)) (mI M25 (mR M25 p0 6)) (0 : Int32).toNatClampNeg (0 : Int32).toNatClampNeg (6 : Int32).toNatClampNeg) → mK M28 (mR M28 p1 10) = 20 ∧ mK M28 (mR M28 p0 10) = 20 ∧ ¬ (0 : Int32) < 0 ∧ ¬ (0 : Int32) < 0 ∧ ¬ (606 : Int32) < 0 ∧ (0 : Int32).toNatClampNeg + (606 : Int32).toNatClampNeg ≤ mN M28 (mR M28 p1 10) ∧ (0 : Int32).toNatClampNeg + (606 : Int32).toNatClampNeg ≤ mN M28 (mR M28 p0 10) ∧ ∀ M31 : Mem, M31 = wI M28 (mR M28 p0 10) (va_cpy (mI M28 (mR M28 p1 10)) (mI M28 (mR M28 p0 10)) (0 : Int32).toNatClampNeg (0 : Int32).toNatClampNeg (606 : Int32).toNatClampNeg) → mK M31 (mR M31 p1 11) = 20 ∧ mK M31 (mR M31 p0 11) = 20 ∧ ¬ (0 : Int32) < 0 ∧ ¬ (0 : Int32) < 0 ∧ ¬ (606 : Int32) < 0 ∧ (0 : Int32).toNatClampNeg + (606 : Int32).toNatClampNeg ≤ mN M31 (mR M31 p1 11) ∧ (0 : Int32).toNatClampNeg + (606 : Int32).toNatClampNeg ≤ mN M31 (mR M31 p0 11) ∧ ∀ M34 : Mem, M34 = wI M31 (mR M31 p0 11) (va_cpy (mI M31 (mR M31 p1 11)) (mI M31 (mR M31 p0 11)) (0 : Int32).toNatClampNeg (0 : Int32).toNatClampNeg (606 : Int32).toNatClampNeg) → Q M34
theorem T_X6_copyFrom {G : GG} {Q : Mem → Prop} {M : Mem} {p0 : Nat} {p1 : Nat} (h : wp_X6_copyFrom p0 p1 M Q) : PMet G mX6_copyFrom 0 0 0 [.ref p0, .ref p1] M (QV Q) :=
  mk_met (by decide) rfl rfl (by
    intro w hw x9 e9
    subst e9
    simp at hw) (Nat.le_of_ble_eq_true rfl) (s_pad (L1 := [some (.ref p0), some (.ref p1)]) 2 rfl (s_aload_n (pc := 0) dX6_copyFrom_0 rfl (s_aload_n (pc := 1) dX6_copyFrom_1 rfl (s_getI (pc := 2) dX6_copyFrom_2 f_X6_40 rfl h.1 (s_putI (pc := 5) dX6_copyFrom_5 f_X6_40 (Or.inl rfl) (Or.inl rfl) h.2.1 (nmM (fun M1 e2 => have h3 := h.2.2 M1 e2; s_aload_n (pc := 8) dX6_copyFrom_8 rfl (s_aload_n (pc := 9) dX6_copyFrom_9 rfl (s_getI (pc := 10) dX6_copyFrom_10 f_X6_43 rfl ((congrFun (congrArg mK e2) p1).trans h.1) (s_putI (pc := 13) dX6_copyFrom_13 f_X6_43 (Or.inl rfl) (Or.inl rfl) ((congrFun (congrArg mK e2) p0).trans h.2.1) (nmM (fun M4 e5 => have h6 := h3 M4 e5; s_aload_n (pc := 16) dX6_copyFrom_16 rfl (s_aload_n (pc := 17) dX6_copyFrom_17 rfl (s_getI (pc := 18) dX6_copyFrom_18 f_X6_27 rfl ((congrFun (congrArg mK e5) p1).trans ((congrFun (congrArg mK e2) p1).trans h.1)) (s_putI (pc := 21) dX6_copyFrom_21 f_X6_27 (Or.inl rfl) (Or.inl rfl) ((congrFun (congrArg mK e5) p0).trans ((congrFun (congrArg mK e2) p0).trans h.2.1)) (nmM (fun M7 e8 => have h9 := h6 M7 e8; s_aload_n (pc := 24) dX6_copyFrom_24 rfl (s_aload_n (pc := 25) dX6_copyFrom_25 rfl (s_getI (pc := 26) dX6_copyFrom_26 f_X6_46 rfl ((congrFun (congrArg mK e8) p1).trans ((congrFun (congrArg mK e5) p1).trans ((congrFun (congrArg mK e2) p1).trans h.1))) (s_putI (pc := 29) dX6_copyFrom_29 f_X6_46 (Or.inl rfl) (Or.inl rfl) ((congrFun (congrArg mK e8) p0).trans ((congrFun (congrArg mK e5) p0).trans ((congrFun (congrArg mK e2) p0).trans h.2.1))) (nmM (fun M10 e11 => have h12 := h9 M10 e11; s_aload_n (pc := 32) dX6_copyFrom_32 rfl (s_aload_n (pc := 33) dX6_copyFrom_33 rfl (s_getI (pc := 34) dX6_copyFrom_34 f_X6_31 rfl ((congrFun (congrArg mK e11) p1).trans ((congrFun (congrArg mK e8) p1).trans ((congrFun (congrArg mK e5) p1).trans ((congrFun (congrArg mK e2) p1).trans h.1)))) (s_putI (pc := 37) dX6_copyFrom_37 f_X6_31 (Or.inl rfl) (Or.inl rfl) ((congrFun (congrArg mK e11) p0).trans ((congrFun (congrArg mK e8) p0).trans ((congrFun (congrArg mK e5) p0).trans ((congrFun (congrArg mK e2) p0).trans h.2.1)))) (nmM (fun M13 e14 => have h15 := h12 M13 e14; s_aload_n (pc := 40) dX6_copyFrom_40 rfl (s_getR (pc := 41) dX6_copyFrom_41 f_X6_9 rfl ((congrFun (congrArg mK e14) p1).trans ((congrFun (congrArg mK e11) p1).trans ((congrFun (congrArg mK e8) p1).trans ((congrFun (congrArg mK e5) p1).trans ((congrFun (congrArg mK e2) p1).trans h.1))))) (s_iconst (pc := 44) dX6_copyFrom_44 ci_0 (s_aload_n (pc := 45) dX6_copyFrom_45 rfl (s_getR (pc := 46) dX6_copyFrom_46 f_X6_9 rfl ((congrFun (congrArg mK e14) p0).trans ((congrFun (congrArg mK e11) p0).trans ((congrFun (congrArg mK e8) p0).trans ((congrFun (congrArg mK e5) p0).trans ((congrFun (congrArg mK e2) p0).trans h.2.1))))) (s_iconst (pc := 49) dX6_copyFrom_49 ci_0 (s_bipush (pc := 50) dX6_copyFrom_50 cb_6 (s_copyI (pc := 52) dX6_copyFrom_52 cp_X6_49 h15.1 h15.2.1 h15.2.2.1 h15.2.2.2.1 h15.2.2.2.2.1 h15.2.2.2.2.2.1 h15.2.2.2.2.2.2.1 (Nat.le_of_ble_eq_true rfl) (by decide +kernel) (nmM (fun M16 e17 => have h18 := (h15.2.2.2.2.2.2.2) M16 e17; s_aload_n (pc := 55) dX6_copyFrom_55 rfl (s_getR (pc := 56) dX6_copyFrom_56 f_X6_15 rfl ((congrFun (congrArg mK e17) p1).trans ((congrFun (congrArg mK e14) p1).trans ((congrFun (congrArg mK e11) p1).trans ((congrFun (congrArg mK e8) p1).trans ((congrFun (congrArg mK e5) p1).trans ((congrFun (congrArg mK e2) p1).trans h.1)))))) (s_iconst (pc := 59) dX6_copyFrom_59 ci_0 (s_aload_n (pc := 60) dX6_copyFrom_60 rfl (s_getR (pc := 61) dX6_copyFrom_61 f_X6_15 rfl ((congrFun (congrArg mK e17) p0).trans ((congrFun (congrArg mK e14) p0).trans ((congrFun (congrArg mK e11) p0).trans ((congrFun (congrArg mK e8) p0).trans ((congrFun (congrArg mK e5) p0).trans ((congrFun (congrArg mK e2) p0).trans h.2.1)))))) (s_iconst (pc := 64) dX6_copyFrom_64 ci_0 (s_bipush (pc := 65) dX6_copyFrom_65 cb_6 (s_copyI (pc := 67) dX6_copyFrom_67 cp_X6_49 h18.1 h18.2.1 h18.2.2.1 h18.2.2.2.1 h18.2.2.2.2.1 h18.2.2.2.2.2.1 h18.2.2.2.2.2.2.1 (Nat.le_of_ble_eq_true rfl) (by decide +kernel) (nmM (fun M19 e20 => have h21 := (h18.2.2.2.2.2.2.2) M19 e20; s_aload_n (pc := 70) dX6_copyFrom_70 rfl (s_getR (pc := 71) dX6_copyFrom_71 f_X6_18 rfl ((congrFun (congrArg mK e20) p1).trans ((congrFun (congrArg mK e17) p1).trans ((congrFun (congrArg mK e14) p1).trans ((congrFun (congrArg mK e11) p1).trans ((congrFun (congrArg mK e8) p1).trans ((congrFun (congrArg mK e5) p1).trans ((congrFun (congrArg mK e2) p1).trans h.1))))))) (s_iconst (pc := 74) dX6_copyFrom_74 ci_0 (s_aload_n (pc := 75) dX6_copyFrom_75 rfl (s_getR (pc := 76) dX6_copyFrom_76 f_X6_18 rfl ((congrFun (congrArg mK e20) p0).trans ((congrFun (congrArg mK e17) p0).trans ((congrFun (congrArg mK e14) p0).trans ((congrFun (congrArg mK e11) p0).trans ((congrFun (congrArg mK e8) p0).trans ((congrFun (congrArg mK e5) p0).trans ((congrFun (congrArg mK e2) p0).trans h.2.1))))))) (s_iconst (pc := 79) dX6_copyFrom_79 ci_0 (s_bipush (pc := 80) dX6_copyFrom_80 cb_6 (s_copyI (pc := 82) dX6_copyFrom_82 cp_X6_49 h21.1 h21.2.1 h21.2.2.1 h21.2.2.2.1 h21.2.2.2.2.1 h21.2.2.2.2.2.1 h21.2.2.2.2.2.2.1 (Nat.le_of_ble_eq_true rfl) (by decide +kernel) (nmM (fun M22 e23 => have h24 := (h21.2.2.2.2.2.2.2) M22 e23; s_aload_n (pc := 85) dX6_copyFrom_85 rfl (s_getR (pc := 86) dX6_copyFrom_86 f_X6_21 rfl ((congrFun (congrArg mK e23) p1).trans ((congrFun (congrArg mK e20) p1).trans ((congrFun (congrArg mK e17) p1).trans ((congrFun (congrArg mK e14) p1).trans ((congrFun (congrArg mK e11) p1).trans ((congrFun (congrArg mK e8) p1).trans ((congrFun (congrArg mK e5) p1).trans ((congrFun (congrArg mK e2) p1).trans h.1)))))))) (s_iconst (pc := 89) dX6_copyFrom_89 ci_0 (s_aload_n (pc := 90) dX6_copyFrom_90 rfl (s_getR (pc := 91) dX6_copyFrom_91 f_X6_21 rfl ((congrFun (congrArg mK e23) p0).trans ((congrFun (congrArg mK e20) p0).trans ((congrFun (congrArg mK e17) p0).trans ((congrFun (congrArg mK e14) p0).trans ((congrFun (congrArg mK e11) p0).trans ((congrFun (congrArg mK e8) p0).trans ((congrFun (congrArg mK e5) p0).trans ((congrFun (congrArg mK e2) p0).trans h.2.1)))))))) (s_iconst (pc := 94) dX6_copyFrom_94 ci_0 (s_bipush (pc := 95) dX6_copyFrom_95 cb_6 (s_copyI (pc := 97) dX6_copyFrom_97 cp_X6_49 h24.1 h24.2.1 h24.2.2.1 h24.2.2.2.1 h24.2.2.2.2.1 h24.2.2.2.2.2.1 h24.2.2.2.2.2.2.1 (Nat.le_of_ble_eq_true rfl) (by decide +kernel) (nmM (fun M25 e26 => have h27 := (h24.2.2.2.2.2.2.2) M25 e26; s_aload_n (pc := 100) dX6_copyFrom_100 rfl (s_getR (pc := 101) dX6_copyFrom_101 f_X6_24 rfl ((congrFun (congrArg mK e26) p1).trans ((congrFun (congrArg mK e23) p1).trans ((congrFun (congrArg mK e20) p1).trans ((congrFun (congrArg mK e17) p1).trans ((congrFun (congrArg mK e14) p1).trans ((congrFun (congrArg mK e11) p1).trans ((congrFun (congrArg mK e8) p1).trans ((congrFun (congrArg mK e5) p1).trans ((congrFun (congrArg mK e2) p1).trans h.1))))))))) (s_iconst (pc := 104) dX6_copyFrom_104 ci_0 (s_aload_n (pc := 105) dX6_copyFrom_105 rfl (s_getR (pc := 106) dX6_copyFrom_106 f_X6_24 rfl ((congrFun (congrArg mK e26) p0).trans ((congrFun (congrArg mK e23) p0).trans ((congrFun (congrArg mK e20) p0).trans ((congrFun (congrArg mK e17) p0).trans ((congrFun (congrArg mK e14) p0).trans ((congrFun (congrArg mK e11) p0).trans ((congrFun (congrArg mK e8) p0).trans ((congrFun (congrArg mK e5) p0).trans ((congrFun (congrArg mK e2) p0).trans h.2.1))))))))) (s_iconst (pc := 109) dX6_copyFrom_109 ci_0 (s_bipush (pc := 110) dX6_copyFrom_110 cb_6 (s_copyI (pc := 112) dX6_copyFrom_112 cp_X6_49 h27.1 h27.2.1 h27.2.2.1 h27.2.2.2.1 h27.2.2.2.2.1 h27.2.2.2.2.2.1 h27.2.2.2.2.2.2.1 (Nat.le_of_ble_eq_true rfl) (by decide +kernel) (nmM (fun M28 e29 => have h30 := (h27.2.2.2.2.2.2.2) M28 e29; s_aload_n (pc := 115) dX6_copyFrom_115 rfl (s_getR (pc := 116) dX6_copyFrom_116 f_X6_34 rfl ((congrFun (congrArg mK e29) p1).trans ((congrFun (congrArg mK e26) p1).trans ((congrFun (congrArg mK e23) p1).trans ((congrFun (congrArg mK e20) p1).trans ((congrFun (congrArg mK e17) p1).trans ((congrFun (congrArg mK e14) p1).trans ((congrFun (congrArg mK e11) p1).trans ((congrFun (congrArg mK e8) p1).trans ((congrFun (congrArg mK e5) p1).trans ((congrFun (congrArg mK e2) p1).trans h.1)))))))))) (s_iconst (pc := 119) dX6_copyFrom_119 ci_0 (s_aload_n (pc := 120) dX6_copyFrom_120 rfl (s_getR (pc := 121) dX6_copyFrom_121 f_X6_34 rfl ((congrFun (congrArg mK e29) p0).trans ((congrFun (congrArg mK e26) p0).trans ((congrFun (congrArg mK e23) p0).trans ((congrFun (congrArg mK e20) p0).trans ((congrFun (congrArg mK e17) p0).trans ((congrFun (congrArg mK e14) p0).trans ((congrFun (congrArg mK e11) p0).trans ((congrFun (congrArg mK e8) p0).trans ((congrFun (congrArg mK e5) p0).trans ((congrFun (congrArg mK e2) p0).trans h.2.1)))))))))) (s_iconst (pc := 124) dX6_copyFrom_124 ci_0 (s_sipush (pc := 125) dX6_copyFrom_125 cs_606 (s_copyI (pc := 128) dX6_copyFrom_128 cp_X6_49 h30.1 h30.2.1 h30.2.2.1 h30.2.2.2.1 h30.2.2.2.2.1 h30.2.2.2.2.2.1 h30.2.2.2.2.2.2.1 (Nat.le_of_ble_eq_true rfl) (by decide +kernel) (nmM (fun M31 e32 => have h33 := (h30.2.2.2.2.2.2.2) M31 e32; s_aload_n (pc := 131) dX6_copyFrom_131 rfl (s_getR (pc := 132) dX6_copyFrom_132 f_X6_37 rfl ((congrFun (congrArg mK e32) p1).trans ((congrFun (congrArg mK e29) p1).trans ((congrFun (congrArg mK e26) p1).trans ((congrFun (congrArg mK e23) p1).trans ((congrFun (congrArg mK e20) p1).trans ((congrFun (congrArg mK e17) p1).trans ((congrFun (congrArg mK e14) p1).trans ((congrFun (congrArg mK e11) p1).trans ((congrFun (congrArg mK e8) p1).trans ((congrFun (congrArg mK e5) p1).trans ((congrFun (congrArg mK e2) p1).trans h.1))))))))))) (s_iconst (pc := 135) dX6_copyFrom_135 ci_0 (s_aload_n (pc := 136) dX6_copyFrom_136 rfl (s_getR (pc := 137) dX6_copyFrom_137 f_X6_37 rfl ((congrFun (congrArg mK e32) p0).trans ((congrFun (congrArg mK e29) p0).trans ((congrFun (congrArg mK e26) p0).trans ((congrFun (congrArg mK e23) p0).trans ((congrFun (congrArg mK e20) p0).trans ((congrFun (congrArg mK e17) p0).trans ((congrFun (congrArg mK e14) p0).trans ((congrFun (congrArg mK e11) p0).trans ((congrFun (congrArg mK e8) p0).trans ((congrFun (congrArg mK e5) p0).trans ((congrFun (congrArg mK e2) p0).trans h.2.1))))))))))) (s_iconst (pc := 140) dX6_copyFrom_140 ci_0 (s_sipush (pc := 141) dX6_copyFrom_141 cs_606 (s_copyI (pc := 144) dX6_copyFrom_144 cp_X6_49 h33.1 h33.2.1 h33.2.2.1 h33.2.2.2.1 h33.2.2.2.2.1 h33.2.2.2.2.2.1 h33.2.2.2.2.2.2.1 (Nat.le_of_ble_eq_true rfl) (by decide +kernel) (nmM (fun M34 e35 => have h36 := (h33.2.2.2.2.2.2.2) M34 e35; s_return (pc := 147) dX6_copyFrom_147 rfl (Nat.zero_le _) (Nat.zero_le _) ⟨rfl, h36⟩))))))))))))))))))))))))))))))))))))))))))))))))))))))))))))))))))))))))))))))))))))))))))
/-! X12_image -/
theorem dX12_image_0 : cod mX12_image 0 (.aload_n 0) 1 := by decide +kernel
theorem dX12_image_1 : cod mX12_image 1 (.getfield 19) 3 := by decide +kernel
theorem dX12_image_4 : cod mX12_image 4 (.aload_n 0) 1 := by decide +kernel
theorem dX12_image_5 : cod mX12_image 5 (.getfield 10) 3 := by decide +kernel
theorem dX12_image_8 : cod mX12_image 8 (.invokevirtual 71) 3 := by decide +kernel
theorem dX12_image_11 : cod mX12_image 11 (.aload_n 0) 1 := by decide +kernel
theorem dX12_image_12 : cod mX12_image 12 (.getfield 32) 3 := by decide +kernel
theorem dX12_image_15 : cod mX12_image 15 (.aload_n 0) 1 := by decide +kernel
theorem dX12_image_16 : cod mX12_image 16 (.getfield 25) 3 := by decide +kernel
theorem dX12_image_19 : cod mX12_image 19 (.invokevirtual 144) 3 := by decide +kernel
theorem dX12_image_22 : cod mX12_image 22 (.aload_n 0) 1 := by decide +kernel
theorem dX12_image_23 : cod mX12_image 23 (.iconst 1) 1 := by decide +kernel
theorem dX12_image_24 : cod mX12_image 24 (.putfield 275) 3 := by decide +kernel
theorem dX12_image_27 : cod mX12_image 27 (.aload_n 0) 1 := by decide +kernel
theorem dX12_image_28 : cod mX12_image 28 (.getfield 19) 3 := by decide +kernel
theorem dX12_image_31 : cod mX12_image 31 (.getfield 279) 3 := by decide +kernel
theorem dX12_image_34 : cod mX12_image 34 (.ireturn) 1 := by decide +kernel
def wp_X12_image (p0 : Nat) (M : Mem) (Q : Int32 → Mem → Prop) : Prop := mK M p0 = 13 ∧ mK M (mR M p0 2) = 7 ∧ wp_X6_copyFrom (mR M p0 2) (mR M p0 0) M (fun M2 => mK M2 p0 = 13 ∧ mK M2 (mR M2 p0 5) = 10 ∧ wp_X9_copyFrom (mR M2 p0 5) (mR M2 p0 3) M2 (fun M4 => mK M4 p0 = 13 ∧ ∀ M5 : Mem, M5 = uI M4 p0 6 1 → mK M5 (mR M5 p0 2) = 7 ∧ Q (mI M5 (mR M5 p0 2) 0) M5))
theorem T_X12_image {G : GG} {Q : Int32 → Mem → Prop} {M : Mem} {p0 : Nat} (h : wp_X12_image p0 M Q) : PMet G mX12_image 1 0 0 [.ref p0] M (QI Q) :=
  mk_met (by decide) rfl rfl (by
    intro w hw x9 e9
    subst e9
    simp at hw) (Nat.le_of_ble_eq_true rfl) (s_pad (L1 := [some (.ref p0)]) 1 rfl (s_aload_n (pc := 0) dX12_image_0 rfl (s_getR (pc := 1) dX12_image_1 f_X12_19 rfl h.1 (s_aload_n (pc := 4) dX12_image_4 rfl (s_getR (pc := 5) dX12_image_5 f_X12_10 rfl h.1 (s_callV (pc := 8) (As := [.ref (mR M p0 0)]) (rest := []) (d' := 0) (mc' := 0) (ms' := 0) dX12_image_8 c_X12_71 (Nat.le_of_ble_eq_true rfl) rfl h.2.1 rfl rfl (Nat.le_of_ble_eq_true rfl) (rm_ok rfl rfl) ⟨Nat.le_refl 0, Nat.le_refl 0⟩ (T_X6_copyFrom h.2.2) (kkV (fun M2 h1 => s_aload_n (pc := 11) dX12_image_11 rfl (s_getR (pc := 12) dX12_image_12 f_X12_32 rfl h1.1 (s_aload_n (pc := 15) dX12_image_15 rfl (s_getR (pc := 16) dX12_image_16 f_X12_25 rfl h1.1 (s_callV (pc := 19) (As := [.ref (mR M2 p0 3)]) (rest := []) (d' := 0) (mc' := 0) (ms' := 0) dX12_image_19 c_X12_144 (Nat.le_of_ble_eq_true rfl) rfl h1.2.1 rfl rfl (Nat.le_of_ble_eq_true rfl) (rm_ok rfl rfl) ⟨Nat.le_refl 0, Nat.le_refl 0⟩ (T_X9_copyFrom h1.2.2) (kkV (fun M4 h3 => s_aload_n (pc := 22) dX12_image_22 rfl (s_iconst (pc := 23) dX12_image_23 ci_1 (s_putI (pc := 24) dX12_image_24 f_X12_275 (Or.inl rfl) (Or.inr ⟨rfl, Or.inr rfl⟩) h3.1 (nmM (fun M5 e6 => have h7 := h3.2 M5 e6; s_aload_n (pc := 27) dX12_image_27 rfl (s_getR (pc := 28) dX12_image_28 f_X12_19 rfl ((congrFun (congrArg mK e6) p0).trans h3.1) (s_getI (pc := 31) dX12_image_31 f_X12_279 rfl h7.1 (s_ireturn (pc := 34) dX12_image_34 rfl (Nat.zero_le _) (Nat.zero_le _) ⟨_, rfl, h7.2⟩)))))))))))))))))))))
/-! X12_inLeastTerms -/
theorem dX12_inLeastTerms_0 : cod mX12_inLeastTerms 0 (.lload_n 0) 1 := by decide +kernel
theorem dX12_inLeastTerms_1 : cod mX12_inLeastTerms 1 (.lload_n 2) 1 := by decide +kernel
theorem dX12_inLeastTerms_2 : cod mX12_inLeastTerms 2 (.invokestatic 389) 3 := by decide +kernel
theorem dX12_inLeastTerms_5 : cod mX12_inLeastTerms 5 (.lstore 5) 2 := by decide +kernel
theorem dX12_inLeastTerms_7 : cod mX12_inLeastTerms 7 (.iload 4) 2 := by decide +kernel
theorem dX12_inLeastTerms_9 : cod mX12_inLeastTerms 9 (.ifCond .ne 7) 3 := by decide +kernel
theorem dX12_inLeastTerms_12 : cod mX12_inLeastTerms 12 (.lload_n 0) 1 := by decide +kernel
theorem dX12_inLeastTerms_13 : cod mX12_inLeastTerms 13 (.goto 4) 3 := by decide +kernel
theorem dX12_inLeastTerms_16 : cod mX12_inLeastTerms 16 (.lload_n 2) 1 := by decide +kernel
theorem dX12_inLeastTerms_17 : cod mX12_inLeastTerms 17 (.lstore 7) 2 := by decide +kernel
theorem dX12_inLeastTerms_19 : cod mX12_inLeastTerms 19 (.lload 5) 2 := by decide +kernel
theorem dX12_inLeastTerms_21 : cod mX12_inLeastTerms 21 (.lconst 0) 1 := by decide +kernel
theorem dX12_inLeastTerms_22 : cod mX12_inLeastTerms 22 (.lcmp) 1 := by decide +kernel
theorem dX12_inLeastTerms_23 : cod mX12_inLeastTerms 23 (.ifCond .le 11) 3 := by decide +kernel
theorem dX12_inLeastTerms_26 : cod mX12_inLeastTerms 26 (.lload 7) 2 := by decide +kernel
theorem dX12_inLeastTerms_28 : cod mX12_inLeastTerms 28 (.lload 5) 2 := by decide +kernel
theorem dX12_inLeastTerms_30 : cod mX12_inLeastTerms 30 (.ldiv) 1 := by decide +kernel
theorem dX12_inLeastTerms_31 : cod mX12_inLeastTerms 31 (.goto 5) 3 := by decide +kernel
theorem dX12_inLeastTerms_34 : cod mX12_inLeastTerms 34 (.lload 7) 2 := by decide +kernel
theorem dX12_inLeastTerms_36 : cod mX12_inLeastTerms 36 (.lreturn) 1 := by decide +kernel
def jn_X12_inLeastTerms_17 (Q : Int64 → Mem → Prop) (x5 : Int64) (s0 : Int64) (M : Mem) : Prop := (x5 ≤ (0 : Int64) → Q s0 M) ∧ (¬ x5 ≤ (0 : Int64) → ¬ x5 = 0 ∧ Q (s0 / x5) M)
theorem P_jn_X12_inLeastTerms_17 {G : GG} {Q : Int64 → Mem → Prop} (x5 : Int64) (s0 : Int64) (M : Mem) (h : jn_X12_inLeastTerms_17 Q x5 s0 M) : PW G mX12_inLeastTerms (rmD 1 0 0) (QJ Q) 17 [none, none, none, none, none, some (.long x5), none, none, none] [.long s0] M 0 0 := (s_lstore (pc := 17) (L1 := [none, none, none, none, none, some (.long x5), none, some (.long s0), none]) dX12_inLeastTerms_17 (Nat.le_of_ble_eq_true rfl) rfl (s_lload (pc := 19) dX12_inLeastTerms_19 rfl (s_lconst (pc := 21) (v := 0) dX12_inLeastTerms_21 rfl (s_lif_le (pc := 22) (tgt := 34) dX12_inLeastTerms_22 dX12_inLeastTerms_23 rfl (fun c8 => have h9 := h.1 c8; s_lload (pc := 34) dX12_inLeastTerms_34 rfl (s_lreturn (pc := 36) dX12_inLeastTerms_36 rfl (Nat.zero_le _) (Nat.zero_le _) ⟨_, rfl, h9⟩)) (fun c10 => have h11 := h.2 c10; s_lload (pc := 26) dX12_inLeastTerms_26 rfl (s_lload (pc := 28) dX12_inLeastTerms_28 rfl (s_ldiv (pc := 30) dX12_inLeastTerms_30 h11.1 (s_goto (pc := 31) (tgt := 36) dX12_inLeastTerms_31 rfl (s_lreturn (pc := 36) dX12_inLeastTerms_36 rfl (Nat.zero_le _) (Nat.zero_le _) ⟨_, rfl, h11.2⟩)))))))))
def wp_X12_inLeastTerms (p0 : Int64) (p1 : Int64) (p2 : Int32) (M : Mem) (Q : Int64 → Mem → Prop) : Prop := wp_X12_divisorOf p0 p1 M (fun r3 M2 => (¬ p2 = (0 : Int32) → jn_X12_inLeastTerms_17 Q r3 p1 M2) ∧ (p2 = (0 : Int32) → jn_X12_inLeastTerms_17 Q r3 p0 M2))
theorem T_X12_inLeastTerms {G : GG} {Q : Int64 → Mem → Prop} {M : Mem} {p0 : Int64} {p1 : Int64} {p2 : Int32} (h : wp_X12_inLeastTerms p0 p1 p2 M Q) : PMet G mX12_inLeastTerms 1 0 0 [.long p0, .long p1, .int p2] M (QJ Q) :=
  mk_met (by decide) rfl rfl (by
    intro w hw x9 e9
    subst e9
    simp at hw) (Nat.le_of_ble_eq_true rfl) (s_pad (L1 := [some (.long p0), none, some (.long p1), none, some (.int p2), none, none, none, none]) 9 rfl (s_lload_n (pc := 0) dX12_inLeastTerms_0 rfl (s_lload_n (pc := 1) dX12_inLeastTerms_1 rfl (s_callS (pc := 2) (As := [.long p0, .long p1]) (rest := []) (d' := 0) (mc' := 0) (ms' := 0) dX12_inLeastTerms_2 c_X12_389 rfl rfl (Nat.le_of_ble_eq_true rfl) (rm_ok rfl rfl) ⟨Nat.le_refl 0, Nat.le_refl 0⟩ (T_X12_divisorOf h) (kkJ (fun r3 M2 h1 => s_lstore (pc := 5) (L1 := [some (.long p0), none, some (.long p1), none, some (.int p2), some (.long r3), none, none, none]) dX12_inLeastTerms_5 (Nat.le_of_ble_eq_true rfl) rfl (s_iload (pc := 7) dX12_inLeastTerms_7 rfl (s_if_ne (pc := 9) (tgt := 16) dX12_inLeastTerms_9 rfl (fun c4 => have h5 := h1.1 c4; s_lload_n (pc := 16) dX12_inLeastTerms_16 rfl (s_sel (L1 := [none, none, none, none, none, some (.long r3), none, none, none]) [false, false, false, false, false, true, false, false, false] rfl (P_jn_X12_inLeastTerms_17 r3 p1 M2 h5))) (fun c6 => have h7 := h1.2 c6; s_lload_n (pc := 12) dX12_inLeastTerms_12 rfl (s_goto (pc := 13) (tgt := 17) dX12_inLeastTerms_13 rfl (s_sel (L1 := [none, none, none, none, none, some (.long r3), none, none, none]) [false, false, false, false, false, true, false, false, false] rfl (P_jn_X12_inLeastTerms_17 r3 p0 M2 h7))))))))))))
/-! X6_init -/
theorem dX6_init_0 : cod mX6_init 0 (.aload_n 0) 1 := by decide +kernel
theorem dX6_init_1 : cod mX6_init 1 (.invokespecial 3) 3 := by decide +kernel
theorem dX6_init_4 : cod mX6_init 4 (.aload_n 0) 1 := by decide +kernel
theorem dX6_init_5 : cod mX6_init 5 (.bipush 6) 2 := by decide +kernel
theorem dX6_init_7 : cod mX6_init 7 (.newarray .int) 2 := by decide +kernel
theorem dX6_init_9 : cod mX6_init 9 (.putfield 9) 3 := by decide +kernel
theorem dX6_init_12 : cod mX6_init 12 (.aload_n 0) 1 := by decide +kernel
theorem dX6_init_13 : cod mX6_init 13 (.bipush 6) 2 := by decide +kernel
theorem dX6_init_15 : cod mX6_init 15 (.newarray .int) 2 := by decide +kernel
theorem dX6_init_17 : cod mX6_init 17 (.putfield 15) 3 := by decide +kernel
theorem dX6_init_20 : cod mX6_init 20 (.aload_n 0) 1 := by decide +kernel
theorem dX6_init_21 : cod mX6_init 21 (.bipush 6) 2 := by decide +kernel
theorem dX6_init_23 : cod mX6_init 23 (.newarray .int) 2 := by decide +kernel
theorem dX6_init_25 : cod mX6_init 25 (.putfield 18) 3 := by decide +kernel
theorem dX6_init_28 : cod mX6_init 28 (.aload_n 0) 1 := by decide +kernel
theorem dX6_init_29 : cod mX6_init 29 (.bipush 6) 2 := by decide +kernel
theorem dX6_init_31 : cod mX6_init 31 (.newarray .int) 2 := by decide +kernel
theorem dX6_init_33 : cod mX6_init 33 (.putfield 21) 3 := by decide +kernel
theorem dX6_init_36 : cod mX6_init 36 (.aload_n 0) 1 := by decide +kernel
theorem dX6_init_37 : cod mX6_init 37 (.bipush 6) 2 := by decide +kernel
theorem dX6_init_39 : cod mX6_init 39 (.newarray .int) 2 := by decide +kernel
theorem dX6_init_41 : cod mX6_init 41 (.putfield 24) 3 := by decide +kernel
theorem dX6_init_44 : cod mX6_init 44 (.aload_n 0) 1 := by decide +kernel
theorem dX6_init_45 : cod mX6_init 45 (.bipush 20) 2 := by decide +kernel
theorem dX6_init_47 : cod mX6_init 47 (.putfield 27) 3 := by decide +kernel
theorem dX6_init_50 : cod mX6_init 50 (.aload_n 0) 1 := by decide +kernel
theorem dX6_init_51 : cod mX6_init 51 (.iconst 3) 1 := by decide +kernel
theorem dX6_init_52 : cod mX6_init 52 (.putfield 31) 3 := by decide +kernel
theorem dX6_init_55 : cod mX6_init 55 (.aload_n 0) 1 := by decide +kernel
theorem dX6_init_56 : cod mX6_init 56 (.sipush 606) 3 := by decide +kernel
theorem dX6_init_59 : cod mX6_init 59 (.newarray .int) 2 := by decide +kernel
theorem dX6_init_61 : cod mX6_init 61 (.putfield 34) 3 := by decide +kernel
theorem dX6_init_64 : cod mX6_init 64 (.aload_n 0) 1 := by decide +kernel
theorem dX6_init_65 : cod mX6_init 65 (.sipush 606) 3 := by decide +kernel
theorem dX6_init_68 : cod mX6_init 68 (.newarray .int) 2 := by decide +kernel
theorem dX6_init_70 : cod mX6_init 70 (.putfield 37) 3 := by decide +kernel
theorem dX6_init_73 : cod mX6_init 73 (.return_) 1 := by decide +kernel
def wp_X6_init (p0 : Nat) (M : Mem) (Q : Mem → Prop) : Prop := mK M p0 = 7 ∧ (0 + 1 ≤ 7 ∧ 0 + 6 ≤ 1242) ∧ ∀ a1 : Nat, a1 = mT M → ∀ M4 : Mem, M4 = nw M 20 6 → mK M4 p0 = 7 ∧ ∀ M7 : Mem, M7 = uR M4 p0 1 a1 → ((0 + 1) + 1 ≤ 7 ∧ (0 + 6) + 6 ≤ 1242) ∧ ∀ a10 : Nat, a10 = mT M7 → ∀ M13 : Mem, M13 = nw M7 20 6 → mK M13 p0 = 7 ∧ ∀ M16 : Mem, M16 = uR M13 p0 2 a10 → (((0 + 1) + 1) + 1 ≤ 7 ∧ ((0 + 6) + 6) + 6 ≤ 1242) ∧ ∀ a19 : Nat, a19 = mT M16 → ∀ M22 : Mem, M22 = nw M16 20 6 → mK M22 p0 = 7 ∧ ∀ M25 : Mem, M25 = uR M22 p0 4 a19 → ((((0 + 1) + 1) + 1) + 1 ≤ 7 ∧ (((0 + 6) + 6) + 6) + 6 ≤ 1242) ∧ ∀ a28 : Nat, a28 = mT M25 → ∀ M31 : Mem, M31 = nw M25 20 6 → mK M31 p0 = 7 ∧ ∀ M34 : Mem, M34 = uR M31 p0 5 a28 → (((((0 + 1) + 1) + 1) + 1) + 1 ≤ 7 ∧ ((((0 + 6) + 6) + 6) + 6) + 6 ≤ 1242) ∧ ∀ a37 : Nat, a37 = mT M34 → ∀ M40 : Mem, M40 = nw M34 20 6 → mK M40 p0 = 7 ∧ ∀ M43 : Mem, M43 = uR M40 p0 6 a37 → ∀ M46 : Mem, M46 = uI M43 p0 7 20 → ∀ M49 : Mem, M49 = uI M46 p0 9 3 → ((((((0 + 1) + 1) + 1) + 1) + 1) + 1 ≤ 7 ∧ (((((0 + 6) + 6) + 6) + 6) + 6) + 606 ≤ 1242) ∧ ∀ a52 : Nat, a52 = mT M49 → ∀ M55 : Mem, M55 = nw M49 20 606 → mK M55 p0 = 7 ∧ ∀ M58 : Mem, M58 = uR M55 p0 10 a52 → (((((((0 + 1) + 1) + 1) + 1) + 1) + 1) + 1 ≤ 7 ∧ ((((((0 + 6) + 6) + 6) + 6) + 6) + 606) + 606 ≤ 1242) ∧ ∀ a61 : Nat, a61 = mT M58 → ∀ M64 : Mem, M64 = nw M58 20 606 → mK M64 p0 = 7 ∧ ∀ M67 : Mem, M67 = uR M64 p0 11 a61 → ((((((((0 + 1) + 1) + 1) + 1) + 1) + 1) + 1) ≤ 7 ∧ (((((((0 + 6) + 6) + 6) + 6) + 6) + 606) + 606) ≤ 1242) ∧ Q M67
theorem T_X6_init {G : GG} {Q : Mem → Prop} {M : Mem} {p0 : Nat} (h : wp_X6_init p0 M Q) : PMet G mX6_init 0 7 1242 [.ref p0] M (QV Q) :=
  mk_met (by decide) rfl rfl (by
    intro w hw x9 e9
    subst e9
    simp at hw) (Nat.le_of_ble_eq_true rfl) (s_pad (L1 := [some (.ref p0)]) 1 rfl (s_aload_n (pc := 0) dX6_init_0 rfl (s_objInitK (pc := 1) dX6_init_1 ob_X6_3 h.1 (Nat.le_of_ble_eq_true rfl) (Nat.le_of_ble_eq_true rfl) (s_aload_n (pc := 4) dX6_init_4 rfl (s_bipush (pc := 5) dX6_init_5 cb_6 (s_newarray (pc := 7) (n := 6) dX6_init_7 na_int (by decide) rfl (Nat.le_of_ble_eq_true rfl) h.2.1.1 h.2.1.2 (nmR (fun a1 e2 => nmM (fun M4 e5 => have h6 := h.2.2 a1 e2 M4 e5; s_putR (pc := 9) dX6_init_9 f_X6_9 (Or.inr ⟨rfl, rfl⟩) rfl h6.1 (nmM (fun M7 e8 => have h9 := h6.2 M7 e8; s_aload_n (pc := 12) dX6_init_12 rfl (s_bipush (pc := 13) dX6_init_13 cb_6 (s_newarray (pc := 15) (n := 6) dX6_init_15 na_int (by decide) rfl (Nat.le_of_ble_eq_true rfl) h9.1.1 h9.1.2 (nmR (fun a10 e11 => nmM (fun M13 e14 => have h15 := h9.2 a10 e11 M13 e14; s_putR (pc := 17) dX6_init_17 f_X6_15 (Or.inr ⟨rfl, rfl⟩) rfl h15.1 (nmM (fun M16 e17 => have h18 := h15.2 M16 e17; s_aload_n (pc := 20) dX6_init_20 rfl (s_bipush (pc := 21) dX6_init_21 cb_6 (s_newarray (pc := 23) (n := 6) dX6_init_23 na_int (by decide) rfl (Nat.le_of_ble_eq_true rfl) h18.1.1 h18.1.2 (nmR (fun a19 e20 => nmM (fun M22 e23 => have h24 := h18.2 a19 e20 M22 e23; s_putR (pc := 25) dX6_init_25 f_X6_18 (Or.inr ⟨rfl, rfl⟩) rfl h24.1 (nmM (fun M25 e26 => have h27 := h24.2 M25 e26; s_aload_n (pc := 28) dX6_init_28 rfl (s_bipush (pc := 29) dX6_init_29 cb_6 (s_newarray (pc := 31) (n := 6) dX6_init_31 na_int (by decide) rfl (Nat.le_of_ble_eq_true rfl) h27.1.1 h27.1.2 (nmR (fun a28 e29 => nmM (fun M31 e32 => have h33 := h27.2 a28 e29 M31 e32; s_putR (pc := 33) dX6_init_33 f_X6_21 (Or.inr ⟨rfl, rfl⟩) rfl h33.1 (nmM (fun M34 e35 => have h36 := h33.2 M34 e35; s_aload_n (pc := 36) dX6_init_36 rfl (s_bipush (pc := 37) dX6_init_37 cb_6 (s_newarray (pc := 39) (n := 6) dX6_init_39 na_int (by decide) rfl (Nat.le_of_ble_eq_true rfl) h36.1.1 h36.1.2 (nmR (fun a37 e38 => nmM (fun M40 e41 => have h42 := h36.2 a37 e38 M40 e41; s_putR (pc := 41) dX6_init_41 f_X6_24 (Or.inr ⟨rfl, rfl⟩) rfl h42.1 (nmM (fun M43 e44 => have h45 := h42.2 M43 e44; s_aload_n (pc := 44) dX6_init_44 rfl (s_bipush (pc := 45) dX6_init_45 cb_20 (s_putI (pc := 47) dX6_init_47 f_X6_27 (Or.inl rfl) (Or.inl rfl) ((congrFun (congrArg mK e44) p0).trans h42.1) (nmM (fun M46 e47 => have h48 := h45 M46 e47; s_aload_n (pc := 50) dX6_init_50 rfl (s_iconst (pc := 51) dX6_init_51 ci_3 (s_putI (pc := 52) dX6_init_52 f_X6_31 (Or.inl rfl) (Or.inl rfl) ((congrFun (congrArg mK e47) p0).trans ((congrFun (congrArg mK e44) p0).trans h42.1)) (nmM (fun M49 e50 => have h51 := h48 M49 e50; s_aload_n (pc := 55) dX6_init_55 rfl (s_sipush (pc := 56) dX6_init_56 cs_606 (s_newarray (pc := 59) (n := 606) dX6_init_59 na_int (by decide) rfl (Nat.le_of_ble_eq_true rfl) h51.1.1 h51.1.2 (nmR (fun a52 e53 => nmM (fun M55 e56 => have h57 := h51.2 a52 e53 M55 e56; s_putR (pc := 61) dX6_init_61 f_X6_34 (Or.inr ⟨rfl, rfl⟩) rfl h57.1 (nmM (fun M58 e59 => have h60 := h57.2 M58 e59; s_aload_n (pc := 64) dX6_init_64 rfl (s_sipush (pc := 65) dX6_init_65 cs_606 (s_newarray (pc := 68) (n := 606) dX6_init_68 na_int (by decide) rfl (Nat.le_of_ble_eq_true rfl) h60.1.1 h60.1.2 (nmR (fun a61 e62 => nmM (fun M64 e65 => have h66 := h60.2 a61 e62 M64 e65; s_putR (pc := 70) dX6_init_70 f_X6_37 (Or.inr ⟨rfl, rfl⟩) rfl h66.1 (nmM (fun M67 e68 => have h69 := h66.2 M67 e68; s_return (pc := 73) dX6_init_73 rfl h69.1.1 h69.1.2 ⟨rfl, h69.2⟩)))))))))))))))))))))))))))))))))))))))))))))))))))))))))))))
/-! X4_init -/
theorem dX4_init_0 : cod mX4_init 0 (.aload_n 0) 1 := by decide +kernel
theorem dX4_init_1 : cod mX4_init 1 (.invokespecial 3) 3 := by decide +kernel
theorem dX4_init_4 : cod mX4_init 4 (.aload_n 0) 1 := by decide +kernel
theorem dX4_init_5 : cod mX4_init 5 (.iconst (-1)) 1 := by decide +kernel
theorem dX4_init_6 : cod mX4_init 6 (.putfield 11) 3 := by decide +kernel
theorem dX4_init_9 : cod mX4_init 9 (.aload_n 0) 1 := by decide +kernel
theorem dX4_init_10 : cod mX4_init 10 (.bipush 100) 2 := by decide +kernel
theorem dX4_init_12 : cod mX4_init 12 (.newarray .int) 2 := by decide +kernel
theorem dX4_init_14 : cod mX4_init 14 (.putfield 15) 3 := by decide +kernel
theorem dX4_init_17 : cod mX4_init 17 (.return_) 1 := by decide +kernel
def wp_X4_init (p0 : Nat) (M : Mem) (Q : Mem → Prop) : Prop := mK M p0 = 5 ∧ ∀ M1 : Mem, M1 = uI M p0 1 (-1) → (0 + 1 ≤ 1 ∧ 0 + 100 ≤ 100) ∧ ∀ a4 : Nat, a4 = mT M1 → ∀ M7 : Mem, M7 = nw M1 20 100 → mK M7 p0 = 5 ∧ ∀ M10 : Mem, M10 = uR M7 p0 3 a4 → ((0 + 1) ≤ 1 ∧ (0 + 100) ≤ 100) ∧ Q M10
theorem T_X4_init {G : GG} {Q : Mem → Prop} {M : Mem} {p0 : Nat} (h : wp_X4_init p0 M Q) : PMet G mX4_init 0 1 100 [.ref p0] M (QV Q) :=
  mk_met (by decide) rfl rfl (by
    intro w hw x9 e9
    subst e9
    simp at hw) (Nat.le_of_ble_eq_true rfl) (s_pad (L1 := [some (.ref p0)]) 1 rfl (s_aload_n (pc := 0) dX4_init_0 rfl (s_objInitK (pc := 1) dX4_init_1 ob_X4_3 h.1 (Nat.le_of_ble_eq_true rfl) (Nat.le_of_ble_eq_true rfl) (s_aload_n (pc := 4) dX4_init_4 rfl (s_iconst (pc := 5) dX4_init_5 ci_m1 (s_putI (pc := 6) dX4_init_6 f_X4_11 (Or.inl rfl) (Or.inl rfl) h.1 (nmM (fun M1 e2 => have h3 := h.2 M1 e2; s_aload_n (pc := 9) dX4_init_9 rfl (s_bipush (pc := 10) dX4_init_10 cb_100 (s_newarray (pc := 12) (n := 100) dX4_init_12 na_int (by decide) rfl (Nat.le_of_ble_eq_true rfl) h3.1.1 h3.1.2 (nmR (fun a4 e5 => nmM (fun M7 e8 => have h9 := h3.2 a4 e5 M7 e8; s_putR (pc := 14) dX4_init_14 f_X4_15 (Or.inr ⟨rfl, rfl⟩) rfl h9.1 (nmM (fun M10 e11 => have h12 := h9.2 M10 e11; s_return (pc := 17) dX4_init_17 rfl h12.1.1 h12.1.2 ⟨rfl, h12.2⟩)))))))))))))))
/-! X7_init -/
theorem dX7_init_0 : cod mX7_init 0 (.aload_n 0) 1 := by decide +kernel
theorem dX7_init_1 : cod mX7_init 1 (.invokespecial 1) 3 := by decide +kernel
theorem dX7_init_4 : cod mX7_init 4 (.aload_n 0) 1 := by decide +kernel
theorem dX7_init_5 : cod mX7_init 5 (.iconst 3) 1 := by decide +kernel
theorem dX7_init_6 : cod mX7_init 6 (.newarray .int) 2 := by decide +kernel
theorem dX7_init_8 : cod mX7_init 8 (.putfield 7) 3 := by decide +kernel
theorem dX7_init_11 : cod mX7_init 11 (.return_) 1 := by decide +kernel
def wp_X7_init (p0 : Nat) (M : Mem) (Q : Mem → Prop) : Prop := mK M p0 = 8 ∧ (0 + 1 ≤ 1 ∧ 0 + 3 ≤ 3) ∧ ∀ a1 : Nat, a1 = mT M → ∀ M4 : Mem, M4 = nw M 20 3 → mK M4 p0 = 8 ∧ ∀ M7 : Mem, M7 = uR M4 p0 3 a1 → ((0 + 1) ≤ 1 ∧ (0 + 3) ≤ 3) ∧ Q M7
theorem T_X7_init {G : GG} {Q : Mem → Prop} {M : Mem} {p0 : Nat} (h : wp_X7_init p0 M Q) : PMet G mX7_init 0 1 3 [.ref p0] M (QV Q) :=
  mk_met (by decide) rfl rfl (by
    intro w hw x9 e9
    subst e9
    simp at hw) (Nat.le_of_ble_eq_true rfl) (s_pad (L1 := [some (.ref p0)]) 1 rfl (s_aload_n (pc := 0) dX7_init_0 rfl (s_objInitK (pc := 1) dX7_init_1 ob_X7_1 h.1 (Nat.le_of_ble_eq_true rfl) (Nat.le_of_ble_eq_true rfl) (s_aload_n (pc := 4) dX7_init_4 rfl (s_iconst (pc := 5) dX7_init_5 ci_3 (s_newarray (pc := 6) (n := 3) dX7_init_6 na_int (by decide) rfl (Nat.le_of_ble_eq_true rfl) h.2.1.1 h.2.1.2 (nmR (fun a1 e2 => nmM (fun M4 e5 => have h6 := h.2.2 a1 e2 M4 e5; s_putR (pc := 8) dX7_init_8 f_X7_7 (Or.inr ⟨rfl, rfl⟩) rfl h6.1 (nmM (fun M7 e8 => have h9 := h6.2 M7 e8; s_return (pc := 11) dX7_init_11 rfl h9.1.1 h9.1.2 ⟨rfl, h9.2⟩)))))))))))
/-! X5_init -/
theorem dX5_init_0 : cod mX5_init 0 (.aload_n 0) 1 := by decide +kernel
theorem dX5_init_1 : cod mX5_init 1 (.invokespecial 3) 3 := by decide +kernel
theorem dX5_init_4 : cod mX5_init 4 (.aload_n 0) 1 := by decide +kernel
theorem dX5_init_5 : cod mX5_init 5 (.bipush 55) 2 := by decide +kernel
theorem dX5_init_7 : cod mX5_init 7 (.newarray .int) 2 := by decide +kernel
theorem dX5_init_9 : cod mX5_init 9 (.putfield 11) 3 := by decide +kernel
theorem dX5_init_12 : cod mX5_init 12 (.aload_n 0) 1 := by decide +kernel
theorem dX5_init_13 : cod mX5_init 13 (.bipush 55) 2 := by decide +kernel
theorem dX5_init_15 : cod mX5_init 15 (.newarray .int) 2 := by decide +kernel
theorem dX5_init_17 : cod mX5_init 17 (.putfield 15) 3 := by decide +kernel
theorem dX5_init_20 : cod mX5_init 20 (.aload_n 0) 1 := by decide +kernel
theorem dX5_init_21 : cod mX5_init 21 (.new 18) 3 := by decide +kernel
theorem dX5_init_24 : cod mX5_init 24 (.dup) 1 := by decide +kernel
theorem dX5_init_25 : cod mX5_init 25 (.invokespecial 20) 3 := by decide +kernel
theorem dX5_init_28 : cod mX5_init 28 (.putfield 21) 3 := by decide +kernel
theorem dX5_init_31 : cod mX5_init 31 (.aload_n 0) 1 := by decide +kernel
theorem dX5_init_32 : cod mX5_init 32 (.new 18) 3 := by decide +kernel
theorem dX5_init_35 : cod mX5_init 35 (.dup) 1 := by decide +kernel
theorem dX5_init_36 : cod mX5_init 36 (.invokespecial 20) 3 := by decide +kernel
theorem dX5_init_39 : cod mX5_init 39 (.putfield 25) 3 := by decide +kernel
theorem dX5_init_42 : cod mX5_init 42 (.aload_n 0) 1 := by decide +kernel
theorem dX5_init_43 : cod mX5_init 43 (.bipush 11) 2 := by decide +kernel
theorem dX5_init_45 : cod mX5_init 45 (.newarray .long) 2 := by decide +kernel
theorem dX5_init_47 : cod mX5_init 47 (.putfield 28) 3 := by decide +kernel
theorem dX5_init_50 : cod mX5_init 50 (.aload_n 0) 1 := by decide +kernel
theorem dX5_init_51 : cod mX5_init 51 (.bipush 11) 2 := by decide +kernel
theorem dX5_init_53 : cod mX5_init 53 (.newarray .long) 2 := by decide +kernel
theorem dX5_init_55 : cod mX5_init 55 (.putfield 32) 3 := by decide +kernel
theorem dX5_init_58 : cod mX5_init 58 (.aload_n 0) 1 := by decide +kernel
theorem dX5_init_59 : cod mX5_init 59 (.bipush 55) 2 := by decide +kernel
theorem dX5_init_61 : cod mX5_init 61 (.newarray .long) 2 := by decide +kernel
theorem dX5_init_63 : cod mX5_init 63 (.putfield 35) 3 := by decide +kernel
theorem dX5_init_66 : cod mX5_init 66 (.aload_n 0) 1 := by decide +kernel
theorem dX5_init_67 : cod mX5_init 67 (.bipush 55) 2 := by decide +kernel
theorem dX5_init_69 : cod mX5_init 69 (.newarray .long) 2 := by decide +kernel
theorem dX5_init_71 : cod mX5_init 71 (.putfield 38) 3 := by decide +kernel
theorem dX5_init_74 : cod mX5_init 74 (.return_) 1 := by decide +kernel
def wp_X5_init (p0 : Nat) (M : Mem) (Q : Mem → Prop) : Prop := mK M p0 = 6 ∧ (0 + 1 ≤ 10 ∧ 0 + 55 ≤ 258) ∧ ∀ a1 : Nat, a1 = mT M → ∀ M4 : Mem, M4 = nw M 20 55 → mK M4 p0 = 6 ∧ ∀ M7 : Mem, M7 = uR M4 p0 4 a1 → ((0 + 1) + 1 ≤ 10 ∧ (0 + 55) + 55 ≤ 258) ∧ ∀ a10 : Nat, a10 = mT M7 → ∀ M13 : Mem, M13 = nw M7 20 55 → mK M13 p0 = 6 ∧ ∀ M16 : Mem, M16 = uR M13 p0 5 a10 → (((0 + 1) + 1) + 1 ≤ 10 ∧ ((0 + 55) + 55) + 2 ≤ 258) ∧ ∀ a19 : Nat, a19 = mT M16 → ∀ M22 : Mem, M22 = nw M16 10 0 → ((((0 + 1) + 1) + 1) + 1 ≤ 10 ∧ (((0 + 55) + 55) + 2) + 6 ≤ 258) ∧ wp_X9_init a19 M22 (fun M26 => mK M26 p0 = 6 ∧ ∀ M27 : Mem, M27 = uR M26 p0 6 a19 → (((((0 + 1) + 1) + 1) + 1) + 1 ≤ 10 ∧ ((((0 + 55) + 55) + 2) + 6) + 2 ≤ 258) ∧ ∀ a30 : Nat, a30 = mT M27 → ∀ M33 : Mem, M33 = nw M27 10 0 → ((((((0 + 1) + 1) + 1) + 1) + 1) + 1 ≤ 10 ∧ (((((0 + 55) + 55) + 2) + 6) + 2) + 6 ≤ 258) ∧ wp_X9_init a30 M33 (fun M37 => mK M37 p0 = 6 ∧ ∀ M38 : Mem, M38 = uR M37 p0 7 a30 → (((((((0 + 1) + 1) + 1) + 1) + 1) + 1) + 1 ≤ 10 ∧ ((((((0 + 55) + 55) + 2) + 6) + 2) + 6) + 11 ≤ 258) ∧ ∀ a41 : Nat, a41 = mT M38 → ∀ M44 : Mem, M44 = nw M38 21 11 → mK M44 p0 = 6 ∧ ∀ M47 : Mem, M47 = uR M44 p0 8 a41 → ((((((((0 + 1) + 1) + 1) + 1) + 1) + 1) + 1) + 1 ≤ 10 ∧ (((((((0 + 55) + 55) + 2) + 6) + 2) + 6) + 11) + 11 ≤ 258) ∧ ∀ a50 : Nat, a50 = mT M47 → ∀ M53 : Mem, M53 = nw M47 21 11 → mK M53 p0 = 6 ∧ ∀ M56 : Mem, M56 = uR M53 p0 9 a50 → (((((((((0 + 1) + 1) + 1) + 1) + 1) + 1) + 1) + 1) + 1 ≤ 10 ∧ ((((((((0 + 55) + 55) + 2) + 6) + 2) + 6) + 11) + 11) + 55 ≤ 258) ∧ ∀ a59 : Nat, a59 = mT M56 → ∀ M62 : Mem, M62 = nw M56 21 55 → mK M62 p0 = 6 ∧ ∀ M65 : Mem, M65 = uR M62 p0 12 a59 → ((((((((((0 + 1) + 1) + 1) + 1) + 1) + 1) + 1) + 1) + 1) + 1 ≤ 10 ∧ (((((((((0 + 55) + 55) + 2) + 6) + 2) + 6) + 11) + 11) + 55) + 55 ≤ 258) ∧ ∀ a68 : Nat, a68 = mT M65 → ∀ M71 : Mem, M71 = nw M65 21 55 → mK M71 p0 = 6 ∧ ∀ M74 : Mem, M74 = uR M71 p0 13 a68 → (((((((((((0 + 1) + 1) + 1) + 1) + 1) + 1) + 1) + 1) + 1) + 1) ≤ 10 ∧ ((((((((((0 + 55) + 55) + 2) + 6) + 2) + 6) + 11) + 11) + 55) + 55) ≤ 258) ∧ Q M74))
theorem T_X5_init {G : GG} {Q : Mem → Prop} {M : Mem} {p0 : Nat} (h : wp_X5_init p0 M Q) : PMet G mX5_init 1 10 258 [.ref p0] M (QV Q) :=
  mk_met (by decide) rfl rfl (by
    intro w hw x9 e9
    subst e9
    simp at hw) (Nat.le_of_ble_eq_true rfl) (s_pad (L1 := [some (.ref p0)]) 1 rfl (s_aload_n (pc := 0) dX5_init_0 rfl (s_objInitK (pc := 1) dX5_init_1 ob_X5_3 h.1 (Nat.le_of_ble_eq_true rfl) (Nat.le_of_ble_eq_true rfl) (s_aload_n (pc := 4) dX5_init_4 rfl (s_bipush (pc := 5) dX5_init_5 cb_55 (s_newarray (pc := 7) (n := 55) dX5_init_7 na_int (by decide) rfl (Nat.le_of_ble_eq_true rfl) h.2.1.1 h.2.1.2 (nmR (fun a1 e2 => nmM (fun M4 e5 => have h6 := h.2.2 a1 e2 M4 e5; s_putR (pc := 9) dX5_init_9 f_X5_11 (Or.inr ⟨rfl, rfl⟩) rfl h6.1 (nmM (fun M7 e8 => have h9 := h6.2 M7 e8; s_aload_n (pc := 12) dX5_init_12 rfl (s_bipush (pc := 13) dX5_init_13 cb_55 (s_newarray (pc := 15) (n := 55) dX5_init_15 na_int (by decide) rfl (Nat.le_of_ble_eq_true rfl) h9.1.1 h9.1.2 (nmR (fun a10 e11 => nmM (fun M13 e14 => have h15 := h9.2 a10 e11 M13 e14; s_putR (pc := 17) dX5_init_17 f_X5_15 (Or.inr ⟨rfl, rfl⟩) rfl h15.1 (nmM (fun M16 e17 => have h18 := h15.2 M16 e17; s_aload_n (pc := 20) dX5_init_20 rfl (s_new (pc := 21) (n := 2) dX5_init_21 n_X5_18 rfl h18.1.1 h18.1.2 (nmR (fun a19 e20 => nmM (fun M22 e23 => have h24 := h18.2 a19 e20 M22 e23; s_dup (pc := 24) dX5_init_24 rfl (s_callINK (pc := 25) (As := []) (rest := [.ref a19, .ref p0]) (d' := 0) (mc' := 1) (ms' := 6) dX5_init_25 c_X5_20 (nw_K2 e20 e23) rfl rfl (Nat.le_of_ble_eq_true rfl) (rm_ok rfl rfl) h24.1 (T_X9_init h24.2) (kkV (fun M26 h25 => s_putR (pc := 28) dX5_init_28 f_X5_21 (Or.inr ⟨rfl, rfl⟩) rfl h25.1 (nmM (fun M27 e28 => have h29 := h25.2 M27 e28; s_aload_n (pc := 31) dX5_init_31 rfl (s_new (pc := 32) (n := 2) dX5_init_32 n_X5_18 rfl h29.1.1 h29.1.2 (nmR (fun a30 e31 => nmM (fun M33 e34 => have h35 := h29.2 a30 e31 M33 e34; s_dup (pc := 35) dX5_init_35 rfl (s_callINK (pc := 36) (As := []) (rest := [.ref a30, .ref p0]) (d' := 0) (mc' := 1) (ms' := 6) dX5_init_36 c_X5_20 (nw_K2 e31 e34) rfl rfl (Nat.le_of_ble_eq_true rfl) (rm_ok rfl rfl) h35.1 (T_X9_init h35.2) (kkV (fun M37 h36 => s_putR (pc := 39) dX5_init_39 f_X5_25 (Or.inr ⟨rfl, rfl⟩) rfl h36.1 (nmM (fun M38 e39 => have h40 := h36.2 M38 e39; s_aload_n (pc := 42) dX5_init_42 rfl (s_bipush (pc := 43) dX5_init_43 cb_11 (s_newarray (pc := 45) (n := 11) dX5_init_45 na_long (by decide) rfl (Nat.le_of_ble_eq_true rfl) h40.1.1 h40.1.2 (nmR (fun a41 e42 => nmM (fun M44 e45 => have h46 := h40.2 a41 e42 M44 e45; s_putR (pc := 47) dX5_init_47 f_X5_28 (Or.inr ⟨rfl, rfl⟩) rfl h46.1 (nmM (fun M47 e48 => have h49 := h46.2 M47 e48; s_aload_n (pc := 50) dX5_init_50 rfl (s_bipush (pc := 51) dX5_init_51 cb_11 (s_newarray (pc := 53) (n := 11) dX5_init_53 na_long (by decide) rfl (Nat.le_of_ble_eq_true rfl) h49.1.1 h49.1.2 (nmR (fun a50 e51 => nmM (fun M53 e54 => have h55 := h49.2 a50 e51 M53 e54; s_putR (pc := 55) dX5_init_55 f_X5_32 (Or.inr ⟨rfl, rfl⟩) rfl h55.1 (nmM (fun M56 e57 => have h58 := h55.2 M56 e57; s_aload_n (pc := 58) dX5_init_58 rfl (s_bipush (pc := 59) dX5_init_59 cb_55 (s_newarray (pc := 61) (n := 55) dX5_init_61 na_long (by decide) rfl (Nat.le_of_ble_eq_true rfl) h58.1.1 h58.1.2 (nmR (fun a59 e60 => nmM (fun M62 e63 => have h64 := h58.2 a59 e60 M62 e63; s_putR (pc := 63) dX5_init_63 f_X5_35 (Or.inr ⟨rfl, rfl⟩) rfl h64.1 (nmM (fun M65 e66 => have h67 := h64.2 M65 e66; s_aload_n (pc := 66) dX5_init_66 rfl (s_bipush (pc := 67) dX5_init_67 cb_55 (s_newarray (pc := 69) (n := 55) dX5_init_69 na_long (by decide) rfl (Nat.le_of_ble_eq_true rfl) h67.1.1 h67.1.2 (nmR (fun a68 e69 => nmM (fun M71 e72 => have h73 := h67.2 a68 e69 M71 e72; s_putR (pc := 71) dX5_init_71 f_X5_38 (Or.inr ⟨rfl, rfl⟩) rfl h73.1 (nmM (fun M74 e75 => have h76 := h73.2 M74 e75; s_return (pc := 74) dX5_init_74 rfl h76.1.1 h76.1.2 ⟨rfl, h76.2⟩))))))))))))))))))))))))))))))))))))))))))))))))))))))))))))))))
/-! X4_clear -/
theorem dX4_clear_0 : cod mX4_clear 0 (.aload_n 0) 1 := by decide +kernel
theorem dX4_clear_1 : cod mX4_clear 1 (.aconst_null) 1 := by decide +kernel
theorem dX4_clear_2 : cod mX4_clear 2 (.putfield 19) 3 := by decide +kernel
theorem dX4_clear_5 : cod mX4_clear 5 (.aload_n 0) 1 := by decide +kernel
theorem dX4_clear_6 : cod mX4_clear 6 (.iconst (-1)) 1 := by decide +kernel
theorem dX4_clear_7 : cod mX4_clear 7 (.putfield 11) 3 := by decide +kernel
theorem dX4_clear_10 : cod mX4_clear 10 (.aload_n 0) 1 := by decide +kernel
theorem dX4_clear_11 : cod mX4_clear 11 (.iconst 0) 1 := by decide +kernel
theorem dX4_clear_12 : cod mX4_clear 12 (.putfield 23) 3 := by decide +kernel
theorem dX4_clear_15 : cod mX4_clear 15 (.return_) 1 := by decide +kernel
def wp_X4_clear (p0 : Nat) (M : Mem) (Q : Mem → Prop) : Prop := mK M p0 = 5 ∧ ∀ M1 : Mem, M1 = uR M p0 0 0 → ∀ M4 : Mem, M4 = uI M1 p0 1 (-1) → ∀ M7 : Mem, M7 = uI M4 p0 2 0 → Q M7
theorem T_X4_clear {G : GG} {Q : Mem → Prop} {M : Mem} {p0 : Nat} (h : wp_X4_clear p0 M Q) : PMet G mX4_clear 0 0 0 [.ref p0] M (QV Q) :=
  mk_met (by decide) rfl rfl (by
    intro w hw x9 e9
    subst e9
    simp at hw) (Nat.le_of_ble_eq_true rfl) (s_pad (L1 := [some (.ref p0)]) 1 rfl (s_aload_n (pc := 0) dX4_clear_0 rfl (s_null (pc := 1) dX4_clear_1 (s_putR (pc := 2) dX4_clear_2 f_X4_19 (Or.inl rfl) rfl h.1 (nmM (fun M1 e2 => have h3 := h.2 M1 e2; s_aload_n (pc := 5) dX4_clear_5 rfl (s_iconst (pc := 6) dX4_clear_6 ci_m1 (s_putI (pc := 7) dX4_clear_7 f_X4_11 (Or.inl rfl) (Or.inl rfl) ((congrFun (congrArg mK e2) p0).trans h.1) (nmM (fun M4 e5 => have h6 := h3 M4 e5; s_aload_n (pc := 10) dX4_clear_10 rfl (s_iconst (pc := 11) dX4_clear_11 ci_0 (s_putI (pc := 12) dX4_clear_12 f_X4_23 (Or.inl rfl) (Or.inl rfl) ((congrFun (congrArg mK e5) p0).trans ((congrFun (congrArg mK e2) p0).trans h.1)) (nmM (fun M7 e8 => have h9 := h6 M7 e8; s_return (pc := 15) dX4_clear_15 rfl (Nat.zero_le _) (Nat.zero_le _) ⟨rfl, h9⟩))))))))))))))
/-! X4_takeWay -/
theorem dX4_takeWay_0 : cod mX4_takeWay 0 (.aload_n 0) 1 := by decide +kernel
theorem dX4_takeWay_1 : cod mX4_takeWay 1 (.invokevirtual 26) 3 := by decide +kernel
theorem dX4_takeWay_4 : cod mX4_takeWay 4 (.aload_n 0) 1 := by decide +kernel
theorem dX4_takeWay_5 : cod mX4_takeWay 5 (.aload_n 1) 1 := by decide +kernel
theorem dX4_takeWay_6 : cod mX4_takeWay 6 (.putfield 19) 3 := by decide +kernel
theorem dX4_takeWay_9 : cod mX4_takeWay 9 (.return_) 1 := by decide +kernel
def wp_X4_takeWay (p0 : Nat) (p1 : Nat) (M : Mem) (Q : Mem → Prop) : Prop := mK M p0 = 5 ∧ wp_X4_clear p0 M (fun M2 => mK M2 p0 = 5 ∧ ∀ M3 : Mem, M3 = uR M2 p0 0 p1 → Q M3)
theorem T_X4_takeWay {G : GG} {Q : Mem → Prop} {M : Mem} {p0 : Nat} {p1 : Nat} (h : wp_X4_takeWay p0 p1 M Q) : PMet G mX4_takeWay 1 0 0 [.ref p0, .ref p1] M (QV Q) :=
  mk_met (by decide) rfl rfl (by
    intro w hw x9 e9
    subst e9
    simp at hw) (Nat.le_of_ble_eq_true rfl) (s_pad (L1 := [some (.ref p0), some (.ref p1)]) 2 rfl (s_aload_n (pc := 0) dX4_takeWay_0 rfl (s_callV (pc := 1) (As := []) (rest := []) (d' := 0) (mc' := 0) (ms' := 0) dX4_takeWay_1 c_X4_26 (Nat.le_of_ble_eq_true rfl) rfl h.1 rfl rfl (Nat.le_of_ble_eq_true rfl) (rm_ok rfl rfl) ⟨Nat.le_refl 0, Nat.le_refl 0⟩ (T_X4_clear h.2) (kkV (fun M2 h1 => s_aload_n (pc := 4) dX4_takeWay_4 rfl (s_aload_n (pc := 5) dX4_takeWay_5 rfl (s_putR (pc := 6) dX4_takeWay_6 f_X4_19 (Or.inl rfl) rfl h1.1 (nmM (fun M3 e4 => have h5 := h1.2 M3 e4; s_return (pc := 9) dX4_takeWay_9 rfl (Nat.zero_le _) (Nat.zero_le _) ⟨rfl, h5⟩)))))))))
/-! X12_keep -/
theorem dX12_keep_0 : cod mX12_keep 0 (.iload_n 1) 1 := by decide +kernel
theorem dX12_keep_1 : cod mX12_keep 1 (.invokestatic 295) 3 := by decide +kernel
theorem dX12_keep_4 : cod mX12_keep 4 (.ifCond .eq 10) 3 := by decide +kernel
theorem dX12_keep_7 : cod mX12_keep 7 (.iload_n 2) 1 := by decide +kernel
theorem dX12_keep_8 : cod mX12_keep 8 (.invokestatic 89) 3 := by decide +kernel
theorem dX12_keep_11 : cod mX12_keep 11 (.ifCond .ne 5) 3 := by decide +kernel
theorem dX12_keep_14 : cod mX12_keep 14 (.iconst (-1)) 1 := by decide +kernel
theorem dX12_keep_15 : cod mX12_keep 15 (.ireturn) 1 := by decide +kernel
theorem dX12_keep_16 : cod mX12_keep 16 (.iload_n 2) 1 := by decide +kernel
theorem dX12_keep_17 : cod mX12_keep 17 (.ifCond .ne 14) 3 := by decide +kernel
theorem dX12_keep_20 : cod mX12_keep 20 (.aload_n 0) 1 := by decide +kernel
theorem dX12_keep_21 : cod mX12_keep 21 (.getfield 37) 3 := by decide +kernel
theorem dX12_keep_24 : cod mX12_keep 24 (.iload_n 1) 1 := by decide +kernel
theorem dX12_keep_25 : cod mX12_keep 25 (.aaload) 1 := by decide +kernel
theorem dX12_keep_26 : cod mX12_keep 26 (.invokevirtual 298) 3 := by decide +kernel
theorem dX12_keep_29 : cod mX12_keep 29 (.iconst 0) 1 := by decide +kernel
theorem dX12_keep_30 : cod mX12_keep 30 (.ireturn) 1 := by decide +kernel
theorem dX12_keep_31 : cod mX12_keep 31 (.iload_n 3) 1 := by decide +kernel
theorem dX12_keep_32 : cod mX12_keep 32 (.ifCond .lt 17) 3 := by decide +kernel
theorem dX12_keep_35 : cod mX12_keep 35 (.iload_n 3) 1 := by decide +kernel
theorem dX12_keep_36 : cod mX12_keep 36 (.bipush 6) 2 := by decide +kernel
theorem dX12_keep_38 : cod mX12_keep 38 (.if_icmp .ge 11) 3 := by decide +kernel
theorem dX12_keep_41 : cod mX12_keep 41 (.iload 4) 2 := by decide +kernel
theorem dX12_keep_43 : cod mX12_keep 43 (.invokestatic 236) 3 := by decide +kernel
theorem dX12_keep_46 : cod mX12_keep 46 (.ifCond .ne 5) 3 := by decide +kernel
theorem dX12_keep_49 : cod mX12_keep 49 (.iconst (-1)) 1 := by decide +kernel
theorem dX12_keep_50 : cod mX12_keep 50 (.ireturn) 1 := by decide +kernel
theorem dX12_keep_51 : cod mX12_keep 51 (.aload_n 0) 1 := by decide +kernel
theorem dX12_keep_52 : cod mX12_keep 52 (.getfield 37) 3 := by decide +kernel
theorem dX12_keep_55 : cod mX12_keep 55 (.iload_n 1) 1 := by decide +kernel
theorem dX12_keep_56 : cod mX12_keep 56 (.aaload) 1 := by decide +kernel
theorem dX12_keep_57 : cod mX12_keep 57 (.iload_n 3) 1 := by decide +kernel
theorem dX12_keep_58 : cod mX12_keep 58 (.iload 4) 2 := by decide +kernel
theorem dX12_keep_60 : cod mX12_keep 60 (.invokestatic 301) 3 := by decide +kernel
theorem dX12_keep_63 : cod mX12_keep 63 (.invokevirtual 305) 3 := by decide +kernel
theorem dX12_keep_66 : cod mX12_keep 66 (.iconst 0) 1 := by decide +kernel
theorem dX12_keep_67 : cod mX12_keep 67 (.ireturn) 1 := by decide +kernel
def wp_X12_keep (p0 : Nat) (p1 : Int32) (p2 : Int32) (p3 : Int32) (p4 : Int32) (M : Mem) (Q : Int32 → Mem → Prop) : Prop := (0 + 0 ≤ 1 ∧ 0 + 0 ≤ 1) ∧ wp_X12_isShelf p1 M (fun r3 M2 => (r3 = (0 : Int32) → ((0 + 0) ≤ 1 ∧ (0 + 0) ≤ 1) ∧ Q (-1) M2) ∧ (¬ r3 = (0 : Int32) → ((0 + 0) + 0 ≤ 1 ∧ (0 + 0) + 0 ≤ 1) ∧ wp_X12_isPart p2 M2 (fun r10 M9 => (¬ r10 = (0 : Int32) → (¬ p2 = (0 : Int32) → (p3 < (0 : Int32) → (((0 + 0) + 0) ≤ 1 ∧ ((0 + 0) + 0) ≤ 1) ∧ Q (-1) M9) ∧ (¬ p3 < (0 : Int32) → ((6 : Int32) ≤ p3 → (((0 + 0) + 0) ≤ 1 ∧ ((0 + 0) + 0) ≤ 1) ∧ Q (-1) M9) ∧ (¬ (6 : Int32) ≤ p3 → (((0 + 0) + 0) + 0 ≤ 1 ∧ ((0 + 0) + 0) + 0 ≤ 1) ∧ wp_X12_isFigure p4 M9 (fun r29 M28 => (¬ r29 = (0 : Int32) → mK M28 p0 = 13 ∧ mK M28 (mR M28 p0 7) = 24 ∧ vp_in p1 (mN M28 (mR M28 p0 7)) ∧ ((((0 + 0) + 0) + 0) + 1 ≤ 1 ∧ (((0 + 0) + 0) + 0) + 1 ≤ 1) ∧ wp_X12_wayOfKind p3 p4 M28 (fun r36 M35 => mK M35 (mR M28 (mR M28 p0 7) p1.toNatClampNeg) = 5 ∧ (((((0 + 0) + 0) + 0) + 1) + 0 ≤ 1 ∧ ((((0 + 0) + 0) + 0) + 1) + 0 ≤ 1) ∧ wp_X4_takeWay (mR M28 (mR M28 p0 7) p1.toNatClampNeg) r36 M35 (fun M38 => ((((((0 + 0) + 0) + 0) + 1) + 0) ≤ 1 ∧ (((((0 + 0) + 0) + 0) + 1) + 0) ≤ 1) ∧ Q 0 M38))) ∧ (r29 = (0 : Int32) → ((((0 + 0) + 0) + 0) ≤ 1 ∧ (((0 + 0) + 0) + 0) ≤ 1) ∧ Q (-1) M28))))) ∧ (p2 = (0 : Int32) → mK M9 p0 = 13 ∧ mK M9 (mR M9 p0 7) = 24 ∧ vp_in p1 (mN M9 (mR M9 p0 7)) ∧ mK M9 (mR M9 (mR M9 p0 7) p1.toNatClampNeg) = 5 ∧ (((0 + 0) + 0) + 0 ≤ 1 ∧ ((0 + 0) + 0) + 0 ≤ 1) ∧ wp_X4_clear (mR M9 (mR M9 p0 7) p1.toNatClampNeg) M9 (fun M40 => ((((0 + 0) + 0) + 0) ≤ 1 ∧ (((0 + 0) + 0) + 0) ≤ 1) ∧ Q 0 M40))) ∧ (r10 = (0 : Int32) → (((0 + 0) + 0) ≤ 1 ∧ ((0 + 0) + 0) ≤ 1) ∧ Q (-1) M9))))
theorem T_X12_keep {G : GG} {Q : Int32 → Mem → Prop} {M : Mem} {p0 : Nat} {p1 : Int32} {p2 : Int32} {p3 : Int32} {p4 : Int32} (h : wp_X12_keep p0 p1 p2 p3 p4 M Q) : PMet G mX12_keep 4 1 1 [.ref p0, .int p1, .int p2, .int p3, .int p4] M (QI Q) :=
  mk_met (by decide) rfl rfl (by
    intro w hw x9 e9
    subst e9
    simp at hw) (Nat.le_of_ble_eq_true rfl) (s_pad (L1 := [some (.ref p0), some (.int p1), some (.int p2), some (.int p3), some (.int p4)]) 5 rfl (s_iload_n (pc := 0) dX12_keep_0 rfl (s_callS (pc := 1) (As := [.int p1]) (rest := []) (d' := 0) (mc' := 0) (ms' := 0) dX12_keep_1 c_X12_295 rfl rfl (Nat.le_of_ble_eq_true rfl) (rm_ok rfl rfl) h.1 (T_X12_isShelf h.2) (kkI (fun r3 M2 h1 => s_if_eq (pc := 4) (tgt := 14) dX12_keep_4 rfl (fun c4 => have h5 := h1.1 c4; s_iconst (pc := 14) dX12_keep_14 ci_m1 (s_ireturn (pc := 15) dX12_keep_15 rfl h5.1.1 h5.1.2 ⟨_, rfl, h5.2⟩)) (fun c6 => have h7 := h1.2 c6; s_iload_n (pc := 7) dX12_keep_7 rfl (s_callS (pc := 8) (As := [.int p2]) (rest := []) (d' := 0) (mc' := 0) (ms' := 0) dX12_keep_8 c_X12_89 rfl rfl (Nat.le_of_ble_eq_true rfl) (rm_ok rfl rfl) h7.1 (T_X12_isPart h7.2) (kkI (fun r10 M9 h8 => s_if_ne (pc := 11) (tgt := 16) dX12_keep_11 rfl (fun c11 => have h12 := h8.1 c11; s_iload_n (pc := 16) dX12_keep_16 rfl (s_if_ne (pc := 17) (tgt := 31) dX12_keep_17 rfl (fun c15 => have h16 := h12.1 c15; s_iload_n (pc := 31) dX12_keep_31 rfl (s_if_lt (pc := 32) (tgt := 49) dX12_keep_32 rfl (fun c19 => have h20 := h16.1 c19; s_iconst (pc := 49) dX12_keep_49 ci_m1 (s_ireturn (pc := 50) dX12_keep_50 rfl h20.1.1 h20.1.2 ⟨_, rfl, h20.2⟩)) (fun c21 => have h22 := h16.2 c21; s_iload_n (pc := 35) dX12_keep_35 rfl (s_bipush (pc := 36) dX12_keep_36 cb_6 (s_icmp_ge (pc := 38) (tgt := 49) dX12_keep_38 rfl (fun c23 => have h24 := h22.1 c23; s_iconst (pc := 49) dX12_keep_49 ci_m1 (s_ireturn (pc := 50) dX12_keep_50 rfl h24.1.1 h24.1.2 ⟨_, rfl, h24.2⟩)) (fun c25 => have h26 := h22.2 c25; s_iload (pc := 41) dX12_keep_41 rfl (s_callS (pc := 43) (As := [.int p4]) (rest := []) (d' := 0) (mc' := 0) (ms' := 0) dX12_keep_43 c_X12_236 rfl rfl (Nat.le_of_ble_eq_true rfl) (rm_ok rfl rfl) h26.1 (T_X12_isFigure h26.2) (kkI (fun r29 M28 h27 => s_if_ne (pc := 46) (tgt := 51) dX12_keep_46 rfl (fun c30 => have h31 := h27.1 c30; s_aload_n (pc := 51) dX12_keep_51 rfl (s_getR (pc := 52) dX12_keep_52 f_X12_37 rfl h31.1 (s_iload_n (pc := 55) dX12_keep_55 rfl (s_aal (pc := 56) (t := 4) dX12_keep_56 (Nat.le_of_ble_eq_true rfl) (Nat.le_of_ble_eq_true rfl) h31.2.1 h31.2.2.1 (s_iload_n (pc := 57) dX12_keep_57 rfl (s_iload (pc := 58) dX12_keep_58 rfl (s_callS (pc := 60) (As := [.int p3, .int p4]) (rest := [.ref (mR M28 (mR M28 p0 7) p1.toNatClampNeg)]) (d' := 3) (mc' := 1) (ms' := 1) dX12_keep_60 c_X12_301 rfl rfl (Nat.le_of_ble_eq_true rfl) (rm_ok rfl rfl) h31.2.2.2.1 (T_X12_wayOfKind h31.2.2.2.2) (kkR (fun r36 M35 h34 => s_callV (pc := 63) (As := [.ref r36]) (rest := []) (d' := 1) (mc' := 0) (ms' := 0) dX12_keep_63 c_X12_305 (Nat.le_of_ble_eq_true rfl) rfl h34.1 rfl rfl (Nat.le_of_ble_eq_true rfl) (rm_ok rfl rfl) h34.2.1 (T_X4_takeWay h34.2.2) (kkV (fun M38 h37 => s_iconst (pc := 66) dX12_keep_66 ci_0 (s_ireturn (pc := 67) dX12_keep_67 rfl h37.1.1 h37.1.2 ⟨_, rfl, h37.2⟩)))))))))))) (fun c32 => have h33 := h27.2 c32; s_iconst (pc := 49) dX12_keep_49 ci_m1 (s_ireturn (pc := 50) dX12_keep_50 rfl h33.1.1 h33.1.2 ⟨_, rfl, h33.2⟩))))))))))) (fun c17 => have h18 := h12.2 c17; s_aload_n (pc := 20) dX12_keep_20 rfl (s_getR (pc := 21) dX12_keep_21 f_X12_37 rfl h18.1 (s_iload_n (pc := 24) dX12_keep_24 rfl (s_aal (pc := 25) (t := 4) dX12_keep_25 (Nat.le_of_ble_eq_true rfl) (Nat.le_of_ble_eq_true rfl) h18.2.1 h18.2.2.1 (s_callV (pc := 26) (As := []) (rest := []) (d' := 0) (mc' := 0) (ms' := 0) dX12_keep_26 c_X12_298 (Nat.le_of_ble_eq_true rfl) rfl h18.2.2.2.1 rfl rfl (Nat.le_of_ble_eq_true rfl) (rm_ok rfl rfl) h18.2.2.2.2.1 (T_X4_clear h18.2.2.2.2.2) (kkV (fun M40 h39 => s_iconst (pc := 29) dX12_keep_29 ci_0 (s_ireturn (pc := 30) dX12_keep_30 rfl h39.1.1 h39.1.2 ⟨_, rfl, h39.2⟩)))))))))) (fun c13 => have h14 := h8.2 c13; s_iconst (pc := 14) dX12_keep_14 ci_m1 (s_ireturn (pc := 15) dX12_keep_15 rfl h14.1.1 h14.1.2 ⟨_, rfl, h14.2⟩)))))))))))
/-! X12_knew -/
theorem dX12_knew_0 : cod mX12_knew 0 (.iload_n 2) 1 := by decide +kernel
theorem dX12_knew_1 : cod mX12_knew 1 (.iload_n 3) 1 := by decide +kernel
theorem dX12_knew_2 : cod mX12_knew 2 (.invokestatic 118) 3 := by decide +kernel
theorem dX12_knew_5 : cod mX12_knew 5 (.ifCond .eq 11) 3 := by decide +kernel
theorem dX12_knew_8 : cod mX12_knew 8 (.iload 4) 2 := by decide +kernel
theorem dX12_knew_10 : cod mX12_knew 10 (.invokestatic 89) 3 := by decide +kernel
theorem dX12_knew_13 : cod mX12_knew 13 (.ifCond .ne 7) 3 := by decide +kernel
theorem dX12_knew_16 : cod mX12_knew 16 (.ldc2_w 147) 3 := by decide +kernel
theorem dX12_knew_19 : cod mX12_knew 19 (.lreturn) 1 := by decide +kernel
theorem dX12_knew_20 : cod mX12_knew 20 (.aload_n 0) 1 := by decide +kernel
theorem dX12_knew_21 : cod mX12_knew 21 (.iload_n 1) 1 := by decide +kernel
theorem dX12_knew_22 : cod mX12_knew 22 (.invokevirtual 63) 3 := by decide +kernel
theorem dX12_knew_25 : cod mX12_knew 25 (.astore 5) 2 := by decide +kernel
theorem dX12_knew_27 : cod mX12_knew 27 (.aload 5) 2 := by decide +kernel
theorem dX12_knew_29 : cod mX12_knew 29 (.ifnonnull 14) 3 := by decide +kernel
theorem dX12_knew_32 : cod mX12_knew 32 (.aload_n 0) 1 := by decide +kernel
theorem dX12_knew_33 : cod mX12_knew 33 (.iload_n 1) 1 := by decide +kernel
theorem dX12_knew_34 : cod mX12_knew 34 (.invokevirtual 67) 3 := by decide +kernel
theorem dX12_knew_37 : cod mX12_knew 37 (.i2l) 1 := by decide +kernel
theorem dX12_knew_38 : cod mX12_knew 38 (.ldc2_w 207) 3 := by decide +kernel
theorem dX12_knew_41 : cod mX12_knew 41 (.lsub) 1 := by decide +kernel
theorem dX12_knew_42 : cod mX12_knew 42 (.lreturn) 1 := by decide +kernel
theorem dX12_knew_43 : cod mX12_knew 43 (.aload 5) 2 := by decide +kernel
theorem dX12_knew_45 : cod mX12_knew 45 (.getfield 239) 3 := by decide +kernel
theorem dX12_knew_48 : cod mX12_knew 48 (.iconst 1) 1 := by decide +kernel
theorem dX12_knew_49 : cod mX12_knew 49 (.if_icmp .lt 12) 3 := by decide +kernel
theorem dX12_knew_52 : cod mX12_knew 52 (.aload 5) 2 := by decide +kernel
theorem dX12_knew_54 : cod mX12_knew 54 (.iconst 3) 1 := by decide +kernel
theorem dX12_knew_55 : cod mX12_knew 55 (.invokevirtual 242) 3 := by decide +kernel
theorem dX12_knew_58 : cod mX12_knew 58 (.ifCond .ne 7) 3 := by decide +kernel
theorem dX12_knew_61 : cod mX12_knew 61 (.ldc2_w 263) 3 := by decide +kernel
theorem dX12_knew_64 : cod mX12_knew 64 (.lreturn) 1 := by decide +kernel
theorem dX12_knew_65 : cod mX12_knew 65 (.aload_n 0) 1 := by decide +kernel
theorem dX12_knew_66 : cod mX12_knew 66 (.getfield 10) 3 := by decide +kernel
theorem dX12_knew_69 : cod mX12_knew 69 (.invokevirtual 132) 3 := by decide +kernel
theorem dX12_knew_72 : cod mX12_knew 72 (.ifCond .ne 7) 3 := by decide +kernel
theorem dX12_knew_75 : cod mX12_knew 75 (.ldc2_w 149) 3 := by decide +kernel
theorem dX12_knew_78 : cod mX12_knew 78 (.lreturn) 1 := by decide +kernel
theorem dX12_knew_79 : cod mX12_knew 79 (.aload_n 0) 1 := by decide +kernel
theorem dX12_knew_80 : cod mX12_knew 80 (.getfield 52) 3 := by decide +kernel
theorem dX12_knew_83 : cod mX12_knew 83 (.aload_n 0) 1 := by decide +kernel
theorem dX12_knew_84 : cod mX12_knew 84 (.getfield 10) 3 := by decide +kernel
theorem dX12_knew_87 : cod mX12_knew 87 (.aload 5) 2 := by decide +kernel
theorem dX12_knew_89 : cod mX12_knew 89 (.iload_n 2) 1 := by decide +kernel
theorem dX12_knew_90 : cod mX12_knew 90 (.iload_n 3) 1 := by decide +kernel
theorem dX12_knew_91 : cod mX12_knew 91 (.invokevirtual 265) 3 := by decide +kernel
theorem dX12_knew_94 : cod mX12_knew 94 (.istore 6) 2 := by decide +kernel
theorem dX12_knew_96 : cod mX12_knew 96 (.iload 6) 2 := by decide +kernel
theorem dX12_knew_98 : cod mX12_knew 98 (.ifCond .lt 16) 3 := by decide +kernel
theorem dX12_knew_101 : cod mX12_knew 101 (.bipush (-100)) 2 := by decide +kernel
theorem dX12_knew_103 : cod mX12_knew 103 (.iload 6) 2 := by decide +kernel
theorem dX12_knew_105 : cod mX12_knew 105 (.isub) 1 := by decide +kernel
theorem dX12_knew_106 : cod mX12_knew 106 (.i2l) 1 := by decide +kernel
theorem dX12_knew_107 : cod mX12_knew 107 (.ldc2_w 207) 3 := by decide +kernel
theorem dX12_knew_110 : cod mX12_knew 110 (.lsub) 1 := by decide +kernel
theorem dX12_knew_111 : cod mX12_knew 111 (.goto 22) 3 := by decide +kernel
theorem dX12_knew_114 : cod mX12_knew 114 (.aload_n 0) 1 := by decide +kernel
theorem dX12_knew_115 : cod mX12_knew 115 (.getfield 52) 3 := by decide +kernel
theorem dX12_knew_118 : cod mX12_knew 118 (.getfield 269) 3 := by decide +kernel
theorem dX12_knew_121 : cod mX12_knew 121 (.aload_n 0) 1 := by decide +kernel
theorem dX12_knew_122 : cod mX12_knew 122 (.getfield 52) 3 := by decide +kernel
theorem dX12_knew_125 : cod mX12_knew 125 (.getfield 272) 3 := by decide +kernel
theorem dX12_knew_128 : cod mX12_knew 128 (.iload 4) 2 := by decide +kernel
theorem dX12_knew_130 : cod mX12_knew 130 (.invokestatic 159) 3 := by decide +kernel
theorem dX12_knew_133 : cod mX12_knew 133 (.lreturn) 1 := by decide +kernel
def wp_X12_knew (p0 : Nat) (p1 : Int32) (p2 : Int32) (p3 : Int32) (p4 : Int32) (M : Mem) (Q : Int64 → Mem → Prop) : Prop := wp_X12_isSlate p2 p3 M (fun r3 M2 => (r3 = (0 : Int32) → Q (-4000000000000000001) M2) ∧ (¬ r3 = (0 : Int32) → wp_X12_isPart p4 M2 (fun r10 M9 => (¬ r10 = (0 : Int32) → mK M9 p0 = 13 ∧ wp_X12_bytesOn p0 p1 M9 (fun r17 M16 => (¬ r17 = 0 → mK M16 r17 = 5 ∧ ((mI M16 r17 2) < (1 : Int32) → Q (-4000000000000000013) M16) ∧ (¬ (mI M16 r17 2) < (1 : Int32) → wp_X4_allBelow r17 3 M16 (fun r28 M27 => (¬ r28 = (0 : Int32) → mK M27 p0 = 13 ∧ mK M27 (mR M27 p0 0) = 7 ∧ wp_X6_isReady (mR M27 p0 0) M27 (fun r35 M34 => (¬ r35 = (0 : Int32) → mK M34 p0 = 13 ∧ mK M34 (mR M34 p0 9) = 1 ∧ wp_X0_readLog (mR M34 p0 9) (mR M34 p0 0) r17 p2 p3 M34 (fun r42 M41 => (r42 < (0 : Int32) → mK M41 p0 = 13 ∧ mK M41 (mR M41 p0 9) = 1 ∧ wp_X12_inLeastTerms (mJ M41 (mR M41 p0 9) 7) (mJ M41 (mR M41 p0 9) 8) p4 M41 (fun r49 M48 => Q r49 M48)) ∧ (¬ r42 < (0 : Int32) → Q ((((-100) - r42).toInt64) - 4000000000000000000) M41))) ∧ (r35 = (0 : Int32) → Q (-4000000000000000003) M34))) ∧ (r28 = (0 : Int32) → Q (-4000000000000000013) M27)))) ∧ (r17 = 0 → mK M16 p0 = 13 ∧ wp_X12_whyNot p0 p1 M16 (fun r52 M51 => Q (r52.toInt64 - 4000000000000000000) M51)))) ∧ (r10 = (0 : Int32) → Q (-4000000000000000001) M9))))
theorem T_X12_knew {G : GG} {Q : Int64 → Mem → Prop} {M : Mem} {p0 : Nat} {p1 : Int32} {p2 : Int32} {p3 : Int32} {p4 : Int32} (h : wp_X12_knew p0 p1 p2 p3 p4 M Q) : PMet G mX12_knew 4 0 0 [.ref p0, .int p1, .int p2, .int p3, .int p4] M (QJ Q) :=
  mk_met (by decide) rfl rfl (by
    intro w hw x9 e9
    subst e9
    simp at hw) (Nat.le_of_ble_eq_true rfl) (s_pad (L1 := [some (.ref p0), some (.int p1), some (.int p2), some (.int p3), some (.int p4), none, none]) 7 rfl (s_iload_n (pc := 0) dX12_knew_0 rfl (s_iload_n (pc := 1) dX12_knew_1 rfl (s_callS (pc := 2) (As := [.int p2, .int p3]) (rest := []) (d' := 0) (mc' := 0) (ms' := 0) dX12_knew_2 c_X12_118 rfl rfl (Nat.le_of_ble_eq_true rfl) (rm_ok rfl rfl) ⟨Nat.le_refl 0, Nat.le_refl 0⟩ (T_X12_isSlate h) (kkI (fun r3 M2 h1 => s_if_eq (pc := 5) (tgt := 16) dX12_knew_5 rfl (fun c4 => have h5 := h1.1 c4; s_ldc2 (pc := 16) dX12_knew_16 k_X12_147 (s_lreturn (pc := 19) dX12_knew_19 rfl (Nat.zero_le _) (Nat.zero_le _) ⟨_, rfl, h5⟩)) (fun c6 => have h7 := h1.2 c6; s_iload (pc := 8) dX12_knew_8 rfl (s_callS (pc := 10) (As := [.int p4]) (rest := []) (d' := 0) (mc' := 0) (ms' := 0) dX12_knew_10 c_X12_89 rfl rfl (Nat.le_of_ble_eq_true rfl) (rm_ok rfl rfl) ⟨Nat.le_refl 0, Nat.le_refl 0⟩ (T_X12_isPart h7) (kkI (fun r10 M9 h8 => s_if_ne (pc := 13) (tgt := 20) dX12_knew_13 rfl (fun c11 => have h12 := h8.1 c11; s_aload_n (pc := 20) dX12_knew_20 rfl (s_iload_n (pc := 21) dX12_knew_21 rfl (s_callV (pc := 22) (As := [.int p1]) (rest := []) (d' := 1) (mc' := 0) (ms' := 0) dX12_knew_22 c_X12_63 (Nat.le_of_ble_eq_true rfl) rfl h12.1 rfl rfl (Nat.le_of_ble_eq_true rfl) (rm_ok rfl rfl) ⟨Nat.le_refl 0, Nat.le_refl 0⟩ (T_X12_bytesOn h12.2) (kkR (fun r17 M16 h15 => s_astore (pc := 25) (L1 := [some (.ref p0), some (.int p1), some (.int p2), some (.int p3), some (.int p4), some (.ref r17), none]) dX12_knew_25 (Nat.le_of_ble_eq_true rfl) rfl (s_aload (pc := 27) dX12_knew_27 rfl (s_ifnonnull (pc := 29) (tgt := 43) dX12_knew_29 rfl (fun c18 => have h19 := h15.1 c18; s_aload (pc := 43) dX12_knew_43 rfl (s_getI (pc := 45) dX12_knew_45 f_X12_239 rfl h19.1 (s_iconst (pc := 48) dX12_knew_48 ci_1 (s_icmp_lt (pc := 49) (tgt := 61) dX12_knew_49 rfl (fun c22 => have h23 := h19.2.1 c22; s_ldc2 (pc := 61) dX12_knew_61 k_X12_263 (s_lreturn (pc := 64) dX12_knew_64 rfl (Nat.zero_le _) (Nat.zero_le _) ⟨_, rfl, h23⟩)) (fun c24 => have h25 := h19.2.2 c24; s_aload (pc := 52) dX12_knew_52 rfl (s_iconst (pc := 54) dX12_knew_54 ci_3 (s_callV (pc := 55) (As := [.int 3]) (rest := []) (d' := 0) (mc' := 0) (ms' := 0) dX12_knew_55 c_X12_242 (Nat.le_of_ble_eq_true rfl) rfl h19.1 rfl rfl (Nat.le_of_ble_eq_true rfl) (rm_ok rfl rfl) ⟨Nat.le_refl 0, Nat.le_refl 0⟩ (T_X4_allBelow h25) (kkI (fun r28 M27 h26 => s_if_ne (pc := 58) (tgt := 65) dX12_knew_58 rfl (fun c29 => have h30 := h26.1 c29; s_aload_n (pc := 65) dX12_knew_65 rfl (s_getR (pc := 66) dX12_knew_66 f_X12_10 rfl h30.1 (s_callV (pc := 69) (As := []) (rest := []) (d' := 1) (mc' := 0) (ms' := 0) dX12_knew_69 c_X12_132 (Nat.le_of_ble_eq_true rfl) rfl h30.2.1 rfl rfl (Nat.le_of_ble_eq_true rfl) (rm_ok rfl rfl) ⟨Nat.le_refl 0, Nat.le_refl 0⟩ (T_X6_isReady h30.2.2) (kkI (fun r35 M34 h33 => s_if_ne (pc := 72) (tgt := 79) dX12_knew_72 rfl (fun c36 => have h37 := h33.1 c36; s_aload_n (pc := 79) dX12_knew_79 rfl (s_getR (pc := 80) dX12_knew_80 f_X12_52 rfl h37.1 (s_aload_n (pc := 83) dX12_knew_83 rfl (s_getR (pc := 84) dX12_knew_84 f_X12_10 rfl h37.1 (s_aload (pc := 87) dX12_knew_87 rfl (s_iload_n (pc := 89) dX12_knew_89 rfl (s_iload_n (pc := 90) dX12_knew_90 rfl (s_callV (pc := 91) (As := [.ref (mR M34 p0 0), .ref r17, .int p2, .int p3]) (rest := []) (d' := 3) (mc' := 0) (ms' := 0) dX12_knew_91 c_X12_265 (Nat.le_of_ble_eq_true rfl) rfl h37.2.1 rfl rfl (Nat.le_of_ble_eq_true rfl) (rm_ok rfl rfl) ⟨Nat.le_refl 0, Nat.le_refl 0⟩ (T_X0_readLog h37.2.2) (kkI (fun r42 M41 h40 => s_istore (pc := 94) (L1 := [some (.ref p0), some (.int p1), some (.int p2), some (.int p3), some (.int p4), some (.ref r17), some (.int r42)]) dX12_knew_94 (Nat.le_of_ble_eq_true rfl) rfl (s_iload (pc := 96) dX12_knew_96 rfl (s_if_lt (pc := 98) (tgt := 114) dX12_knew_98 rfl (fun c43 => have h44 := h40.1 c43; s_aload_n (pc := 114) dX12_knew_114 rfl (s_getR (pc := 115) dX12_knew_115 f_X12_52 rfl h44.1 (s_getJ (pc := 118) dX12_knew_118 f_X12_269 rfl h44.2.1 (s_aload_n (pc := 121) dX12_knew_121 rfl (s_getR (pc := 122) dX12_knew_122 f_X12_52 rfl h44.1 (s_getJ (pc := 125) dX12_knew_125 f_X12_272 rfl h44.2.1 (s_iload (pc := 128) dX12_knew_128 rfl (s_callS (pc := 130) (As := [.long (mJ M41 (mR M41 p0 9) 7), .long (mJ M41 (mR M41 p0 9) 8), .int p4]) (rest := []) (d' := 1) (mc' := 0) (ms' := 0) dX12_knew_130 c_X12_159 rfl rfl (Nat.le_of_ble_eq_true rfl) (rm_ok rfl rfl) ⟨Nat.le_refl 0, Nat.le_refl 0⟩ (T_X12_inLeastTerms h44.2.2) (kkJ (fun r49 M48 h47 => s_lreturn (pc := 133) dX12_knew_133 rfl (Nat.zero_le _) (Nat.zero_le _) ⟨_, rfl, h47⟩)))))))))) (fun c45 => have h46 := h40.2 c45; s_bipush (pc := 101) dX12_knew_101 cb_m100 (s_iload (pc := 103) dX12_knew_103 rfl (s_isub (pc := 105) dX12_knew_105 (s_i2l (pc := 106) dX12_knew_106 (s_ldc2 (pc := 107) dX12_knew_107 k_X12_207 (s_lsub (pc := 110) dX12_knew_110 (s_goto (pc := 111) (tgt := 133) dX12_knew_111 rfl (s_lreturn (pc := 133) dX12_knew_133 rfl (Nat.zero_le _) (Nat.zero_le _) ⟨_, rfl, h46⟩)))))))))))))))))))) (fun c38 => have h39 := h33.2 c38; s_ldc2 (pc := 75) dX12_knew_75 k_X12_149 (s_lreturn (pc := 78) dX12_knew_78 rfl (Nat.zero_le _) (Nat.zero_le _) ⟨_, rfl, h39⟩))))))) (fun c31 => have h32 := h26.2 c31; s_ldc2 (pc := 61) dX12_knew_61 k_X12_263 (s_lreturn (pc := 64) dX12_knew_64 rfl (Nat.zero_le _) (Nat.zero_le _) ⟨_, rfl, h32⟩))))))))))) (fun c20 => have h21 := h15.2 c20; s_aload_n (pc := 32) dX12_knew_32 rfl (s_iload_n (pc := 33) dX12_knew_33 rfl (s_callV (pc := 34) (As := [.int p1]) (rest := []) (d' := 1) (mc' := 0) (ms' := 0) dX12_knew_34 c_X12_67 (Nat.le_of_ble_eq_true rfl) rfl h21.1 rfl rfl (Nat.le_of_ble_eq_true rfl) (rm_ok rfl rfl) ⟨Nat.le_refl 0, Nat.le_refl 0⟩ (T_X12_whyNot h21.2) (kkI (fun r52 M51 h50 => s_i2l (pc := 37) dX12_knew_37 (s_ldc2 (pc := 38) dX12_knew_38 k_X12_207 (s_lsub (pc := 41) dX12_knew_41 (s_lreturn (pc := 42) dX12_knew_42 rfl (Nat.zero_le _) (Nat.zero_le _) ⟨_, rfl, h50⟩))))))))))))))) (fun c13 => have h14 := h8.2 c13; s_ldc2 (pc := 16) dX12_knew_16 k_X12_147 (s_lreturn (pc := 19) dX12_knew_19 rfl (Nat.zero_le _) (Nat.zero_le _) ⟨_, rfl, h14⟩))))))))))))
