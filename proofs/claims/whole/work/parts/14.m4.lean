/-! X12_limit -/
theorem dX12_limit_0 : cod mX12_limit 0 (.aload_n 0) 1 := by decide +kernel
theorem dX12_limit_1 : cod mX12_limit 1 (.iload_n 1) 1 := by decide +kernel
theorem dX12_limit_2 : cod mX12_limit 2 (.invokevirtual 175) 3 := by decide +kernel
theorem dX12_limit_5 : cod mX12_limit 5 (.astore_n 2) 1 := by decide +kernel
theorem dX12_limit_6 : cod mX12_limit 6 (.aload_n 2) 1 := by decide +kernel
theorem dX12_limit_7 : cod mX12_limit 7 (.ifnonnull 14) 3 := by decide +kernel
theorem dX12_limit_10 : cod mX12_limit 10 (.aload_n 0) 1 := by decide +kernel
theorem dX12_limit_11 : cod mX12_limit 11 (.iload_n 1) 1 := by decide +kernel
theorem dX12_limit_12 : cod mX12_limit 12 (.invokevirtual 179) 3 := by decide +kernel
theorem dX12_limit_15 : cod mX12_limit 15 (.i2l) 1 := by decide +kernel
theorem dX12_limit_16 : cod mX12_limit 16 (.ldc2_w 207) 3 := by decide +kernel
theorem dX12_limit_19 : cod mX12_limit 19 (.lsub) 1 := by decide +kernel
theorem dX12_limit_20 : cod mX12_limit 20 (.lreturn) 1 := by decide +kernel
theorem dX12_limit_21 : cod mX12_limit 21 (.aload_n 0) 1 := by decide +kernel
theorem dX12_limit_22 : cod mX12_limit 22 (.getfield 16) 3 := by decide +kernel
theorem dX12_limit_25 : cod mX12_limit 25 (.aload_n 0) 1 := by decide +kernel
theorem dX12_limit_26 : cod mX12_limit 26 (.getfield 10) 3 := by decide +kernel
theorem dX12_limit_29 : cod mX12_limit 29 (.invokevirtual 71) 3 := by decide +kernel
theorem dX12_limit_32 : cod mX12_limit 32 (.aload_n 0) 1 := by decide +kernel
theorem dX12_limit_33 : cod mX12_limit 33 (.getfield 16) 3 := by decide +kernel
theorem dX12_limit_36 : cod mX12_limit 36 (.bipush 20) 2 := by decide +kernel
theorem dX12_limit_38 : cod mX12_limit 38 (.putfield 220) 3 := by decide +kernel
theorem dX12_limit_41 : cod mX12_limit 41 (.aload_n 0) 1 := by decide +kernel
theorem dX12_limit_42 : cod mX12_limit 42 (.getfield 52) 3 := by decide +kernel
theorem dX12_limit_45 : cod mX12_limit 45 (.aload_n 0) 1 := by decide +kernel
theorem dX12_limit_46 : cod mX12_limit 46 (.getfield 16) 3 := by decide +kernel
theorem dX12_limit_49 : cod mX12_limit 49 (.aload_n 2) 1 := by decide +kernel
theorem dX12_limit_50 : cod mX12_limit 50 (.invokevirtual 209) 3 := by decide +kernel
theorem dX12_limit_53 : cod mX12_limit 53 (.aload_n 0) 1 := by decide +kernel
theorem dX12_limit_54 : cod mX12_limit 54 (.getfield 52) 3 := by decide +kernel
theorem dX12_limit_57 : cod mX12_limit 57 (.getfield 213) 3 := by decide +kernel
theorem dX12_limit_60 : cod mX12_limit 60 (.lstore_n 3) 1 := by decide +kernel
theorem dX12_limit_61 : cod mX12_limit 61 (.aload_n 0) 1 := by decide +kernel
theorem dX12_limit_62 : cod mX12_limit 62 (.getfield 52) 3 := by decide +kernel
theorem dX12_limit_65 : cod mX12_limit 65 (.aload_n 0) 1 := by decide +kernel
theorem dX12_limit_66 : cod mX12_limit 66 (.getfield 10) 3 := by decide +kernel
theorem dX12_limit_69 : cod mX12_limit 69 (.aload_n 2) 1 := by decide +kernel
theorem dX12_limit_70 : cod mX12_limit 70 (.invokevirtual 209) 3 := by decide +kernel
theorem dX12_limit_73 : cod mX12_limit 73 (.lload_n 3) 1 := by decide +kernel
theorem dX12_limit_74 : cod mX12_limit 74 (.aload_n 0) 1 := by decide +kernel
theorem dX12_limit_75 : cod mX12_limit 75 (.getfield 52) 3 := by decide +kernel
theorem dX12_limit_78 : cod mX12_limit 78 (.getfield 213) 3 := by decide +kernel
theorem dX12_limit_81 : cod mX12_limit 81 (.lsub) 1 := by decide +kernel
theorem dX12_limit_82 : cod mX12_limit 82 (.lreturn) 1 := by decide +kernel
def wp_X12_limit (p0 : Nat) (p1 : Int32) (M : Mem) (Q : Int64 → Mem → Prop) : Prop := mK M p0 = 13 ∧ wp_X12_readyWayOn p0 p1 M (fun r3 M2 => (¬ r3 = 0 → mK M2 p0 = 13 ∧ mK M2 (mR M2 p0 1) = 7 ∧ wp_X6_copyFrom (mR M2 p0 1) (mR M2 p0 0) M2 (fun M9 => mK M9 p0 = 13 ∧ mK M9 (mR M9 p0 1) = 7 ∧ ∀ M10 : Mem, M10 = uI M9 (mR M9 p0 1) 7 20 → mK M10 (mR M10 p0 9) = 1 ∧ wp_X0_weigh (mR M10 p0 9) (mR M10 p0 1) r3 M10 (fun M14 => mK M14 p0 = 13 ∧ mK M14 (mR M14 p0 9) = 1 ∧ ∀ y15 : Int64, y15 = mJ M14 (mR M14 p0 9) 2 → wp_X0_weigh (mR M14 p0 9) (mR M14 p0 0) r3 M14 (fun M19 => mK M19 p0 = 13 ∧ mK M19 (mR M19 p0 9) = 1 ∧ Q (y15 - (mJ M19 (mR M19 p0 9) 2)) M19)))) ∧ (r3 = 0 → mK M2 p0 = 13 ∧ wp_X12_whyNotReady p0 p1 M2 (fun r22 M21 => Q (r22.toInt64 - 4000000000000000000) M21)))
theorem T_X12_limit {G : GG} {Q : Int64 → Mem → Prop} {M : Mem} {p0 : Nat} {p1 : Int32} (h : wp_X12_limit p0 p1 M Q) : PMet G mX12_limit 13 0 0 [.ref p0, .int p1] M (QJ Q) :=
  mk_met (by decide) rfl rfl (by
    intro w hw x9 e9
    subst e9
    simp at hw) (Nat.le_of_ble_eq_true rfl) (s_pad (L1 := [some (.ref p0), some (.int p1), none, none, none]) 5 rfl (s_aload_n (pc := 0) dX12_limit_0 rfl (s_iload_n (pc := 1) dX12_limit_1 rfl (s_callV (pc := 2) (As := [.int p1]) (rest := []) (d' := 2) (mc' := 0) (ms' := 0) dX12_limit_2 c_X12_175 (Nat.le_of_ble_eq_true rfl) rfl h.1 rfl rfl (Nat.le_of_ble_eq_true rfl) (rm_ok rfl rfl) ⟨Nat.le_refl 0, Nat.le_refl 0⟩ (T_X12_readyWayOn h.2) (kkR (fun r3 M2 h1 => s_astore_n (pc := 5) (L1 := [some (.ref p0), some (.int p1), some (.ref r3), none, none]) dX12_limit_5 (Nat.le_of_ble_eq_true rfl) rfl (s_aload_n (pc := 6) dX12_limit_6 rfl (s_ifnonnull (pc := 7) (tgt := 21) dX12_limit_7 rfl (fun c4 => have h5 := h1.1 c4; s_aload_n (pc := 21) dX12_limit_21 rfl (s_getR (pc := 22) dX12_limit_22 f_X12_16 rfl h5.1 (s_aload_n (pc := 25) dX12_limit_25 rfl (s_getR (pc := 26) dX12_limit_26 f_X12_10 rfl h5.1 (s_callV (pc := 29) (As := [.ref (mR M2 p0 0)]) (rest := []) (d' := 0) (mc' := 0) (ms' := 0) dX12_limit_29 c_X12_71 (Nat.le_of_ble_eq_true rfl) rfl h5.2.1 rfl rfl (Nat.le_of_ble_eq_true rfl) (rm_ok rfl rfl) ⟨Nat.le_refl 0, Nat.le_refl 0⟩ (T_X6_copyFrom h5.2.2) (kkV (fun M9 h8 => s_aload_n (pc := 32) dX12_limit_32 rfl (s_getR (pc := 33) dX12_limit_33 f_X12_16 rfl h8.1 (s_bipush (pc := 36) dX12_limit_36 cb_20 (s_putI (pc := 38) dX12_limit_38 f_X12_220 (Or.inl rfl) (Or.inl rfl) h8.2.1 (nmM (fun M10 e11 => have h12 := h8.2.2 M10 e11; s_aload_n (pc := 41) dX12_limit_41 rfl (s_getR (pc := 42) dX12_limit_42 f_X12_52 rfl ((congrFun (congrArg mK e11) p0).trans h8.1) (s_aload_n (pc := 45) dX12_limit_45 rfl (s_getR (pc := 46) dX12_limit_46 f_X12_16 rfl ((congrFun (congrArg mK e11) p0).trans h8.1) (s_aload_n (pc := 49) dX12_limit_49 rfl (s_callV (pc := 50) (As := [.ref (mR M10 p0 1), .ref r3]) (rest := []) (d' := 12) (mc' := 0) (ms' := 0) dX12_limit_50 c_X12_209 (Nat.le_of_ble_eq_true rfl) rfl h12.1 rfl rfl (Nat.le_of_ble_eq_true rfl) (rm_ok rfl rfl) ⟨Nat.le_refl 0, Nat.le_refl 0⟩ (T_X0_weigh h12.2) (kkV (fun M14 h13 => s_aload_n (pc := 53) dX12_limit_53 rfl (s_getR (pc := 54) dX12_limit_54 f_X12_52 rfl h13.1 (s_getJ (pc := 57) dX12_limit_57 f_X12_213 rfl h13.2.1 (nmJ (fun y15 e16 => have h17 := h13.2.2 y15 e16; s_lstore_n (pc := 60) (L1 := [some (.ref p0), some (.int p1), some (.ref r3), some (.long y15), none]) dX12_limit_60 (Nat.le_of_ble_eq_true rfl) rfl (s_aload_n (pc := 61) dX12_limit_61 rfl (s_getR (pc := 62) dX12_limit_62 f_X12_52 rfl h13.1 (s_aload_n (pc := 65) dX12_limit_65 rfl (s_getR (pc := 66) dX12_limit_66 f_X12_10 rfl h13.1 (s_aload_n (pc := 69) dX12_limit_69 rfl (s_callV (pc := 70) (As := [.ref (mR M14 p0 0), .ref r3]) (rest := []) (d' := 12) (mc' := 0) (ms' := 0) dX12_limit_70 c_X12_209 (Nat.le_of_ble_eq_true rfl) rfl h13.2.1 rfl rfl (Nat.le_of_ble_eq_true rfl) (rm_ok rfl rfl) ⟨Nat.le_refl 0, Nat.le_refl 0⟩ (T_X0_weigh h17) (kkV (fun M19 h18 => s_lload_n (pc := 73) dX12_limit_73 rfl (s_aload_n (pc := 74) dX12_limit_74 rfl (s_getR (pc := 75) dX12_limit_75 f_X12_52 rfl h18.1 (s_getJ (pc := 78) dX12_limit_78 f_X12_213 rfl h18.2.1 (s_lsub (pc := 81) dX12_limit_81 (s_lreturn (pc := 82) dX12_limit_82 rfl (Nat.zero_le _) (Nat.zero_le _) ⟨_, rfl, h18.2.2⟩)))))))))))))))))))))))))))))))))))) (fun c6 => have h7 := h1.2 c6; s_aload_n (pc := 10) dX12_limit_10 rfl (s_iload_n (pc := 11) dX12_limit_11 rfl (s_callV (pc := 12) (As := [.int p1]) (rest := []) (d' := 2) (mc' := 0) (ms' := 0) dX12_limit_12 c_X12_179 (Nat.le_of_ble_eq_true rfl) rfl h7.1 rfl rfl (Nat.le_of_ble_eq_true rfl) (rm_ok rfl rfl) ⟨Nat.le_refl 0, Nat.le_refl 0⟩ (T_X12_whyNotReady h7.2) (kkI (fun r22 M21 h20 => s_i2l (pc := 15) dX12_limit_15 (s_ldc2 (pc := 16) dX12_limit_16 k_X12_207 (s_lsub (pc := 19) dX12_limit_19 (s_lreturn (pc := 20) dX12_limit_20 rfl (Nat.zero_le _) (Nat.zero_le _) ⟨_, rfl, h20⟩))))))))))))))))
/-! X12_mean -/
theorem dX12_mean_0 : cod mX12_mean 0 (.aload_n 0) 1 := by decide +kernel
theorem dX12_mean_1 : cod mX12_mean 1 (.iload_n 1) 1 := by decide +kernel
theorem dX12_mean_2 : cod mX12_mean 2 (.invokevirtual 175) 3 := by decide +kernel
theorem dX12_mean_5 : cod mX12_mean 5 (.astore_n 2) 1 := by decide +kernel
theorem dX12_mean_6 : cod mX12_mean 6 (.aload_n 2) 1 := by decide +kernel
theorem dX12_mean_7 : cod mX12_mean 7 (.ifnonnull 14) 3 := by decide +kernel
theorem dX12_mean_10 : cod mX12_mean 10 (.aload_n 0) 1 := by decide +kernel
theorem dX12_mean_11 : cod mX12_mean 11 (.iload_n 1) 1 := by decide +kernel
theorem dX12_mean_12 : cod mX12_mean 12 (.invokevirtual 179) 3 := by decide +kernel
theorem dX12_mean_15 : cod mX12_mean 15 (.i2l) 1 := by decide +kernel
theorem dX12_mean_16 : cod mX12_mean 16 (.ldc2_w 207) 3 := by decide +kernel
theorem dX12_mean_19 : cod mX12_mean 19 (.lsub) 1 := by decide +kernel
theorem dX12_mean_20 : cod mX12_mean 20 (.lreturn) 1 := by decide +kernel
theorem dX12_mean_21 : cod mX12_mean 21 (.aload_n 0) 1 := by decide +kernel
theorem dX12_mean_22 : cod mX12_mean 22 (.getfield 52) 3 := by decide +kernel
theorem dX12_mean_25 : cod mX12_mean 25 (.aload_n 0) 1 := by decide +kernel
theorem dX12_mean_26 : cod mX12_mean 26 (.getfield 10) 3 := by decide +kernel
theorem dX12_mean_29 : cod mX12_mean 29 (.aload_n 2) 1 := by decide +kernel
theorem dX12_mean_30 : cod mX12_mean 30 (.invokevirtual 209) 3 := by decide +kernel
theorem dX12_mean_33 : cod mX12_mean 33 (.aload_n 0) 1 := by decide +kernel
theorem dX12_mean_34 : cod mX12_mean 34 (.getfield 52) 3 := by decide +kernel
theorem dX12_mean_37 : cod mX12_mean 37 (.getfield 213) 3 := by decide +kernel
theorem dX12_mean_40 : cod mX12_mean 40 (.lreturn) 1 := by decide +kernel
def wp_X12_mean (p0 : Nat) (p1 : Int32) (M : Mem) (Q : Int64 → Mem → Prop) : Prop := mK M p0 = 13 ∧ wp_X12_readyWayOn p0 p1 M (fun r3 M2 => (¬ r3 = 0 → mK M2 p0 = 13 ∧ mK M2 (mR M2 p0 9) = 1 ∧ wp_X0_weigh (mR M2 p0 9) (mR M2 p0 0) r3 M2 (fun M9 => mK M9 p0 = 13 ∧ mK M9 (mR M9 p0 9) = 1 ∧ Q (mJ M9 (mR M9 p0 9) 2) M9)) ∧ (r3 = 0 → mK M2 p0 = 13 ∧ wp_X12_whyNotReady p0 p1 M2 (fun r12 M11 => Q (r12.toInt64 - 4000000000000000000) M11)))
theorem T_X12_mean {G : GG} {Q : Int64 → Mem → Prop} {M : Mem} {p0 : Nat} {p1 : Int32} (h : wp_X12_mean p0 p1 M Q) : PMet G mX12_mean 13 0 0 [.ref p0, .int p1] M (QJ Q) :=
  mk_met (by decide) rfl rfl (by
    intro w hw x9 e9
    subst e9
    simp at hw) (Nat.le_of_ble_eq_true rfl) (s_pad (L1 := [some (.ref p0), some (.int p1), none]) 3 rfl (s_aload_n (pc := 0) dX12_mean_0 rfl (s_iload_n (pc := 1) dX12_mean_1 rfl (s_callV (pc := 2) (As := [.int p1]) (rest := []) (d' := 2) (mc' := 0) (ms' := 0) dX12_mean_2 c_X12_175 (Nat.le_of_ble_eq_true rfl) rfl h.1 rfl rfl (Nat.le_of_ble_eq_true rfl) (rm_ok rfl rfl) ⟨Nat.le_refl 0, Nat.le_refl 0⟩ (T_X12_readyWayOn h.2) (kkR (fun r3 M2 h1 => s_astore_n (pc := 5) (L1 := [some (.ref p0), some (.int p1), some (.ref r3)]) dX12_mean_5 (Nat.le_of_ble_eq_true rfl) rfl (s_aload_n (pc := 6) dX12_mean_6 rfl (s_ifnonnull (pc := 7) (tgt := 21) dX12_mean_7 rfl (fun c4 => have h5 := h1.1 c4; s_aload_n (pc := 21) dX12_mean_21 rfl (s_getR (pc := 22) dX12_mean_22 f_X12_52 rfl h5.1 (s_aload_n (pc := 25) dX12_mean_25 rfl (s_getR (pc := 26) dX12_mean_26 f_X12_10 rfl h5.1 (s_aload_n (pc := 29) dX12_mean_29 rfl (s_callV (pc := 30) (As := [.ref (mR M2 p0 0), .ref r3]) (rest := []) (d' := 12) (mc' := 0) (ms' := 0) dX12_mean_30 c_X12_209 (Nat.le_of_ble_eq_true rfl) rfl h5.2.1 rfl rfl (Nat.le_of_ble_eq_true rfl) (rm_ok rfl rfl) ⟨Nat.le_refl 0, Nat.le_refl 0⟩ (T_X0_weigh h5.2.2) (kkV (fun M9 h8 => s_aload_n (pc := 33) dX12_mean_33 rfl (s_getR (pc := 34) dX12_mean_34 f_X12_52 rfl h8.1 (s_getJ (pc := 37) dX12_mean_37 f_X12_213 rfl h8.2.1 (s_lreturn (pc := 40) dX12_mean_40 rfl (Nat.zero_le _) (Nat.zero_le _) ⟨_, rfl, h8.2.2⟩))))))))))) (fun c6 => have h7 := h1.2 c6; s_aload_n (pc := 10) dX12_mean_10 rfl (s_iload_n (pc := 11) dX12_mean_11 rfl (s_callV (pc := 12) (As := [.int p1]) (rest := []) (d' := 2) (mc' := 0) (ms' := 0) dX12_mean_12 c_X12_179 (Nat.le_of_ble_eq_true rfl) rfl h7.1 rfl rfl (Nat.le_of_ble_eq_true rfl) (rm_ok rfl rfl) ⟨Nat.le_refl 0, Nat.le_refl 0⟩ (T_X12_whyNotReady h7.2) (kkI (fun r12 M11 h10 => s_i2l (pc := 15) dX12_mean_15 (s_ldc2 (pc := 16) dX12_mean_16 k_X12_207 (s_lsub (pc := 19) dX12_mean_19 (s_lreturn (pc := 20) dX12_mean_20 rfl (Nat.zero_le _) (Nat.zero_le _) ⟨_, rfl, h10⟩))))))))))))))))
/-! X4_store -/
theorem dX4_store_0 : cod mX4_store 0 (.aload_n 0) 1 := by decide +kernel
theorem dX4_store_1 : cod mX4_store 1 (.getfield 15) 3 := by decide +kernel
theorem dX4_store_4 : cod mX4_store 4 (.iload_n 1) 1 := by decide +kernel
theorem dX4_store_5 : cod mX4_store 5 (.aload_n 0) 1 := by decide +kernel
theorem dX4_store_6 : cod mX4_store 6 (.getfield 11) 3 := by decide +kernel
theorem dX4_store_9 : cod mX4_store 9 (.ifCond .ne 8) 3 := by decide +kernel
theorem dX4_store_12 : cod mX4_store 12 (.iload_n 2) 1 := by decide +kernel
theorem dX4_store_13 : cod mX4_store 13 (.i2b) 1 := by decide +kernel
theorem dX4_store_14 : cod mX4_store 14 (.goto 17) 3 := by decide +kernel
theorem dX4_store_17 : cod mX4_store 17 (.aload_n 0) 1 := by decide +kernel
theorem dX4_store_18 : cod mX4_store 18 (.getfield 11) 3 := by decide +kernel
theorem dX4_store_21 : cod mX4_store 21 (.iconst 1) 1 := by decide +kernel
theorem dX4_store_22 : cod mX4_store 22 (.if_icmp .ne 8) 3 := by decide +kernel
theorem dX4_store_25 : cod mX4_store 25 (.iload_n 2) 1 := by decide +kernel
theorem dX4_store_26 : cod mX4_store 26 (.i2s) 1 := by decide +kernel
theorem dX4_store_27 : cod mX4_store 27 (.goto 4) 3 := by decide +kernel
theorem dX4_store_30 : cod mX4_store 30 (.iload_n 2) 1 := by decide +kernel
theorem dX4_store_31 : cod mX4_store 31 (.iastore) 1 := by decide +kernel
theorem dX4_store_32 : cod mX4_store 32 (.return_) 1 := by decide +kernel
def jn_X4_store_31 (Q : Mem → Prop) (s0 : Int32) (s1 : Int32) (s2 : Nat) (M : Mem) : Prop := mK M s2 = 20 ∧ vp_in s1 (mN M s2) ∧ ∀ M9 : Mem, M9 = uI M s2 s1.toNatClampNeg s0 → Q M9
theorem P_jn_X4_store_31 {G : GG} {Q : Mem → Prop} (s0 : Int32) (s1 : Int32) (s2 : Nat) (M : Mem) (h : jn_X4_store_31 Q s0 s1 s2 M) : PW G mX4_store (rmD 0 0 0) (QV Q) 31 [none, none, none] [.int s0, .int s1, .ref s2] M 0 0 := (s_ias (pc := 31) dX4_store_31 h.1 h.2.1 (nmM (fun M9 e10 => have h11 := (h.2.2) M9 e10; s_return (pc := 32) dX4_store_32 rfl (Nat.zero_le _) (Nat.zero_le _) ⟨rfl, h11⟩)))
def wp_X4_store (p0 : Nat) (p1 : Int32) (p2 : Int32) (M : Mem) (Q : Mem → Prop) : Prop := mK M p0 = 5 ∧ (¬ (mI M p0 1) = (0 : Int32) → (¬ (mI M p0 1) = (1 : Int32) → jn_X4_store_31 Q p2 p1 (mR M p0 3) M) ∧ ((mI M p0 1) = (1 : Int32) → jn_X4_store_31 Q p2.toInt16.toInt32 p1 (mR M p0 3) M)) ∧ ((mI M p0 1) = (0 : Int32) → jn_X4_store_31 Q p2.toInt8.toInt32 p1 (mR M p0 3) M)
theorem T_X4_store {G : GG} {Q : Mem → Prop} {M : Mem} {p0 : Nat} {p1 : Int32} {p2 : Int32} (h : wp_X4_store p0 p1 p2 M Q) : PMet G mX4_store 0 0 0 [.ref p0, .int p1, .int p2] M (QV Q) :=
  mk_met (by decide) rfl rfl (by
    intro w hw x9 e9
    subst e9
    simp at hw) (Nat.le_of_ble_eq_true rfl) (s_pad (L1 := [some (.ref p0), some (.int p1), some (.int p2)]) 3 rfl (s_aload_n (pc := 0) dX4_store_0 rfl (s_getR (pc := 1) dX4_store_1 f_X4_15 rfl h.1 (s_iload_n (pc := 4) dX4_store_4 rfl (s_aload_n (pc := 5) dX4_store_5 rfl (s_getI (pc := 6) dX4_store_6 f_X4_11 rfl h.1 (s_if_ne (pc := 9) (tgt := 17) dX4_store_9 rfl (fun c1 => have h2 := h.2.1 c1; s_aload_n (pc := 17) dX4_store_17 rfl (s_getI (pc := 18) dX4_store_18 f_X4_11 rfl h.1 (s_iconst (pc := 21) dX4_store_21 ci_1 (s_icmp_ne (pc := 22) (tgt := 30) dX4_store_22 rfl (fun c5 => have h6 := h2.1 c5; s_iload_n (pc := 30) dX4_store_30 rfl (s_sel (L1 := [none, none, none]) [false, false, false] rfl (P_jn_X4_store_31 p2 p1 (mR M p0 3) M h6))) (fun c7 => have h8 := h2.2 c7; s_iload_n (pc := 25) dX4_store_25 rfl (s_i2s (pc := 26) dX4_store_26 (s_goto (pc := 27) (tgt := 31) dX4_store_27 rfl (s_sel (L1 := [none, none, none]) [false, false, false] rfl (P_jn_X4_store_31 p2.toInt16.toInt32 p1 (mR M p0 3) M h8))))))))) (fun c3 => have h4 := h.2.2 c3; s_iload_n (pc := 12) dX4_store_12 rfl (s_i2b (pc := 13) dX4_store_13 (s_goto (pc := 14) (tgt := 31) dX4_store_14 rfl (s_sel (L1 := [none, none, none]) [false, false, false] rfl (P_jn_X4_store_31 p2.toInt8.toInt32 p1 (mR M p0 3) M h4))))))))))))
/-! X12_put -/
theorem dX12_put_0 : cod mX12_put 0 (.aload_n 0) 1 := by decide +kernel
theorem dX12_put_1 : cod mX12_put 1 (.iload_n 1) 1 := by decide +kernel
theorem dX12_put_2 : cod mX12_put 2 (.invokevirtual 313) 3 := by decide +kernel
theorem dX12_put_5 : cod mX12_put 5 (.astore 4) 2 := by decide +kernel
theorem dX12_put_7 : cod mX12_put 7 (.aload 4) 2 := by decide +kernel
theorem dX12_put_9 : cod mX12_put 9 (.ifnonnull 9) 3 := by decide +kernel
theorem dX12_put_12 : cod mX12_put 12 (.aload_n 0) 1 := by decide +kernel
theorem dX12_put_13 : cod mX12_put 13 (.iload_n 1) 1 := by decide +kernel
theorem dX12_put_14 : cod mX12_put 14 (.invokevirtual 67) 3 := by decide +kernel
theorem dX12_put_17 : cod mX12_put 17 (.ireturn) 1 := by decide +kernel
theorem dX12_put_18 : cod mX12_put 18 (.aload 4) 2 := by decide +kernel
theorem dX12_put_20 : cod mX12_put 20 (.iload_n 2) 1 := by decide +kernel
theorem dX12_put_21 : cod mX12_put 21 (.invokevirtual 316) 3 := by decide +kernel
theorem dX12_put_24 : cod mX12_put 24 (.ifCond .ne 6) 3 := by decide +kernel
theorem dX12_put_27 : cod mX12_put 27 (.bipush (-13)) 2 := by decide +kernel
theorem dX12_put_29 : cod mX12_put 29 (.ireturn) 1 := by decide +kernel
theorem dX12_put_30 : cod mX12_put 30 (.aload 4) 2 := by decide +kernel
theorem dX12_put_32 : cod mX12_put 32 (.iload_n 2) 1 := by decide +kernel
theorem dX12_put_33 : cod mX12_put 33 (.iload_n 3) 1 := by decide +kernel
theorem dX12_put_34 : cod mX12_put 34 (.invokevirtual 319) 3 := by decide +kernel
theorem dX12_put_37 : cod mX12_put 37 (.iconst 0) 1 := by decide +kernel
theorem dX12_put_38 : cod mX12_put 38 (.ireturn) 1 := by decide +kernel
def wp_X12_put (p0 : Nat) (p1 : Int32) (p2 : Int32) (p3 : Int32) (M : Mem) (Q : Int32 → Mem → Prop) : Prop := mK M p0 = 13 ∧ wp_X12_rowOn p0 p1 M (fun r3 M2 => (¬ r3 = 0 → mK M2 r3 = 5 ∧ wp_X4_hasPlace r3 p2 M2 (fun r10 M9 => (¬ r10 = (0 : Int32) → mK M9 r3 = 5 ∧ wp_X4_store r3 p2 p3 M9 (fun M16 => Q 0 M16)) ∧ (r10 = (0 : Int32) → Q (-13) M9))) ∧ (r3 = 0 → mK M2 p0 = 13 ∧ wp_X12_whyNot p0 p1 M2 (fun r19 M18 => Q r19 M18)))
theorem T_X12_put {G : GG} {Q : Int32 → Mem → Prop} {M : Mem} {p0 : Nat} {p1 : Int32} {p2 : Int32} {p3 : Int32} (h : wp_X12_put p0 p1 p2 p3 M Q) : PMet G mX12_put 2 0 0 [.ref p0, .int p1, .int p2, .int p3] M (QI Q) :=
  mk_met (by decide) rfl rfl (by
    intro w hw x9 e9
    subst e9
    simp at hw) (Nat.le_of_ble_eq_true rfl) (s_pad (L1 := [some (.ref p0), some (.int p1), some (.int p2), some (.int p3), none]) 5 rfl (s_aload_n (pc := 0) dX12_put_0 rfl (s_iload_n (pc := 1) dX12_put_1 rfl (s_callV (pc := 2) (As := [.int p1]) (rest := []) (d' := 1) (mc' := 0) (ms' := 0) dX12_put_2 c_X12_313 (Nat.le_of_ble_eq_true rfl) rfl h.1 rfl rfl (Nat.le_of_ble_eq_true rfl) (rm_ok rfl rfl) ⟨Nat.le_refl 0, Nat.le_refl 0⟩ (T_X12_rowOn h.2) (kkR (fun r3 M2 h1 => s_astore (pc := 5) (L1 := [some (.ref p0), some (.int p1), some (.int p2), some (.int p3), some (.ref r3)]) dX12_put_5 (Nat.le_of_ble_eq_true rfl) rfl (s_aload (pc := 7) dX12_put_7 rfl (s_ifnonnull (pc := 9) (tgt := 18) dX12_put_9 rfl (fun c4 => have h5 := h1.1 c4; s_aload (pc := 18) dX12_put_18 rfl (s_iload_n (pc := 20) dX12_put_20 rfl (s_callV (pc := 21) (As := [.int p2]) (rest := []) (d' := 0) (mc' := 0) (ms' := 0) dX12_put_21 c_X12_316 (Nat.le_of_ble_eq_true rfl) rfl h5.1 rfl rfl (Nat.le_of_ble_eq_true rfl) (rm_ok rfl rfl) ⟨Nat.le_refl 0, Nat.le_refl 0⟩ (T_X4_hasPlace h5.2) (kkI (fun r10 M9 h8 => s_if_ne (pc := 24) (tgt := 30) dX12_put_24 rfl (fun c11 => have h12 := h8.1 c11; s_aload (pc := 30) dX12_put_30 rfl (s_iload_n (pc := 32) dX12_put_32 rfl (s_iload_n (pc := 33) dX12_put_33 rfl (s_callV (pc := 34) (As := [.int p2, .int p3]) (rest := []) (d' := 0) (mc' := 0) (ms' := 0) dX12_put_34 c_X12_319 (Nat.le_of_ble_eq_true rfl) rfl h12.1 rfl rfl (Nat.le_of_ble_eq_true rfl) (rm_ok rfl rfl) ⟨Nat.le_refl 0, Nat.le_refl 0⟩ (T_X4_store h12.2) (kkV (fun M16 h15 => s_iconst (pc := 37) dX12_put_37 ci_0 (s_ireturn (pc := 38) dX12_put_38 rfl (Nat.zero_le _) (Nat.zero_le _) ⟨_, rfl, h15⟩))))))) (fun c13 => have h14 := h8.2 c13; s_bipush (pc := 27) dX12_put_27 cb_m13 (s_ireturn (pc := 29) dX12_put_29 rfl (Nat.zero_le _) (Nat.zero_le _) ⟨_, rfl, h14⟩))))))) (fun c6 => have h7 := h1.2 c6; s_aload_n (pc := 12) dX12_put_12 rfl (s_iload_n (pc := 13) dX12_put_13 rfl (s_callV (pc := 14) (As := [.int p1]) (rest := []) (d' := 1) (mc' := 0) (ms' := 0) dX12_put_14 c_X12_67 (Nat.le_of_ble_eq_true rfl) rfl h7.1 rfl rfl (Nat.le_of_ble_eq_true rfl) (rm_ok rfl rfl) ⟨Nat.le_refl 0, Nat.le_refl 0⟩ (T_X12_whyNot h7.2) (kkI (fun r19 M18 h17 => s_ireturn (pc := 17) dX12_put_17 rfl (Nat.zero_le _) (Nat.zero_le _) ⟨_, rfl, h17⟩)))))))))))))
/-! X5_meanOf -/
theorem dX5_meanOf_0 : cod mX5_meanOf 0 (.aload_n 1) 1 := by decide +kernel
theorem dX5_meanOf_1 : cod mX5_meanOf 1 (.aload_n 0) 1 := by decide +kernel
theorem dX5_meanOf_2 : cod mX5_meanOf 2 (.getfield 11) 3 := by decide +kernel
theorem dX5_meanOf_5 : cod mX5_meanOf 5 (.iload_n 3) 1 := by decide +kernel
theorem dX5_meanOf_6 : cod mX5_meanOf 6 (.iaload) 1 := by decide +kernel
theorem dX5_meanOf_7 : cod mX5_meanOf 7 (.iload_n 2) 1 := by decide +kernel
theorem dX5_meanOf_8 : cod mX5_meanOf 8 (.imul) 1 := by decide +kernel
theorem dX5_meanOf_9 : cod mX5_meanOf 9 (.aload_n 0) 1 := by decide +kernel
theorem dX5_meanOf_10 : cod mX5_meanOf 10 (.getfield 15) 3 := by decide +kernel
theorem dX5_meanOf_13 : cod mX5_meanOf 13 (.iload_n 3) 1 := by decide +kernel
theorem dX5_meanOf_14 : cod mX5_meanOf 14 (.iaload) 1 := by decide +kernel
theorem dX5_meanOf_15 : cod mX5_meanOf 15 (.iload_n 2) 1 := by decide +kernel
theorem dX5_meanOf_16 : cod mX5_meanOf 16 (.imul) 1 := by decide +kernel
theorem dX5_meanOf_17 : cod mX5_meanOf 17 (.aload_n 0) 1 := by decide +kernel
theorem dX5_meanOf_18 : cod mX5_meanOf 18 (.getfield 11) 3 := by decide +kernel
theorem dX5_meanOf_21 : cod mX5_meanOf 21 (.iload 4) 2 := by decide +kernel
theorem dX5_meanOf_23 : cod mX5_meanOf 23 (.iaload) 1 := by decide +kernel
theorem dX5_meanOf_24 : cod mX5_meanOf 24 (.iload_n 2) 1 := by decide +kernel
theorem dX5_meanOf_25 : cod mX5_meanOf 25 (.imul) 1 := by decide +kernel
theorem dX5_meanOf_26 : cod mX5_meanOf 26 (.aload_n 0) 1 := by decide +kernel
theorem dX5_meanOf_27 : cod mX5_meanOf 27 (.getfield 15) 3 := by decide +kernel
theorem dX5_meanOf_30 : cod mX5_meanOf 30 (.iload 4) 2 := by decide +kernel
theorem dX5_meanOf_32 : cod mX5_meanOf 32 (.iaload) 1 := by decide +kernel
theorem dX5_meanOf_33 : cod mX5_meanOf 33 (.iload_n 2) 1 := by decide +kernel
theorem dX5_meanOf_34 : cod mX5_meanOf 34 (.imul) 1 := by decide +kernel
theorem dX5_meanOf_35 : cod mX5_meanOf 35 (.iload 5) 2 := by decide +kernel
theorem dX5_meanOf_37 : cod mX5_meanOf 37 (.invokevirtual 133) 3 := by decide +kernel
theorem dX5_meanOf_40 : cod mX5_meanOf 40 (.lreturn) 1 := by decide +kernel
def wp_X5_meanOf (p0 : Nat) (p1 : Nat) (p2 : Int32) (p3 : Int32) (p4 : Int32) (p5 : Int32) (M : Mem) (Q : Int64 → Mem → Prop) : Prop := mK M p0 = 6 ∧ mK M (mR M p0 4) = 20 ∧ vp_in p3 (mN M (mR M p0 4)) ∧ mK M (mR M p0 5) = 20 ∧ vp_in p3 (mN M (mR M p0 5)) ∧ vp_in p4 (mN M (mR M p0 4)) ∧ vp_in p4 (mN M (mR M p0 5)) ∧ mK M p1 = 7 ∧ wp_X6_meanBeside p1 ((mI M (mR M p0 4) p3.toNatClampNeg) * p2) ((mI M (mR M p0 5) p3.toNatClampNeg) * p2) ((mI M (mR M p0 4) p4.toNatClampNeg) * p2) ((mI M (mR M p0 5) p4.toNatClampNeg) * p2) p5 M (fun r3 M2 => Q r3 M2)
theorem T_X5_meanOf {G : GG} {Q : Int64 → Mem → Prop} {M : Mem} {p0 : Nat} {p1 : Nat} {p2 : Int32} {p3 : Int32} {p4 : Int32} {p5 : Int32} (h : wp_X5_meanOf p0 p1 p2 p3 p4 p5 M Q) : PMet G mX5_meanOf 3 0 0 [.ref p0, .ref p1, .int p2, .int p3, .int p4, .int p5] M (QJ Q) :=
  mk_met (by decide) rfl rfl (by
    intro w hw x9 e9
    subst e9
    simp at hw) (Nat.le_of_ble_eq_true rfl) (s_pad (L1 := [some (.ref p0), some (.ref p1), some (.int p2), some (.int p3), some (.int p4), some (.int p5)]) 6 rfl (s_aload_n (pc := 0) dX5_meanOf_0 rfl (s_aload_n (pc := 1) dX5_meanOf_1 rfl (s_getR (pc := 2) dX5_meanOf_2 f_X5_11 rfl h.1 (s_iload_n (pc := 5) dX5_meanOf_5 rfl (s_ial (pc := 6) dX5_meanOf_6 h.2.1 h.2.2.1 (s_iload_n (pc := 7) dX5_meanOf_7 rfl (s_imul (pc := 8) dX5_meanOf_8 (s_aload_n (pc := 9) dX5_meanOf_9 rfl (s_getR (pc := 10) dX5_meanOf_10 f_X5_15 rfl h.1 (s_iload_n (pc := 13) dX5_meanOf_13 rfl (s_ial (pc := 14) dX5_meanOf_14 h.2.2.2.1 h.2.2.2.2.1 (s_iload_n (pc := 15) dX5_meanOf_15 rfl (s_imul (pc := 16) dX5_meanOf_16 (s_aload_n (pc := 17) dX5_meanOf_17 rfl (s_getR (pc := 18) dX5_meanOf_18 f_X5_11 rfl h.1 (s_iload (pc := 21) dX5_meanOf_21 rfl (s_ial (pc := 23) dX5_meanOf_23 h.2.1 h.2.2.2.2.2.1 (s_iload_n (pc := 24) dX5_meanOf_24 rfl (s_imul (pc := 25) dX5_meanOf_25 (s_aload_n (pc := 26) dX5_meanOf_26 rfl (s_getR (pc := 27) dX5_meanOf_27 f_X5_15 rfl h.1 (s_iload (pc := 30) dX5_meanOf_30 rfl (s_ial (pc := 32) dX5_meanOf_32 h.2.2.2.1 h.2.2.2.2.2.2.1 (s_iload_n (pc := 33) dX5_meanOf_33 rfl (s_imul (pc := 34) dX5_meanOf_34 (s_iload (pc := 35) dX5_meanOf_35 rfl (s_callV (pc := 37) (As := [.int ((mI M (mR M p0 4) p3.toNatClampNeg) * p2), .int ((mI M (mR M p0 5) p3.toNatClampNeg) * p2), .int ((mI M (mR M p0 4) p4.toNatClampNeg) * p2), .int ((mI M (mR M p0 5) p4.toNatClampNeg) * p2), .int p5]) (rest := []) (d' := 2) (mc' := 0) (ms' := 0) dX5_meanOf_37 c_X5_133 (Nat.le_of_ble_eq_true rfl) rfl h.2.2.2.2.2.2.2.1 rfl rfl (Nat.le_of_ble_eq_true rfl) (rm_ok rfl rfl) ⟨Nat.le_refl 0, Nat.le_refl 0⟩ (T_X6_meanBeside h.2.2.2.2.2.2.2.2) (kkJ (fun r3 M2 h1 => s_lreturn (pc := 40) dX5_meanOf_40 rfl (Nat.zero_le _) (Nat.zero_le _) ⟨_, rfl, h1⟩))))))))))))))))))))))))))))))
/-! X5_greatestAgainst -/
theorem dX5_greatestAgainst_0 : cod mX5_greatestAgainst 0 (.lconst 0) 1 := by decide +kernel
theorem dX5_greatestAgainst_1 : cod mX5_greatestAgainst 1 (.lstore 5) 2 := by decide +kernel
theorem dX5_greatestAgainst_3 : cod mX5_greatestAgainst 3 (.iconst 0) 1 := by decide +kernel
theorem dX5_greatestAgainst_4 : cod mX5_greatestAgainst 4 (.istore 7) 2 := by decide +kernel
theorem dX5_greatestAgainst_6 : cod mX5_greatestAgainst 6 (.iload 7) 2 := by decide +kernel
theorem dX5_greatestAgainst_8 : cod mX5_greatestAgainst 8 (.aload_n 0) 1 := by decide +kernel
theorem dX5_greatestAgainst_9 : cod mX5_greatestAgainst 9 (.getfield 47) 3 := by decide +kernel
theorem dX5_greatestAgainst_12 : cod mX5_greatestAgainst 12 (.if_icmp .ge 44) 3 := by decide +kernel
theorem dX5_greatestAgainst_15 : cod mX5_greatestAgainst 15 (.aload_n 0) 1 := by decide +kernel
theorem dX5_greatestAgainst_16 : cod mX5_greatestAgainst 16 (.aload_n 1) 1 := by decide +kernel
theorem dX5_greatestAgainst_17 : cod mX5_greatestAgainst 17 (.iload_n 2) 1 := by decide +kernel
theorem dX5_greatestAgainst_18 : cod mX5_greatestAgainst 18 (.iload 7) 2 := by decide +kernel
theorem dX5_greatestAgainst_20 : cod mX5_greatestAgainst 20 (.iload_n 3) 1 := by decide +kernel
theorem dX5_greatestAgainst_21 : cod mX5_greatestAgainst 21 (.iload 4) 2 := by decide +kernel
theorem dX5_greatestAgainst_23 : cod mX5_greatestAgainst 23 (.invokevirtual 126) 3 := by decide +kernel
theorem dX5_greatestAgainst_26 : cod mX5_greatestAgainst 26 (.lstore 8) 2 := by decide +kernel
theorem dX5_greatestAgainst_28 : cod mX5_greatestAgainst 28 (.iload 7) 2 := by decide +kernel
theorem dX5_greatestAgainst_30 : cod mX5_greatestAgainst 30 (.ifCond .eq 11) 3 := by decide +kernel
theorem dX5_greatestAgainst_33 : cod mX5_greatestAgainst 33 (.lload 8) 2 := by decide +kernel
theorem dX5_greatestAgainst_35 : cod mX5_greatestAgainst 35 (.lload 5) 2 := by decide +kernel
theorem dX5_greatestAgainst_37 : cod mX5_greatestAgainst 37 (.lcmp) 1 := by decide +kernel
theorem dX5_greatestAgainst_38 : cod mX5_greatestAgainst 38 (.ifCond .le 8) 3 := by decide +kernel
theorem dX5_greatestAgainst_41 : cod mX5_greatestAgainst 41 (.lload 8) 2 := by decide +kernel
theorem dX5_greatestAgainst_43 : cod mX5_greatestAgainst 43 (.goto 5) 3 := by decide +kernel
theorem dX5_greatestAgainst_46 : cod mX5_greatestAgainst 46 (.lload 5) 2 := by decide +kernel
theorem dX5_greatestAgainst_48 : cod mX5_greatestAgainst 48 (.lstore 5) 2 := by decide +kernel
theorem dX5_greatestAgainst_50 : cod mX5_greatestAgainst 50 (.iinc 7 1) 3 := by decide +kernel
theorem dX5_greatestAgainst_53 : cod mX5_greatestAgainst 53 (.goto (-47)) 3 := by decide +kernel
theorem dX5_greatestAgainst_56 : cod mX5_greatestAgainst 56 (.lload 5) 2 := by decide +kernel
theorem dX5_greatestAgainst_58 : cod mX5_greatestAgainst 58 (.lreturn) 1 := by decide +kernel
def jn_X5_greatestAgainst_48 (K6 : Nat → Nat → Int32 → Int32 → Int32 → Int64 → Int32 → Mem → Prop) (Q : Int64 → Mem → Prop) (x0 : Nat) (x1 : Nat) (x2 : Int32) (x3 : Int32) (x4 : Int32) (x7 : Int32) (s0 : Int64) (M : Mem) : Prop := K6 x0 x1 x2 x3 x4 s0 (x7 + 1) M
theorem P_jn_X5_greatestAgainst_48 {G : GG} {K6 : Nat → Nat → Int32 → Int32 → Int32 → Int64 → Int32 → Mem → Prop} {Q : Int64 → Mem → Prop} (hK6 : ∀ (x0 : Nat) (x1 : Nat) (x2 : Int32) (x3 : Int32) (x4 : Int32) (x5 : Int64) (x7 : Int32) (M : Mem), K6 x0 x1 x2 x3 x4 x5 x7 M → PW G mX5_greatestAgainst (rmD 4 0 0) (QJ Q) 6 [some (.ref x0), some (.ref x1), some (.int x2), some (.int x3), some (.int x4), some (.long x5), none, some (.int x7), none, none] [] M 0 0) (x0 : Nat) (x1 : Nat) (x2 : Int32) (x3 : Int32) (x4 : Int32) (x7 : Int32) (s0 : Int64) (M : Mem) (h : jn_X5_greatestAgainst_48 K6 Q x0 x1 x2 x3 x4 x7 s0 M) : PW G mX5_greatestAgainst (rmD 4 0 0) (QJ Q) 48 [some (.ref x0), some (.ref x1), some (.int x2), some (.int x3), some (.int x4), none, none, some (.int x7), none, none] [.long s0] M 0 0 := (s_lstore (pc := 48) (L1 := [some (.ref x0), some (.ref x1), some (.int x2), some (.int x3), some (.int x4), some (.long s0), none, some (.int x7), none, none]) dX5_greatestAgainst_48 (Nat.le_of_ble_eq_true rfl) rfl (s_iinc (pc := 50) (L1 := [some (.ref x0), some (.ref x1), some (.int x2), some (.int x3), some (.int x4), some (.long s0), none, some (.int (x7 + 1)), none, none]) dX5_greatestAgainst_50 rfl ci_1 (Nat.le_of_ble_eq_true rfl) rfl (s_goto (pc := 53) (tgt := 6) dX5_greatestAgainst_53 rfl (s_sel (L1 := [some (.ref x0), some (.ref x1), some (.int x2), some (.int x3), some (.int x4), some (.long s0), none, some (.int (x7 + 1)), none, none]) [true, true, true, true, true, true, false, true, false, false] rfl (hK6 x0 x1 x2 x3 x4 s0 (x7 + 1) M h)))))
def jn_X5_greatestAgainst_41 (K6 : Nat → Nat → Int32 → Int32 → Int32 → Int64 → Int32 → Mem → Prop) (Q : Int64 → Mem → Prop) (x0 : Nat) (x1 : Nat) (x2 : Int32) (x3 : Int32) (x4 : Int32) (x7 : Int32) (x8 : Int64) (M : Mem) : Prop := jn_X5_greatestAgainst_48 K6 Q x0 x1 x2 x3 x4 x7 x8 M
theorem P_jn_X5_greatestAgainst_41 {G : GG} {K6 : Nat → Nat → Int32 → Int32 → Int32 → Int64 → Int32 → Mem → Prop} {Q : Int64 → Mem → Prop} (hK6 : ∀ (x0 : Nat) (x1 : Nat) (x2 : Int32) (x3 : Int32) (x4 : Int32) (x5 : Int64) (x7 : Int32) (M : Mem), K6 x0 x1 x2 x3 x4 x5 x7 M → PW G mX5_greatestAgainst (rmD 4 0 0) (QJ Q) 6 [some (.ref x0), some (.ref x1), some (.int x2), some (.int x3), some (.int x4), some (.long x5), none, some (.int x7), none, none] [] M 0 0) (x0 : Nat) (x1 : Nat) (x2 : Int32) (x3 : Int32) (x4 : Int32) (x7 : Int32) (x8 : Int64) (M : Mem) (h : jn_X5_greatestAgainst_41 K6 Q x0 x1 x2 x3 x4 x7 x8 M) : PW G mX5_greatestAgainst (rmD 4 0 0) (QJ Q) 41 [some (.ref x0), some (.ref x1), some (.int x2), some (.int x3), some (.int x4), none, none, some (.int x7), some (.long x8), none] [] M 0 0 := (s_lload (pc := 41) dX5_greatestAgainst_41 rfl (s_goto (pc := 43) (tgt := 48) dX5_greatestAgainst_43 rfl (s_sel (L1 := [some (.ref x0), some (.ref x1), some (.int x2), some (.int x3), some (.int x4), none, none, some (.int x7), none, none]) [true, true, true, true, true, false, false, true, false, false] rfl (P_jn_X5_greatestAgainst_48 hK6 x0 x1 x2 x3 x4 x7 x8 M h))))
def lp_X5_greatestAgainst_6 (Q : Int64 → Mem → Prop) : Nat → Nat → Nat → Int32 → Int32 → Int32 → Int64 → Int32 → Mem → Prop
  | 0 => fun _ _ _ _ _ _ _ _ => False
  | n + 1 => fun x0 x1 x2 x3 x4 x5 x7 M => mK M x0 = 6 ∧ ((mI M x0 3) ≤ x7 → Q x5 M) ∧ (¬ (mI M x0 3) ≤ x7 → wp_X5_meanOf x0 x1 x2 x7 x3 x4 M (fun r7 M6 => (x7 = (0 : Int32) → jn_X5_greatestAgainst_41 (fun fx0 fx1 fx2 fx3 fx4 fx5 fx7 fM => lp_X5_greatestAgainst_6 Q n fx0 fx1 fx2 fx3 fx4 fx5 fx7 fM) Q x0 x1 x2 x3 x4 x7 r7 M6) ∧ (¬ x7 = (0 : Int32) → (r7 ≤ x5 → jn_X5_greatestAgainst_48 (fun fx0 fx1 fx2 fx3 fx4 fx5 fx7 fM => lp_X5_greatestAgainst_6 Q n fx0 fx1 fx2 fx3 fx4 fx5 fx7 fM) Q x0 x1 x2 x3 x4 x7 x5 M6) ∧ (¬ r7 ≤ x5 → jn_X5_greatestAgainst_41 (fun fx0 fx1 fx2 fx3 fx4 fx5 fx7 fM => lp_X5_greatestAgainst_6 Q n fx0 fx1 fx2 fx3 fx4 fx5 fx7 fM) Q x0 x1 x2 x3 x4 x7 r7 M6))))
theorem P_lp_X5_greatestAgainst_6 {G : GG} {Q : Int64 → Mem → Prop} : ∀ (n : Nat) (x0 : Nat) (x1 : Nat) (x2 : Int32) (x3 : Int32) (x4 : Int32) (x5 : Int64) (x7 : Int32) (M : Mem), lp_X5_greatestAgainst_6 Q n x0 x1 x2 x3 x4 x5 x7 M → PW G mX5_greatestAgainst (rmD 4 0 0) (QJ Q) 6 [some (.ref x0), some (.ref x1), some (.int x2), some (.int x3), some (.int x4), some (.long x5), none, some (.int x7), none, none] [] M 0 0 := by
  intro n
  induction n with
  | zero => intro x0 x1 x2 x3 x4 x5 x7 M h; exact h.elim
  | succ n ih =>
    intro x0 x1 x2 x3 x4 x5 x7 M h
    exact (s_iload (pc := 6) dX5_greatestAgainst_6 rfl (s_aload_n (pc := 8) dX5_greatestAgainst_8 rfl (s_getI (pc := 9) dX5_greatestAgainst_9 f_X5_47 rfl h.1 (s_icmp_ge (pc := 12) (tgt := 56) dX5_greatestAgainst_12 rfl (fun c1 => have h2 := h.2.1 c1; s_lload (pc := 56) dX5_greatestAgainst_56 rfl (s_lreturn (pc := 58) dX5_greatestAgainst_58 rfl (Nat.zero_le _) (Nat.zero_le _) ⟨_, rfl, h2⟩)) (fun c3 => have h4 := h.2.2 c3; s_aload_n (pc := 15) dX5_greatestAgainst_15 rfl (s_aload_n (pc := 16) dX5_greatestAgainst_16 rfl (s_iload_n (pc := 17) dX5_greatestAgainst_17 rfl (s_iload (pc := 18) dX5_greatestAgainst_18 rfl (s_iload_n (pc := 20) dX5_greatestAgainst_20 rfl (s_iload (pc := 21) dX5_greatestAgainst_21 rfl (s_callV (pc := 23) (As := [.ref x1, .int x2, .int x7, .int x3, .int x4]) (rest := []) (d' := 3) (mc' := 0) (ms' := 0) dX5_greatestAgainst_23 c_X5_126 (Nat.le_of_ble_eq_true rfl) rfl h.1 rfl rfl (Nat.le_of_ble_eq_true rfl) (rm_ok rfl rfl) ⟨Nat.le_refl 0, Nat.le_refl 0⟩ (T_X5_meanOf h4) (kkJ (fun r7 M6 h5 => s_lstore (pc := 26) (L1 := [some (.ref x0), some (.ref x1), some (.int x2), some (.int x3), some (.int x4), some (.long x5), none, some (.int x7), some (.long r7), none]) dX5_greatestAgainst_26 (Nat.le_of_ble_eq_true rfl) rfl (s_iload (pc := 28) dX5_greatestAgainst_28 rfl (s_if_eq (pc := 30) (tgt := 41) dX5_greatestAgainst_30 rfl (fun c8 => have h9 := h5.1 c8; s_sel (L1 := [some (.ref x0), some (.ref x1), some (.int x2), some (.int x3), some (.int x4), none, none, some (.int x7), some (.long r7), none]) [true, true, true, true, true, false, false, true, true, false] rfl (P_jn_X5_greatestAgainst_41 ih x0 x1 x2 x3 x4 x7 r7 M6 h9)) (fun c10 => have h11 := h5.2 c10; s_lload (pc := 33) dX5_greatestAgainst_33 rfl (s_lload (pc := 35) dX5_greatestAgainst_35 rfl (s_lif_le (pc := 37) (tgt := 46) dX5_greatestAgainst_37 dX5_greatestAgainst_38 rfl (fun c12 => have h13 := h11.1 c12; s_lload (pc := 46) dX5_greatestAgainst_46 rfl (s_sel (L1 := [some (.ref x0), some (.ref x1), some (.int x2), some (.int x3), some (.int x4), none, none, some (.int x7), none, none]) [true, true, true, true, true, false, false, true, false, false] rfl (P_jn_X5_greatestAgainst_48 ih x0 x1 x2 x3 x4 x7 x5 M6 h13))) (fun c14 => have h15 := h11.2 c14; s_sel (L1 := [some (.ref x0), some (.ref x1), some (.int x2), some (.int x3), some (.int x4), none, none, some (.int x7), some (.long r7), none]) [true, true, true, true, true, false, false, true, true, false] rfl (P_jn_X5_greatestAgainst_41 ih x0 x1 x2 x3 x4 x7 r7 M6 h15))))))))))))))))))))
def wp_X5_greatestAgainst (p0 : Nat) (p1 : Nat) (p2 : Int32) (p3 : Int32) (p4 : Int32) (M : Mem) (Q : Int64 → Mem → Prop) : Prop := ∃ n16 : Nat, lp_X5_greatestAgainst_6 Q n16 p0 p1 p2 p3 p4 0 0 M
theorem T_X5_greatestAgainst {G : GG} {Q : Int64 → Mem → Prop} {M : Mem} {p0 : Nat} {p1 : Nat} {p2 : Int32} {p3 : Int32} {p4 : Int32} (h : wp_X5_greatestAgainst p0 p1 p2 p3 p4 M Q) : PMet G mX5_greatestAgainst 4 0 0 [.ref p0, .ref p1, .int p2, .int p3, .int p4] M (QJ Q) :=
  mk_met (by decide) rfl rfl (by
    intro w hw x9 e9
    subst e9
    simp at hw) (Nat.le_of_ble_eq_true rfl) (s_pad (L1 := [some (.ref p0), some (.ref p1), some (.int p2), some (.int p3), some (.int p4), none, none, none, none, none]) 10 rfl (s_lconst (pc := 0) (v := 0) dX5_greatestAgainst_0 rfl (s_lstore (pc := 1) (L1 := [some (.ref p0), some (.ref p1), some (.int p2), some (.int p3), some (.int p4), some (.long 0), none, none, none, none]) dX5_greatestAgainst_1 (Nat.le_of_ble_eq_true rfl) rfl (s_iconst (pc := 3) dX5_greatestAgainst_3 ci_0 (s_istore (pc := 4) (L1 := [some (.ref p0), some (.ref p1), some (.int p2), some (.int p3), some (.int p4), some (.long 0), none, some (.int 0), none, none]) dX5_greatestAgainst_4 (Nat.le_of_ble_eq_true rfl) rfl (Exists.elim h (fun n16 hn => s_sel (L1 := [some (.ref p0), some (.ref p1), some (.int p2), some (.int p3), some (.int p4), some (.long 0), none, some (.int 0), none, none]) [true, true, true, true, true, true, false, true, false, false] rfl (P_lp_X5_greatestAgainst_6 n16 p0 p1 p2 p3 p4 0 0 M hn))))))))
/-! X5_numberOf -/
theorem dX5_numberOf_0 : cod mX5_numberOf 0 (.bipush 10) 2 := by decide +kernel
theorem dX5_numberOf_2 : cod mX5_numberOf 2 (.aload_n 0) 1 := by decide +kernel
theorem dX5_numberOf_3 : cod mX5_numberOf 3 (.getfield 11) 3 := by decide +kernel
theorem dX5_numberOf_6 : cod mX5_numberOf 6 (.iload_n 1) 1 := by decide +kernel
theorem dX5_numberOf_7 : cod mX5_numberOf 7 (.iaload) 1 := by decide +kernel
theorem dX5_numberOf_8 : cod mX5_numberOf 8 (.imul) 1 := by decide +kernel
theorem dX5_numberOf_9 : cod mX5_numberOf 9 (.aload_n 0) 1 := by decide +kernel
theorem dX5_numberOf_10 : cod mX5_numberOf 10 (.getfield 15) 3 := by decide +kernel
theorem dX5_numberOf_13 : cod mX5_numberOf 13 (.iload_n 1) 1 := by decide +kernel
theorem dX5_numberOf_14 : cod mX5_numberOf 14 (.iaload) 1 := by decide +kernel
theorem dX5_numberOf_15 : cod mX5_numberOf 15 (.iadd) 1 := by decide +kernel
theorem dX5_numberOf_16 : cod mX5_numberOf 16 (.ireturn) 1 := by decide +kernel
def wp_X5_numberOf (p0 : Nat) (p1 : Int32) (M : Mem) (Q : Int32 → Mem → Prop) : Prop := mK M p0 = 6 ∧ mK M (mR M p0 4) = 20 ∧ vp_in p1 (mN M (mR M p0 4)) ∧ mK M (mR M p0 5) = 20 ∧ vp_in p1 (mN M (mR M p0 5)) ∧ Q ((10 * (mI M (mR M p0 4) p1.toNatClampNeg)) + (mI M (mR M p0 5) p1.toNatClampNeg)) M
theorem T_X5_numberOf {G : GG} {Q : Int32 → Mem → Prop} {M : Mem} {p0 : Nat} {p1 : Int32} (h : wp_X5_numberOf p0 p1 M Q) : PMet G mX5_numberOf 0 0 0 [.ref p0, .int p1] M (QI Q) :=
  mk_met (by decide) rfl rfl (by
    intro w hw x9 e9
    subst e9
    simp at hw) (Nat.le_of_ble_eq_true rfl) (s_pad (L1 := [some (.ref p0), some (.int p1)]) 2 rfl (s_bipush (pc := 0) dX5_numberOf_0 cb_10 (s_aload_n (pc := 2) dX5_numberOf_2 rfl (s_getR (pc := 3) dX5_numberOf_3 f_X5_11 rfl h.1 (s_iload_n (pc := 6) dX5_numberOf_6 rfl (s_ial (pc := 7) dX5_numberOf_7 h.2.1 h.2.2.1 (s_imul (pc := 8) dX5_numberOf_8 (s_aload_n (pc := 9) dX5_numberOf_9 rfl (s_getR (pc := 10) dX5_numberOf_10 f_X5_15 rfl h.1 (s_iload_n (pc := 13) dX5_numberOf_13 rfl (s_ial (pc := 14) dX5_numberOf_14 h.2.2.2.1 h.2.2.2.2.1 (s_iadd (pc := 15) dX5_numberOf_15 (s_ireturn (pc := 16) dX5_numberOf_16 rfl (Nat.zero_le _) (Nat.zero_le _) ⟨_, rfl, h.2.2.2.2.2⟩)))))))))))))
/-! X5_atRest -/
theorem dX5_atRest_0 : cod mX5_atRest 0 (.aload_n 0) 1 := by decide +kernel
theorem dX5_atRest_1 : cod mX5_atRest 1 (.iload_n 2) 1 := by decide +kernel
theorem dX5_atRest_2 : cod mX5_atRest 2 (.invokevirtual 51) 3 := by decide +kernel
theorem dX5_atRest_5 : cod mX5_atRest 5 (.iconst 0) 1 := by decide +kernel
theorem dX5_atRest_6 : cod mX5_atRest 6 (.istore 4) 2 := by decide +kernel
theorem dX5_atRest_8 : cod mX5_atRest 8 (.iload 4) 2 := by decide +kernel
theorem dX5_atRest_10 : cod mX5_atRest 10 (.aload_n 0) 1 := by decide +kernel
theorem dX5_atRest_11 : cod mX5_atRest 11 (.getfield 47) 3 := by decide +kernel
theorem dX5_atRest_14 : cod mX5_atRest 14 (.if_icmp .ge 41) 3 := by decide +kernel
theorem dX5_atRest_17 : cod mX5_atRest 17 (.aload_n 0) 1 := by decide +kernel
theorem dX5_atRest_18 : cod mX5_atRest 18 (.getfield 35) 3 := by decide +kernel
theorem dX5_atRest_21 : cod mX5_atRest 21 (.iload 4) 2 := by decide +kernel
theorem dX5_atRest_23 : cod mX5_atRest 23 (.aload_n 0) 1 := by decide +kernel
theorem dX5_atRest_24 : cod mX5_atRest 24 (.aload_n 1) 1 := by decide +kernel
theorem dX5_atRest_25 : cod mX5_atRest 25 (.iload_n 2) 1 := by decide +kernel
theorem dX5_atRest_26 : cod mX5_atRest 26 (.iload 4) 2 := by decide +kernel
theorem dX5_atRest_28 : cod mX5_atRest 28 (.iconst 0) 1 := by decide +kernel
theorem dX5_atRest_29 : cod mX5_atRest 29 (.invokevirtual 122) 3 := by decide +kernel
theorem dX5_atRest_32 : cod mX5_atRest 32 (.lastore) 1 := by decide +kernel
theorem dX5_atRest_33 : cod mX5_atRest 33 (.aload_n 0) 1 := by decide +kernel
theorem dX5_atRest_34 : cod mX5_atRest 34 (.getfield 38) 3 := by decide +kernel
theorem dX5_atRest_37 : cod mX5_atRest 37 (.iload 4) 2 := by decide +kernel
theorem dX5_atRest_39 : cod mX5_atRest 39 (.aload_n 0) 1 := by decide +kernel
theorem dX5_atRest_40 : cod mX5_atRest 40 (.aload_n 1) 1 := by decide +kernel
theorem dX5_atRest_41 : cod mX5_atRest 41 (.iload_n 2) 1 := by decide +kernel
theorem dX5_atRest_42 : cod mX5_atRest 42 (.iload 4) 2 := by decide +kernel
theorem dX5_atRest_44 : cod mX5_atRest 44 (.iconst 1) 1 := by decide +kernel
theorem dX5_atRest_45 : cod mX5_atRest 45 (.invokevirtual 122) 3 := by decide +kernel
theorem dX5_atRest_48 : cod mX5_atRest 48 (.lastore) 1 := by decide +kernel
theorem dX5_atRest_49 : cod mX5_atRest 49 (.iinc 4 1) 3 := by decide +kernel
theorem dX5_atRest_52 : cod mX5_atRest 52 (.goto (-44)) 3 := by decide +kernel
theorem dX5_atRest_55 : cod mX5_atRest 55 (.iconst 0) 1 := by decide +kernel
theorem dX5_atRest_56 : cod mX5_atRest 56 (.istore 4) 2 := by decide +kernel
theorem dX5_atRest_58 : cod mX5_atRest 58 (.iconst 0) 1 := by decide +kernel
theorem dX5_atRest_59 : cod mX5_atRest 59 (.istore 5) 2 := by decide +kernel
theorem dX5_atRest_61 : cod mX5_atRest 61 (.iload 5) 2 := by decide +kernel
theorem dX5_atRest_63 : cod mX5_atRest 63 (.aload_n 0) 1 := by decide +kernel
theorem dX5_atRest_64 : cod mX5_atRest 64 (.getfield 47) 3 := by decide +kernel
theorem dX5_atRest_67 : cod mX5_atRest 67 (.if_icmp .ge 97) 3 := by decide +kernel
theorem dX5_atRest_70 : cod mX5_atRest 70 (.iconst 0) 1 := by decide +kernel
theorem dX5_atRest_71 : cod mX5_atRest 71 (.istore 6) 2 := by decide +kernel
theorem dX5_atRest_73 : cod mX5_atRest 73 (.iload 6) 2 := by decide +kernel
theorem dX5_atRest_75 : cod mX5_atRest 75 (.aload_n 0) 1 := by decide +kernel
theorem dX5_atRest_76 : cod mX5_atRest 76 (.getfield 47) 3 := by decide +kernel
theorem dX5_atRest_79 : cod mX5_atRest 79 (.if_icmp .ge 79) 3 := by decide +kernel
theorem dX5_atRest_82 : cod mX5_atRest 82 (.aload_n 0) 1 := by decide +kernel
theorem dX5_atRest_83 : cod mX5_atRest 83 (.aload_n 1) 1 := by decide +kernel
theorem dX5_atRest_84 : cod mX5_atRest 84 (.iload_n 2) 1 := by decide +kernel
theorem dX5_atRest_85 : cod mX5_atRest 85 (.iload 5) 2 := by decide +kernel
theorem dX5_atRest_87 : cod mX5_atRest 87 (.iload 6) 2 := by decide +kernel
theorem dX5_atRest_89 : cod mX5_atRest 89 (.iconst 0) 1 := by decide +kernel
theorem dX5_atRest_90 : cod mX5_atRest 90 (.invokevirtual 126) 3 := by decide +kernel
theorem dX5_atRest_93 : cod mX5_atRest 93 (.aload_n 0) 1 := by decide +kernel
theorem dX5_atRest_94 : cod mX5_atRest 94 (.getfield 35) 3 := by decide +kernel
theorem dX5_atRest_97 : cod mX5_atRest 97 (.iload 6) 2 := by decide +kernel
theorem dX5_atRest_99 : cod mX5_atRest 99 (.laload) 1 := by decide +kernel
theorem dX5_atRest_100 : cod mX5_atRest 100 (.lcmp) 1 := by decide +kernel
theorem dX5_atRest_101 : cod mX5_atRest 101 (.ifCond .ne 51) 3 := by decide +kernel
theorem dX5_atRest_104 : cod mX5_atRest 104 (.aload_n 0) 1 := by decide +kernel
theorem dX5_atRest_105 : cod mX5_atRest 105 (.aload_n 1) 1 := by decide +kernel
theorem dX5_atRest_106 : cod mX5_atRest 106 (.iload_n 2) 1 := by decide +kernel
theorem dX5_atRest_107 : cod mX5_atRest 107 (.iload 6) 2 := by decide +kernel
theorem dX5_atRest_109 : cod mX5_atRest 109 (.iload 5) 2 := by decide +kernel
theorem dX5_atRest_111 : cod mX5_atRest 111 (.iconst 1) 1 := by decide +kernel
theorem dX5_atRest_112 : cod mX5_atRest 112 (.invokevirtual 126) 3 := by decide +kernel
theorem dX5_atRest_115 : cod mX5_atRest 115 (.aload_n 0) 1 := by decide +kernel
theorem dX5_atRest_116 : cod mX5_atRest 116 (.getfield 38) 3 := by decide +kernel
theorem dX5_atRest_119 : cod mX5_atRest 119 (.iload 5) 2 := by decide +kernel
theorem dX5_atRest_121 : cod mX5_atRest 121 (.laload) 1 := by decide +kernel
theorem dX5_atRest_122 : cod mX5_atRest 122 (.lcmp) 1 := by decide +kernel
theorem dX5_atRest_123 : cod mX5_atRest 123 (.ifCond .ne 29) 3 := by decide +kernel
theorem dX5_atRest_126 : cod mX5_atRest 126 (.iload 4) 2 := by decide +kernel
theorem dX5_atRest_128 : cod mX5_atRest 128 (.iload_n 3) 1 := by decide +kernel
theorem dX5_atRest_129 : cod mX5_atRest 129 (.if_icmp .ne 20) 3 := by decide +kernel
theorem dX5_atRest_132 : cod mX5_atRest 132 (.bipush 100) 2 := by decide +kernel
theorem dX5_atRest_134 : cod mX5_atRest 134 (.aload_n 0) 1 := by decide +kernel
theorem dX5_atRest_135 : cod mX5_atRest 135 (.iload 5) 2 := by decide +kernel
theorem dX5_atRest_137 : cod mX5_atRest 137 (.invokevirtual 130) 3 := by decide +kernel
theorem dX5_atRest_140 : cod mX5_atRest 140 (.imul) 1 := by decide +kernel
theorem dX5_atRest_141 : cod mX5_atRest 141 (.aload_n 0) 1 := by decide +kernel
theorem dX5_atRest_142 : cod mX5_atRest 142 (.iload 6) 2 := by decide +kernel
theorem dX5_atRest_144 : cod mX5_atRest 144 (.invokevirtual 130) 3 := by decide +kernel
theorem dX5_atRest_147 : cod mX5_atRest 147 (.iadd) 1 := by decide +kernel
theorem dX5_atRest_148 : cod mX5_atRest 148 (.ireturn) 1 := by decide +kernel
theorem dX5_atRest_149 : cod mX5_atRest 149 (.iinc 4 1) 3 := by decide +kernel
theorem dX5_atRest_152 : cod mX5_atRest 152 (.iinc 6 1) 3 := by decide +kernel
theorem dX5_atRest_155 : cod mX5_atRest 155 (.goto (-82)) 3 := by decide +kernel
theorem dX5_atRest_158 : cod mX5_atRest 158 (.iinc 5 1) 3 := by decide +kernel
theorem dX5_atRest_161 : cod mX5_atRest 161 (.goto (-100)) 3 := by decide +kernel
theorem dX5_atRest_164 : cod mX5_atRest 164 (.iload_n 3) 1 := by decide +kernel
theorem dX5_atRest_165 : cod mX5_atRest 165 (.iconst (-1)) 1 := by decide +kernel
theorem dX5_atRest_166 : cod mX5_atRest 166 (.if_icmp .ne 8) 3 := by decide +kernel
theorem dX5_atRest_169 : cod mX5_atRest 169 (.iload 4) 2 := by decide +kernel
theorem dX5_atRest_171 : cod mX5_atRest 171 (.goto 5) 3 := by decide +kernel
theorem dX5_atRest_174 : cod mX5_atRest 174 (.bipush (-4)) 2 := by decide +kernel
theorem dX5_atRest_176 : cod mX5_atRest 176 (.ireturn) 1 := by decide +kernel
def jn_X5_atRest_152 (K61 : Nat → Nat → Int32 → Int32 → Int32 → Int32 → Mem → Prop) (K73 : Nat → Nat → Int32 → Int32 → Int32 → Int32 → Int32 → Mem → Prop) (Q : Int32 → Mem → Prop) (x0 : Nat) (x1 : Nat) (x2 : Int32) (x3 : Int32) (x4 : Int32) (x5 : Int32) (x6 : Int32) (M : Mem) : Prop := K73 x0 x1 x2 x3 x4 x5 (x6 + 1) M
theorem P_jn_X5_atRest_152 {G : GG} {K61 : Nat → Nat → Int32 → Int32 → Int32 → Int32 → Mem → Prop} {K73 : Nat → Nat → Int32 → Int32 → Int32 → Int32 → Int32 → Mem → Prop} {Q : Int32 → Mem → Prop} (hK61 : ∀ (x0 : Nat) (x1 : Nat) (x2 : Int32) (x3 : Int32) (x4 : Int32) (x5 : Int32) (M : Mem), K61 x0 x1 x2 x3 x4 x5 M → PW G mX5_atRest (rmD 5 0 0) (QI Q) 61 [some (.ref x0), some (.ref x1), some (.int x2), some (.int x3), some (.int x4), some (.int x5), none] [] M 0 0) (hK73 : ∀ (x0 : Nat) (x1 : Nat) (x2 : Int32) (x3 : Int32) (x4 : Int32) (x5 : Int32) (x6 : Int32) (M : Mem), K73 x0 x1 x2 x3 x4 x5 x6 M → PW G mX5_atRest (rmD 5 0 0) (QI Q) 73 [some (.ref x0), some (.ref x1), some (.int x2), some (.int x3), some (.int x4), some (.int x5), some (.int x6)] [] M 0 0) (x0 : Nat) (x1 : Nat) (x2 : Int32) (x3 : Int32) (x4 : Int32) (x5 : Int32) (x6 : Int32) (M : Mem) (h : jn_X5_atRest_152 K61 K73 Q x0 x1 x2 x3 x4 x5 x6 M) : PW G mX5_atRest (rmD 5 0 0) (QI Q) 152 [some (.ref x0), some (.ref x1), some (.int x2), some (.int x3), some (.int x4), some (.int x5), some (.int x6)] [] M 0 0 := (s_iinc (pc := 152) (L1 := [some (.ref x0), some (.ref x1), some (.int x2), some (.int x3), some (.int x4), some (.int x5), some (.int (x6 + 1))]) dX5_atRest_152 rfl ci_1 (Nat.le_of_ble_eq_true rfl) rfl (s_goto (pc := 155) (tgt := 73) dX5_atRest_155 rfl (s_sel (L1 := [some (.ref x0), some (.ref x1), some (.int x2), some (.int x3), some (.int x4), some (.int x5), some (.int (x6 + 1))]) [true, true, true, true, true, true, true] rfl (hK73 x0 x1 x2 x3 x4 x5 (x6 + 1) M h))))
def lp_X5_atRest_73 (K61 : Nat → Nat → Int32 → Int32 → Int32 → Int32 → Mem → Prop) (Q : Int32 → Mem → Prop) : Nat → Nat → Nat → Int32 → Int32 → Int32 → Int32 → Int32 → Mem → Prop
  | 0 => fun _ _ _ _ _ _ _ _ => False
  | n + 1 => fun x0 x1 x2 x3 x4 x5 x6 M => mK M x0 = 6 ∧ ((mI M x0 3) ≤ x6 → K61 x0 x1 x2 x3 x4 (x5 + 1) M) ∧ (¬ (mI M x0 3) ≤ x6 → wp_X5_meanOf x0 x1 x2 x5 x6 0 M (fun r21 M20 => mK M20 x0 = 6 ∧ mK M20 (mR M20 x0 12) = 21 ∧ vp_in x6 (mN M20 (mR M20 x0 12)) ∧ (¬ r21 = (mJ M20 (mR M20 x0 12) x6.toNatClampNeg) → jn_X5_atRest_152 K61 (fun fx0 fx1 fx2 fx3 fx4 fx5 fx6 fM => lp_X5_atRest_73 K61 Q n fx0 fx1 fx2 fx3 fx4 fx5 fx6 fM) Q x0 x1 x2 x3 x4 x5 x6 M20) ∧ (r21 = (mJ M20 (mR M20 x0 12) x6.toNatClampNeg) → wp_X5_meanOf x0 x1 x2 x6 x5 1 M20 (fun r28 M27 => mK M27 x0 = 6 ∧ mK M27 (mR M27 x0 13) = 21 ∧ vp_in x5 (mN M27 (mR M27 x0 13)) ∧ (¬ r28 = (mJ M27 (mR M27 x0 13) x5.toNatClampNeg) → jn_X5_atRest_152 K61 (fun fx0 fx1 fx2 fx3 fx4 fx5 fx6 fM => lp_X5_atRest_73 K61 Q n fx0 fx1 fx2 fx3 fx4 fx5 fx6 fM) Q x0 x1 x2 x3 x4 x5 x6 M27) ∧ (r28 = (mJ M27 (mR M27 x0 13) x5.toNatClampNeg) → (¬ x4 = x3 → jn_X5_atRest_152 K61 (fun fx0 fx1 fx2 fx3 fx4 fx5 fx6 fM => lp_X5_atRest_73 K61 Q n fx0 fx1 fx2 fx3 fx4 fx5 fx6 fM) Q x0 x1 x2 x3 (x4 + 1) x5 x6 M27) ∧ (x4 = x3 → wp_X5_numberOf x0 x5 M27 (fun r39 M38 => mK M38 x0 = 6 ∧ wp_X5_numberOf x0 x6 M38 (fun r42 M41 => Q ((100 * r39) + r42) M41))))))))
theorem P_lp_X5_atRest_73 {G : GG} {K61 : Nat → Nat → Int32 → Int32 → Int32 → Int32 → Mem → Prop} {Q : Int32 → Mem → Prop} (hK61 : ∀ (x0 : Nat) (x1 : Nat) (x2 : Int32) (x3 : Int32) (x4 : Int32) (x5 : Int32) (M : Mem), K61 x0 x1 x2 x3 x4 x5 M → PW G mX5_atRest (rmD 5 0 0) (QI Q) 61 [some (.ref x0), some (.ref x1), some (.int x2), some (.int x3), some (.int x4), some (.int x5), none] [] M 0 0) : ∀ (n : Nat) (x0 : Nat) (x1 : Nat) (x2 : Int32) (x3 : Int32) (x4 : Int32) (x5 : Int32) (x6 : Int32) (M : Mem), lp_X5_atRest_73 K61 Q n x0 x1 x2 x3 x4 x5 x6 M → PW G mX5_atRest (rmD 5 0 0) (QI Q) 73 [some (.ref x0), some (.ref x1), some (.int x2), some (.int x3), some (.int x4), some (.int x5), some (.int x6)] [] M 0 0 := by
  intro n
  induction n with
  | zero => intro x0 x1 x2 x3 x4 x5 x6 M h; exact h.elim
  | succ n ih =>
    intro x0 x1 x2 x3 x4 x5 x6 M h
    exact (s_iload (pc := 73) dX5_atRest_73 rfl (s_aload_n (pc := 75) dX5_atRest_75 rfl (s_getI (pc := 76) dX5_atRest_76 f_X5_47 rfl h.1 (s_icmp_ge (pc := 79) (tgt := 158) dX5_atRest_79 rfl (fun c15 => have h16 := h.2.1 c15; s_iinc (pc := 158) (L1 := [some (.ref x0), some (.ref x1), some (.int x2), some (.int x3), some (.int x4), some (.int (x5 + 1)), some (.int x6)]) dX5_atRest_158 rfl ci_1 (Nat.le_of_ble_eq_true rfl) rfl (s_goto (pc := 161) (tgt := 61) dX5_atRest_161 rfl (s_sel (L1 := [some (.ref x0), some (.ref x1), some (.int x2), some (.int x3), some (.int x4), some (.int (x5 + 1)), none]) [true, true, true, true, true, true, false] rfl (hK61 x0 x1 x2 x3 x4 (x5 + 1) M h16)))) (fun c17 => have h18 := h.2.2 c17; s_aload_n (pc := 82) dX5_atRest_82 rfl (s_aload_n (pc := 83) dX5_atRest_83 rfl (s_iload_n (pc := 84) dX5_atRest_84 rfl (s_iload (pc := 85) dX5_atRest_85 rfl (s_iload (pc := 87) dX5_atRest_87 rfl (s_iconst (pc := 89) dX5_atRest_89 ci_0 (s_callV (pc := 90) (As := [.ref x1, .int x2, .int x5, .int x6, .int 0]) (rest := []) (d' := 3) (mc' := 0) (ms' := 0) dX5_atRest_90 c_X5_126 (Nat.le_of_ble_eq_true rfl) rfl h.1 rfl rfl (Nat.le_of_ble_eq_true rfl) (rm_ok rfl rfl) ⟨Nat.le_refl 0, Nat.le_refl 0⟩ (T_X5_meanOf h18) (kkJ (fun r21 M20 h19 => s_aload_n (pc := 93) dX5_atRest_93 rfl (s_getR (pc := 94) dX5_atRest_94 f_X5_35 rfl h19.1 (s_iload (pc := 97) dX5_atRest_97 rfl (s_lal (pc := 99) dX5_atRest_99 h19.2.1 h19.2.2.1 (s_lif_ne (pc := 100) (tgt := 152) dX5_atRest_100 dX5_atRest_101 rfl (fun c22 => have h23 := h19.2.2.2.1 c22; s_sel (L1 := [some (.ref x0), some (.ref x1), some (.int x2), some (.int x3), some (.int x4), some (.int x5), some (.int x6)]) [true, true, true, true, true, true, true] rfl (P_jn_X5_atRest_152 hK61 ih x0 x1 x2 x3 x4 x5 x6 M20 h23)) (fun c24 => have h25 := h19.2.2.2.2 c24; s_aload_n (pc := 104) dX5_atRest_104 rfl (s_aload_n (pc := 105) dX5_atRest_105 rfl (s_iload_n (pc := 106) dX5_atRest_106 rfl (s_iload (pc := 107) dX5_atRest_107 rfl (s_iload (pc := 109) dX5_atRest_109 rfl (s_iconst (pc := 111) dX5_atRest_111 ci_1 (s_callV (pc := 112) (As := [.ref x1, .int x2, .int x6, .int x5, .int 1]) (rest := []) (d' := 3) (mc' := 0) (ms' := 0) dX5_atRest_112 c_X5_126 (Nat.le_of_ble_eq_true rfl) rfl h19.1 rfl rfl (Nat.le_of_ble_eq_true rfl) (rm_ok rfl rfl) ⟨Nat.le_refl 0, Nat.le_refl 0⟩ (T_X5_meanOf h25) (kkJ (fun r28 M27 h26 => s_aload_n (pc := 115) dX5_atRest_115 rfl (s_getR (pc := 116) dX5_atRest_116 f_X5_38 rfl h26.1 (s_iload (pc := 119) dX5_atRest_119 rfl (s_lal (pc := 121) dX5_atRest_121 h26.2.1 h26.2.2.1 (s_lif_ne (pc := 122) (tgt := 152) dX5_atRest_122 dX5_atRest_123 rfl (fun c29 => have h30 := h26.2.2.2.1 c29; s_sel (L1 := [some (.ref x0), some (.ref x1), some (.int x2), some (.int x3), some (.int x4), some (.int x5), some (.int x6)]) [true, true, true, true, true, true, true] rfl (P_jn_X5_atRest_152 hK61 ih x0 x1 x2 x3 x4 x5 x6 M27 h30)) (fun c31 => have h32 := h26.2.2.2.2 c31; s_iload (pc := 126) dX5_atRest_126 rfl (s_iload_n (pc := 128) dX5_atRest_128 rfl (s_icmp_ne (pc := 129) (tgt := 149) dX5_atRest_129 rfl (fun c33 => have h34 := h32.1 c33; s_iinc (pc := 149) (L1 := [some (.ref x0), some (.ref x1), some (.int x2), some (.int x3), some (.int (x4 + 1)), some (.int x5), some (.int x6)]) dX5_atRest_149 rfl ci_1 (Nat.le_of_ble_eq_true rfl) rfl (s_sel (L1 := [some (.ref x0), some (.ref x1), some (.int x2), some (.int x3), some (.int (x4 + 1)), some (.int x5), some (.int x6)]) [true, true, true, true, true, true, true] rfl (P_jn_X5_atRest_152 hK61 ih x0 x1 x2 x3 (x4 + 1) x5 x6 M27 h34))) (fun c35 => have h36 := h32.2 c35; s_bipush (pc := 132) dX5_atRest_132 cb_100 (s_aload_n (pc := 134) dX5_atRest_134 rfl (s_iload (pc := 135) dX5_atRest_135 rfl (s_callV (pc := 137) (As := [.int x5]) (rest := [.int 100]) (d' := 0) (mc' := 0) (ms' := 0) dX5_atRest_137 c_X5_130 (Nat.le_of_ble_eq_true rfl) rfl h26.1 rfl rfl (Nat.le_of_ble_eq_true rfl) (rm_ok rfl rfl) ⟨Nat.le_refl 0, Nat.le_refl 0⟩ (T_X5_numberOf h36) (kkI (fun r39 M38 h37 => s_imul (pc := 140) dX5_atRest_140 (s_aload_n (pc := 141) dX5_atRest_141 rfl (s_iload (pc := 142) dX5_atRest_142 rfl (s_callV (pc := 144) (As := [.int x6]) (rest := [.int (100 * r39)]) (d' := 0) (mc' := 0) (ms' := 0) dX5_atRest_144 c_X5_130 (Nat.le_of_ble_eq_true rfl) rfl h37.1 rfl rfl (Nat.le_of_ble_eq_true rfl) (rm_ok rfl rfl) ⟨Nat.le_refl 0, Nat.le_refl 0⟩ (T_X5_numberOf h37.2) (kkI (fun r42 M41 h40 => s_iadd (pc := 147) dX5_atRest_147 (s_ireturn (pc := 148) dX5_atRest_148 rfl (Nat.zero_le _) (Nat.zero_le _) ⟨_, rfl, h40⟩)))))))))))))))))))))))))))))))))))))))))))))
def lp_X5_atRest_61 (Q : Int32 → Mem → Prop) : Nat → Nat → Nat → Int32 → Int32 → Int32 → Int32 → Mem → Prop
  | 0 => fun _ _ _ _ _ _ _ => False
  | n + 1 => fun x0 x1 x2 x3 x4 x5 M => mK M x0 = 6 ∧ ((mI M x0 3) ≤ x5 → (¬ x3 = ((-1) : Int32) → Q (-4) M) ∧ (x3 = ((-1) : Int32) → Q x4 M)) ∧ (¬ (mI M x0 3) ≤ x5 → ∃ n43 : Nat, lp_X5_atRest_73 (fun fx0 fx1 fx2 fx3 fx4 fx5 fM => lp_X5_atRest_61 Q n fx0 fx1 fx2 fx3 fx4 fx5 fM) Q n43 x0 x1 x2 x3 x4 x5 0 M)
theorem P_lp_X5_atRest_61 {G : GG} {Q : Int32 → Mem → Prop} : ∀ (n : Nat) (x0 : Nat) (x1 : Nat) (x2 : Int32) (x3 : Int32) (x4 : Int32) (x5 : Int32) (M : Mem), lp_X5_atRest_61 Q n x0 x1 x2 x3 x4 x5 M → PW G mX5_atRest (rmD 5 0 0) (QI Q) 61 [some (.ref x0), some (.ref x1), some (.int x2), some (.int x3), some (.int x4), some (.int x5), none] [] M 0 0 := by
  intro n
  induction n with
  | zero => intro x0 x1 x2 x3 x4 x5 M h; exact h.elim
  | succ n ih =>
    intro x0 x1 x2 x3 x4 x5 M h
    exact (s_iload (pc := 61) dX5_atRest_61 rfl (s_aload_n (pc := 63) dX5_atRest_63 rfl (s_getI (pc := 64) dX5_atRest_64 f_X5_47 rfl h.1 (s_icmp_ge (pc := 67) (tgt := 164) dX5_atRest_67 rfl (fun c7 => have h8 := h.2.1 c7; s_iload_n (pc := 164) dX5_atRest_164 rfl (s_iconst (pc := 165) dX5_atRest_165 ci_m1 (s_icmp_ne (pc := 166) (tgt := 174) dX5_atRest_166 rfl (fun c11 => have h12 := h8.1 c11; s_bipush (pc := 174) dX5_atRest_174 cb_m4 (s_ireturn (pc := 176) dX5_atRest_176 rfl (Nat.zero_le _) (Nat.zero_le _) ⟨_, rfl, h12⟩)) (fun c13 => have h14 := h8.2 c13; s_iload (pc := 169) dX5_atRest_169 rfl (s_goto (pc := 171) (tgt := 176) dX5_atRest_171 rfl (s_ireturn (pc := 176) dX5_atRest_176 rfl (Nat.zero_le _) (Nat.zero_le _) ⟨_, rfl, h14⟩)))))) (fun c9 => have h10 := h.2.2 c9; s_iconst (pc := 70) dX5_atRest_70 ci_0 (s_istore (pc := 71) (L1 := [some (.ref x0), some (.ref x1), some (.int x2), some (.int x3), some (.int x4), some (.int x5), some (.int 0)]) dX5_atRest_71 (Nat.le_of_ble_eq_true rfl) rfl (Exists.elim h10 (fun n43 hn => s_sel (L1 := [some (.ref x0), some (.ref x1), some (.int x2), some (.int x3), some (.int x4), some (.int x5), some (.int 0)]) [true, true, true, true, true, true, true] rfl (P_lp_X5_atRest_73 ih n43 x0 x1 x2 x3 x4 x5 0 M hn)))))))))
def lp_X5_atRest_8 (Q : Int32 → Mem → Prop) : Nat → Nat → Nat → Int32 → Int32 → Int32 → Mem → Prop
  | 0 => fun _ _ _ _ _ _ => False
  | n + 1 => fun x0 x1 x2 x3 x4 M => mK M x0 = 6 ∧ ((mI M x0 3) ≤ x4 → ∃ n44 : Nat, lp_X5_atRest_61 Q n44 x0 x1 x2 x3 0 0 M) ∧ (¬ (mI M x0 3) ≤ x4 → wp_X5_greatestAgainst x0 x1 x2 x4 0 M (fun r47 M46 => mK M46 (mR M x0 12) = 21 ∧ vp_in x4 (mN M46 (mR M x0 12)) ∧ ∀ M48 : Mem, M48 = uJ M46 (mR M x0 12) x4.toNatClampNeg r47 → mK M48 x0 = 6 ∧ wp_X5_greatestAgainst x0 x1 x2 x4 1 M48 (fun r53 M52 => mK M52 (mR M48 x0 13) = 21 ∧ vp_in x4 (mN M52 (mR M48 x0 13)) ∧ ∀ M54 : Mem, M54 = uJ M52 (mR M48 x0 13) x4.toNatClampNeg r53 → (lp_X5_atRest_8 Q n) x0 x1 x2 x3 (x4 + 1) M54)))
theorem P_lp_X5_atRest_8 {G : GG} {Q : Int32 → Mem → Prop} : ∀ (n : Nat) (x0 : Nat) (x1 : Nat) (x2 : Int32) (x3 : Int32) (x4 : Int32) (M : Mem), lp_X5_atRest_8 Q n x0 x1 x2 x3 x4 M → PW G mX5_atRest (rmD 5 0 0) (QI Q) 8 [some (.ref x0), some (.ref x1), some (.int x2), some (.int x3), some (.int x4), none, none] [] M 0 0 := by
  intro n
  induction n with
  | zero => intro x0 x1 x2 x3 x4 M h; exact h.elim
  | succ n ih =>
    intro x0 x1 x2 x3 x4 M h
    exact (s_iload (pc := 8) dX5_atRest_8 rfl (s_aload_n (pc := 10) dX5_atRest_10 rfl (s_getI (pc := 11) dX5_atRest_11 f_X5_47 rfl h.1 (s_icmp_ge (pc := 14) (tgt := 55) dX5_atRest_14 rfl (fun c3 => have h4 := h.2.1 c3; s_iconst (pc := 55) dX5_atRest_55 ci_0 (s_istore (pc := 56) (L1 := [some (.ref x0), some (.ref x1), some (.int x2), some (.int x3), some (.int 0), none, none]) dX5_atRest_56 (Nat.le_of_ble_eq_true rfl) rfl (s_iconst (pc := 58) dX5_atRest_58 ci_0 (s_istore (pc := 59) (L1 := [some (.ref x0), some (.ref x1), some (.int x2), some (.int x3), some (.int 0), some (.int 0), none]) dX5_atRest_59 (Nat.le_of_ble_eq_true rfl) rfl (Exists.elim h4 (fun n44 hn => s_sel (L1 := [some (.ref x0), some (.ref x1), some (.int x2), some (.int x3), some (.int 0), some (.int 0), none]) [true, true, true, true, true, true, false] rfl (P_lp_X5_atRest_61 n44 x0 x1 x2 x3 0 0 M hn))))))) (fun c5 => have h6 := h.2.2 c5; s_aload_n (pc := 17) dX5_atRest_17 rfl (s_getR (pc := 18) dX5_atRest_18 f_X5_35 rfl h.1 (s_iload (pc := 21) dX5_atRest_21 rfl (s_aload_n (pc := 23) dX5_atRest_23 rfl (s_aload_n (pc := 24) dX5_atRest_24 rfl (s_iload_n (pc := 25) dX5_atRest_25 rfl (s_iload (pc := 26) dX5_atRest_26 rfl (s_iconst (pc := 28) dX5_atRest_28 ci_0 (s_callV (pc := 29) (As := [.ref x1, .int x2, .int x4, .int 0]) (rest := [.int x4, .ref (mR M x0 12)]) (d' := 4) (mc' := 0) (ms' := 0) dX5_atRest_29 c_X5_122 (Nat.le_of_ble_eq_true rfl) rfl h.1 rfl rfl (Nat.le_of_ble_eq_true rfl) (rm_ok rfl rfl) ⟨Nat.le_refl 0, Nat.le_refl 0⟩ (T_X5_greatestAgainst h6) (kkJ (fun r47 M46 h45 => s_las (pc := 32) dX5_atRest_32 h45.1 h45.2.1 (nmM (fun M48 e49 => have h50 := (h45.2.2) M48 e49; s_aload_n (pc := 33) dX5_atRest_33 rfl (s_getR (pc := 34) dX5_atRest_34 f_X5_38 rfl h50.1 (s_iload (pc := 37) dX5_atRest_37 rfl (s_aload_n (pc := 39) dX5_atRest_39 rfl (s_aload_n (pc := 40) dX5_atRest_40 rfl (s_iload_n (pc := 41) dX5_atRest_41 rfl (s_iload (pc := 42) dX5_atRest_42 rfl (s_iconst (pc := 44) dX5_atRest_44 ci_1 (s_callV (pc := 45) (As := [.ref x1, .int x2, .int x4, .int 1]) (rest := [.int x4, .ref (mR M48 x0 13)]) (d' := 4) (mc' := 0) (ms' := 0) dX5_atRest_45 c_X5_122 (Nat.le_of_ble_eq_true rfl) rfl h50.1 rfl rfl (Nat.le_of_ble_eq_true rfl) (rm_ok rfl rfl) ⟨Nat.le_refl 0, Nat.le_refl 0⟩ (T_X5_greatestAgainst h50.2) (kkJ (fun r53 M52 h51 => s_las (pc := 48) dX5_atRest_48 h51.1 h51.2.1 (nmM (fun M54 e55 => have h56 := (h51.2.2) M54 e55; s_iinc (pc := 49) (L1 := [some (.ref x0), some (.ref x1), some (.int x2), some (.int x3), some (.int (x4 + 1)), none, none]) dX5_atRest_49 rfl ci_1 (Nat.le_of_ble_eq_true rfl) rfl (s_goto (pc := 52) (tgt := 8) dX5_atRest_52 rfl (s_sel (L1 := [some (.ref x0), some (.ref x1), some (.int x2), some (.int x3), some (.int (x4 + 1)), none, none]) [true, true, true, true, true, false, false] rfl (ih x0 x1 x2 x3 (x4 + 1) M54 h56))))))))))))))))))))))))))))))))
def wp_X5_atRest (p0 : Nat) (p1 : Nat) (p2 : Int32) (p3 : Int32) (M : Mem) (Q : Int32 → Mem → Prop) : Prop := mK M p0 = 6 ∧ wp_X5_list p0 p2 M (fun M2 => ∃ n57 : Nat, lp_X5_atRest_8 Q n57 p0 p1 p2 p3 0 M2)
theorem T_X5_atRest {G : GG} {Q : Int32 → Mem → Prop} {M : Mem} {p0 : Nat} {p1 : Nat} {p2 : Int32} {p3 : Int32} (h : wp_X5_atRest p0 p1 p2 p3 M Q) : PMet G mX5_atRest 5 0 0 [.ref p0, .ref p1, .int p2, .int p3] M (QI Q) :=
  mk_met (by decide) rfl rfl (by
    intro w hw x9 e9
    subst e9
    simp at hw) (Nat.le_of_ble_eq_true rfl) (s_pad (L1 := [some (.ref p0), some (.ref p1), some (.int p2), some (.int p3), none, none, none]) 7 rfl (s_aload_n (pc := 0) dX5_atRest_0 rfl (s_iload_n (pc := 1) dX5_atRest_1 rfl (s_callV (pc := 2) (As := [.int p2]) (rest := []) (d' := 1) (mc' := 0) (ms' := 0) dX5_atRest_2 c_X5_51 (Nat.le_of_ble_eq_true rfl) rfl h.1 rfl rfl (Nat.le_of_ble_eq_true rfl) (rm_ok rfl rfl) ⟨Nat.le_refl 0, Nat.le_refl 0⟩ (T_X5_list h.2) (kkV (fun M2 h1 => s_iconst (pc := 5) dX5_atRest_5 ci_0 (s_istore (pc := 6) (L1 := [some (.ref p0), some (.ref p1), some (.int p2), some (.int p3), some (.int 0), none, none]) dX5_atRest_6 (Nat.le_of_ble_eq_true rfl) rfl (Exists.elim h1 (fun n57 hn => s_sel (L1 := [some (.ref p0), some (.ref p1), some (.int p2), some (.int p3), some (.int 0), none, none]) [true, true, true, true, true, false, false] rfl (P_lp_X5_atRest_8 n57 p0 p1 p2 p3 0 M2 hn))))))))))
/-! X12_rest -/
theorem dX12_rest_0 : cod mX12_rest 0 (.iload_n 1) 1 := by decide +kernel
theorem dX12_rest_1 : cod mX12_rest 1 (.bipush 20) 2 := by decide +kernel
theorem dX12_rest_3 : cod mX12_rest 3 (.if_icmp .lt 14) 3 := by decide +kernel
theorem dX12_rest_6 : cod mX12_rest 6 (.iload_n 1) 1 := by decide +kernel
theorem dX12_rest_7 : cod mX12_rest 7 (.bipush 50) 2 := by decide +kernel
theorem dX12_rest_9 : cod mX12_rest 9 (.if_icmp .gt 8) 3 := by decide +kernel
theorem dX12_rest_12 : cod mX12_rest 12 (.iload_n 2) 1 := by decide +kernel
theorem dX12_rest_13 : cod mX12_rest 13 (.iconst (-1)) 1 := by decide +kernel
theorem dX12_rest_14 : cod mX12_rest 14 (.if_icmp .ge 5) 3 := by decide +kernel
theorem dX12_rest_17 : cod mX12_rest 17 (.iconst (-1)) 1 := by decide +kernel
theorem dX12_rest_18 : cod mX12_rest 18 (.ireturn) 1 := by decide +kernel
theorem dX12_rest_19 : cod mX12_rest 19 (.aload_n 0) 1 := by decide +kernel
theorem dX12_rest_20 : cod mX12_rest 20 (.getfield 10) 3 := by decide +kernel
theorem dX12_rest_23 : cod mX12_rest 23 (.invokevirtual 132) 3 := by decide +kernel
theorem dX12_rest_26 : cod mX12_rest 26 (.ifCond .ne 6) 3 := by decide +kernel
theorem dX12_rest_29 : cod mX12_rest 29 (.bipush (-3)) 2 := by decide +kernel
theorem dX12_rest_31 : cod mX12_rest 31 (.ireturn) 1 := by decide +kernel
theorem dX12_rest_32 : cod mX12_rest 32 (.aload_n 0) 1 := by decide +kernel
theorem dX12_rest_33 : cod mX12_rest 33 (.getfield 59) 3 := by decide +kernel
theorem dX12_rest_36 : cod mX12_rest 36 (.aload_n 0) 1 := by decide +kernel
theorem dX12_rest_37 : cod mX12_rest 37 (.getfield 10) 3 := by decide +kernel
theorem dX12_rest_40 : cod mX12_rest 40 (.iload_n 1) 1 := by decide +kernel
theorem dX12_rest_41 : cod mX12_rest 41 (.iload_n 2) 1 := by decide +kernel
theorem dX12_rest_42 : cod mX12_rest 42 (.invokevirtual 253) 3 := by decide +kernel
theorem dX12_rest_45 : cod mX12_rest 45 (.ireturn) 1 := by decide +kernel
def wp_X12_rest (p0 : Nat) (p1 : Int32) (p2 : Int32) (M : Mem) (Q : Int32 → Mem → Prop) : Prop := (p1 < (20 : Int32) → Q (-1) M) ∧ (¬ p1 < (20 : Int32) → ((50 : Int32) < p1 → Q (-1) M) ∧ (¬ (50 : Int32) < p1 → (((-1) : Int32) ≤ p2 → mK M p0 = 13 ∧ mK M (mR M p0 0) = 7 ∧ wp_X6_isReady (mR M p0 0) M (fun r15 M14 => (¬ r15 = (0 : Int32) → mK M14 p0 = 13 ∧ mK M14 (mR M14 p0 10) = 6 ∧ wp_X5_atRest (mR M14 p0 10) (mR M14 p0 0) p1 p2 M14 (fun r22 M21 => Q r22 M21)) ∧ (r15 = (0 : Int32) → Q (-3) M14))) ∧ (¬ ((-1) : Int32) ≤ p2 → Q (-1) M)))
theorem T_X12_rest {G : GG} {Q : Int32 → Mem → Prop} {M : Mem} {p0 : Nat} {p1 : Int32} {p2 : Int32} (h : wp_X12_rest p0 p1 p2 M Q) : PMet G mX12_rest 6 0 0 [.ref p0, .int p1, .int p2] M (QI Q) :=
  mk_met (by decide) rfl rfl (by
    intro w hw x9 e9
    subst e9
    simp at hw) (Nat.le_of_ble_eq_true rfl) (s_pad (L1 := [some (.ref p0), some (.int p1), some (.int p2)]) 3 rfl (s_iload_n (pc := 0) dX12_rest_0 rfl (s_bipush (pc := 1) dX12_rest_1 cb_20 (s_icmp_lt (pc := 3) (tgt := 17) dX12_rest_3 rfl (fun c1 => have h2 := h.1 c1; s_iconst (pc := 17) dX12_rest_17 ci_m1 (s_ireturn (pc := 18) dX12_rest_18 rfl (Nat.zero_le _) (Nat.zero_le _) ⟨_, rfl, h2⟩)) (fun c3 => have h4 := h.2 c3; s_iload_n (pc := 6) dX12_rest_6 rfl (s_bipush (pc := 7) dX12_rest_7 cb_50 (s_icmp_gt (pc := 9) (tgt := 17) dX12_rest_9 rfl (fun c5 => have h6 := h4.1 c5; s_iconst (pc := 17) dX12_rest_17 ci_m1 (s_ireturn (pc := 18) dX12_rest_18 rfl (Nat.zero_le _) (Nat.zero_le _) ⟨_, rfl, h6⟩)) (fun c7 => have h8 := h4.2 c7; s_iload_n (pc := 12) dX12_rest_12 rfl (s_iconst (pc := 13) dX12_rest_13 ci_m1 (s_icmp_ge (pc := 14) (tgt := 19) dX12_rest_14 rfl (fun c9 => have h10 := h8.1 c9; s_aload_n (pc := 19) dX12_rest_19 rfl (s_getR (pc := 20) dX12_rest_20 f_X12_10 rfl h10.1 (s_callV (pc := 23) (As := []) (rest := []) (d' := 1) (mc' := 0) (ms' := 0) dX12_rest_23 c_X12_132 (Nat.le_of_ble_eq_true rfl) rfl h10.2.1 rfl rfl (Nat.le_of_ble_eq_true rfl) (rm_ok rfl rfl) ⟨Nat.le_refl 0, Nat.le_refl 0⟩ (T_X6_isReady h10.2.2) (kkI (fun r15 M14 h13 => s_if_ne (pc := 26) (tgt := 32) dX12_rest_26 rfl (fun c16 => have h17 := h13.1 c16; s_aload_n (pc := 32) dX12_rest_32 rfl (s_getR (pc := 33) dX12_rest_33 f_X12_59 rfl h17.1 (s_aload_n (pc := 36) dX12_rest_36 rfl (s_getR (pc := 37) dX12_rest_37 f_X12_10 rfl h17.1 (s_iload_n (pc := 40) dX12_rest_40 rfl (s_iload_n (pc := 41) dX12_rest_41 rfl (s_callV (pc := 42) (As := [.ref (mR M14 p0 0), .int p1, .int p2]) (rest := []) (d' := 5) (mc' := 0) (ms' := 0) dX12_rest_42 c_X12_253 (Nat.le_of_ble_eq_true rfl) rfl h17.2.1 rfl rfl (Nat.le_of_ble_eq_true rfl) (rm_ok rfl rfl) ⟨Nat.le_refl 0, Nat.le_refl 0⟩ (T_X5_atRest h17.2.2) (kkI (fun r22 M21 h20 => s_ireturn (pc := 45) dX12_rest_45 rfl (Nat.zero_le _) (Nat.zero_le _) ⟨_, rfl, h20⟩))))))))) (fun c18 => have h19 := h13.2 c18; s_bipush (pc := 29) dX12_rest_29 cb_m3 (s_ireturn (pc := 31) dX12_rest_31 rfl (Nat.zero_le _) (Nat.zero_le _) ⟨_, rfl, h19⟩))))))) (fun c11 => have h12 := h8.2 c11; s_iconst (pc := 17) dX12_rest_17 ci_m1 (s_ireturn (pc := 18) dX12_rest_18 rfl (Nat.zero_le _) (Nat.zero_le _) ⟨_, rfl, h12⟩))))))))))))
/-! X12_restore -/
theorem dX12_restore_0 : cod mX12_restore 0 (.aload_n 0) 1 := by decide +kernel
theorem dX12_restore_1 : cod mX12_restore 1 (.getfield 275) 3 := by decide +kernel
theorem dX12_restore_4 : cod mX12_restore 4 (.ifCond .ne 6) 3 := by decide +kernel
theorem dX12_restore_7 : cod mX12_restore 7 (.bipush (-3)) 2 := by decide +kernel
theorem dX12_restore_9 : cod mX12_restore 9 (.ireturn) 1 := by decide +kernel
theorem dX12_restore_10 : cod mX12_restore 10 (.aload_n 0) 1 := by decide +kernel
theorem dX12_restore_11 : cod mX12_restore 11 (.getfield 10) 3 := by decide +kernel
theorem dX12_restore_14 : cod mX12_restore 14 (.aload_n 0) 1 := by decide +kernel
theorem dX12_restore_15 : cod mX12_restore 15 (.getfield 19) 3 := by decide +kernel
theorem dX12_restore_18 : cod mX12_restore 18 (.invokevirtual 71) 3 := by decide +kernel
theorem dX12_restore_21 : cod mX12_restore 21 (.aload_n 0) 1 := by decide +kernel
theorem dX12_restore_22 : cod mX12_restore 22 (.getfield 25) 3 := by decide +kernel
theorem dX12_restore_25 : cod mX12_restore 25 (.aload_n 0) 1 := by decide +kernel
theorem dX12_restore_26 : cod mX12_restore 26 (.getfield 32) 3 := by decide +kernel
theorem dX12_restore_29 : cod mX12_restore 29 (.invokevirtual 144) 3 := by decide +kernel
theorem dX12_restore_32 : cod mX12_restore 32 (.aload_n 0) 1 := by decide +kernel
theorem dX12_restore_33 : cod mX12_restore 33 (.getfield 10) 3 := by decide +kernel
theorem dX12_restore_36 : cod mX12_restore 36 (.getfield 279) 3 := by decide +kernel
theorem dX12_restore_39 : cod mX12_restore 39 (.ireturn) 1 := by decide +kernel
def wp_X12_restore (p0 : Nat) (M : Mem) (Q : Int32 → Mem → Prop) : Prop := mK M p0 = 13 ∧ (¬ (mI M p0 6) = (0 : Int32) → mK M (mR M p0 0) = 7 ∧ wp_X6_copyFrom (mR M p0 0) (mR M p0 2) M (fun M6 => mK M6 p0 = 13 ∧ mK M6 (mR M6 p0 3) = 10 ∧ wp_X9_copyFrom (mR M6 p0 3) (mR M6 p0 5) M6 (fun M8 => mK M8 p0 = 13 ∧ mK M8 (mR M8 p0 0) = 7 ∧ Q (mI M8 (mR M8 p0 0) 0) M8))) ∧ ((mI M p0 6) = (0 : Int32) → Q (-3) M)
theorem T_X12_restore {G : GG} {Q : Int32 → Mem → Prop} {M : Mem} {p0 : Nat} (h : wp_X12_restore p0 M Q) : PMet G mX12_restore 1 0 0 [.ref p0] M (QI Q) :=
  mk_met (by decide) rfl rfl (by
    intro w hw x9 e9
    subst e9
    simp at hw) (Nat.le_of_ble_eq_true rfl) (s_pad (L1 := [some (.ref p0)]) 1 rfl (s_aload_n (pc := 0) dX12_restore_0 rfl (s_getI (pc := 1) dX12_restore_1 f_X12_275 rfl h.1 (s_if_ne (pc := 4) (tgt := 10) dX12_restore_4 rfl (fun c1 => have h2 := h.2.1 c1; s_aload_n (pc := 10) dX12_restore_10 rfl (s_getR (pc := 11) dX12_restore_11 f_X12_10 rfl h.1 (s_aload_n (pc := 14) dX12_restore_14 rfl (s_getR (pc := 15) dX12_restore_15 f_X12_19 rfl h.1 (s_callV (pc := 18) (As := [.ref (mR M p0 2)]) (rest := []) (d' := 0) (mc' := 0) (ms' := 0) dX12_restore_18 c_X12_71 (Nat.le_of_ble_eq_true rfl) rfl h2.1 rfl rfl (Nat.le_of_ble_eq_true rfl) (rm_ok rfl rfl) ⟨Nat.le_refl 0, Nat.le_refl 0⟩ (T_X6_copyFrom h2.2) (kkV (fun M6 h5 => s_aload_n (pc := 21) dX12_restore_21 rfl (s_getR (pc := 22) dX12_restore_22 f_X12_25 rfl h5.1 (s_aload_n (pc := 25) dX12_restore_25 rfl (s_getR (pc := 26) dX12_restore_26 f_X12_32 rfl h5.1 (s_callV (pc := 29) (As := [.ref (mR M6 p0 5)]) (rest := []) (d' := 0) (mc' := 0) (ms' := 0) dX12_restore_29 c_X12_144 (Nat.le_of_ble_eq_true rfl) rfl h5.2.1 rfl rfl (Nat.le_of_ble_eq_true rfl) (rm_ok rfl rfl) ⟨Nat.le_refl 0, Nat.le_refl 0⟩ (T_X9_copyFrom h5.2.2) (kkV (fun M8 h7 => s_aload_n (pc := 32) dX12_restore_32 rfl (s_getR (pc := 33) dX12_restore_33 f_X12_10 rfl h7.1 (s_getI (pc := 36) dX12_restore_36 f_X12_279 rfl h7.2.1 (s_ireturn (pc := 39) dX12_restore_39 rfl (Nat.zero_le _) (Nat.zero_le _) ⟨_, rfl, h7.2.2⟩)))))))))))))))) (fun c3 => have h4 := h.2.2 c3; s_bipush (pc := 7) dX12_restore_7 cb_m3 (s_ireturn (pc := 9) dX12_restore_9 rfl (Nat.zero_le _) (Nat.zero_le _) ⟨_, rfl, h4⟩))))))
/-! X4_takeRow -/
theorem dX4_takeRow_0 : cod mX4_takeRow 0 (.aload_n 0) 1 := by decide +kernel
theorem dX4_takeRow_1 : cod mX4_takeRow 1 (.invokevirtual 26) 3 := by decide +kernel
theorem dX4_takeRow_4 : cod mX4_takeRow 4 (.aload_n 0) 1 := by decide +kernel
theorem dX4_takeRow_5 : cod mX4_takeRow 5 (.iload_n 1) 1 := by decide +kernel
theorem dX4_takeRow_6 : cod mX4_takeRow 6 (.putfield 11) 3 := by decide +kernel
theorem dX4_takeRow_9 : cod mX4_takeRow 9 (.aload_n 0) 1 := by decide +kernel
theorem dX4_takeRow_10 : cod mX4_takeRow 10 (.iconst 0) 1 := by decide +kernel
theorem dX4_takeRow_11 : cod mX4_takeRow 11 (.bipush 100) 2 := by decide +kernel
theorem dX4_takeRow_13 : cod mX4_takeRow 13 (.iload_n 2) 1 := by decide +kernel
theorem dX4_takeRow_14 : cod mX4_takeRow 14 (.invokestatic 29) 3 := by decide +kernel
theorem dX4_takeRow_17 : cod mX4_takeRow 17 (.invokestatic 35) 3 := by decide +kernel
theorem dX4_takeRow_20 : cod mX4_takeRow 20 (.putfield 23) 3 := by decide +kernel
theorem dX4_takeRow_23 : cod mX4_takeRow 23 (.aload_n 0) 1 := by decide +kernel
theorem dX4_takeRow_24 : cod mX4_takeRow 24 (.getfield 15) 3 := by decide +kernel
theorem dX4_takeRow_27 : cod mX4_takeRow 27 (.iconst 0) 1 := by decide +kernel
theorem dX4_takeRow_28 : cod mX4_takeRow 28 (.invokestatic 38) 3 := by decide +kernel
theorem dX4_takeRow_31 : cod mX4_takeRow 31 (.return_) 1 := by decide +kernel
def wp_X4_takeRow (p0 : Nat) (p1 : Int32) (p2 : Int32) (M : Mem) (Q : Mem → Prop) : Prop := mK M p0 = 5 ∧ wp_X4_clear p0 M (fun M2 => mK M2 p0 = 5 ∧ ∀ M3 : Mem, M3 = uI M2 p0 1 p1 → ∀ M6 : Mem, M6 = uI M3 p0 2 (iMax 0 (iMin 100 p2)) → wp_J7_fill_53178 (mR M6 p0 3) 0 M6 (fun M10 => Q M10))
theorem T_X4_takeRow {G : GG} {Q : Mem → Prop} {M : Mem} {p0 : Nat} {p1 : Int32} {p2 : Int32} (h : wp_X4_takeRow p0 p1 p2 M Q) : PMet G mX4_takeRow 1 0 0 [.ref p0, .int p1, .int p2] M (QV Q) :=
  mk_met (by decide) rfl rfl (by
    intro w hw x9 e9
    subst e9
    simp at hw) (Nat.le_of_ble_eq_true rfl) (s_pad (L1 := [some (.ref p0), some (.int p1), some (.int p2)]) 3 rfl (s_aload_n (pc := 0) dX4_takeRow_0 rfl (s_callV (pc := 1) (As := []) (rest := []) (d' := 0) (mc' := 0) (ms' := 0) dX4_takeRow_1 c_X4_26 (Nat.le_of_ble_eq_true rfl) rfl h.1 rfl rfl (Nat.le_of_ble_eq_true rfl) (rm_ok rfl rfl) ⟨Nat.le_refl 0, Nat.le_refl 0⟩ (T_X4_clear h.2) (kkV (fun M2 h1 => s_aload_n (pc := 4) dX4_takeRow_4 rfl (s_iload_n (pc := 5) dX4_takeRow_5 rfl (s_putI (pc := 6) dX4_takeRow_6 f_X4_11 (Or.inl rfl) (Or.inl rfl) h1.1 (nmM (fun M3 e4 => have h5 := h1.2 M3 e4; s_aload_n (pc := 9) dX4_takeRow_9 rfl (s_iconst (pc := 10) dX4_takeRow_10 ci_0 (s_bipush (pc := 11) dX4_takeRow_11 cb_100 (s_iload_n (pc := 13) dX4_takeRow_13 rfl (s_mmin (pc := 14) dX4_takeRow_14 c_X4_29 (Nat.le_of_ble_eq_true rfl) (Nat.le_of_ble_eq_true rfl) (Nat.le_refl 0) (Nat.le_refl 0) (s_mmax (pc := 17) dX4_takeRow_17 c_X4_35 (Nat.le_of_ble_eq_true rfl) (Nat.le_of_ble_eq_true rfl) (Nat.le_refl 0) (Nat.le_refl 0) (s_putI (pc := 20) dX4_takeRow_20 f_X4_23 (Or.inl rfl) (Or.inl rfl) ((congrFun (congrArg mK e4) p0).trans h1.1) (nmM (fun M6 e7 => have h8 := h5 M6 e7; s_aload_n (pc := 23) dX4_takeRow_23 rfl (s_getR (pc := 24) dX4_takeRow_24 f_X4_15 rfl ((congrFun (congrArg mK e7) p0).trans ((congrFun (congrArg mK e4) p0).trans h1.1)) (s_iconst (pc := 27) dX4_takeRow_27 ci_0 (s_callS (pc := 28) (As := [.ref (mR M6 p0 3), .int 0]) (rest := []) (d' := 0) (mc' := 0) (ms' := 0) dX4_takeRow_28 c_X4_38 rfl rfl (Nat.le_of_ble_eq_true rfl) (rm_ok rfl rfl) ⟨Nat.le_refl 0, Nat.le_refl 0⟩ (T_J7_fill_53178 h8) (kkV (fun M10 h9 => s_return (pc := 31) dX4_takeRow_31 rfl (Nat.zero_le _) (Nat.zero_le _) ⟨rfl, h9⟩))))))))))))))))))))))
/-! X12_row -/
theorem dX12_row_0 : cod mX12_row 0 (.iload_n 1) 1 := by decide +kernel
theorem dX12_row_1 : cod mX12_row 1 (.invokestatic 295) 3 := by decide +kernel
theorem dX12_row_4 : cod mX12_row 4 (.ifCond .eq 18) 3 := by decide +kernel
theorem dX12_row_7 : cod mX12_row 7 (.iload_n 2) 1 := by decide +kernel
theorem dX12_row_8 : cod mX12_row 8 (.ifCond .lt 14) 3 := by decide +kernel
theorem dX12_row_11 : cod mX12_row 11 (.iload_n 2) 1 := by decide +kernel
theorem dX12_row_12 : cod mX12_row 12 (.iconst 2) 1 := by decide +kernel
theorem dX12_row_13 : cod mX12_row 13 (.if_icmp .gt 9) 3 := by decide +kernel
theorem dX12_row_16 : cod mX12_row 16 (.iload_n 3) 1 := by decide +kernel
theorem dX12_row_17 : cod mX12_row 17 (.bipush 100) 2 := by decide +kernel
theorem dX12_row_19 : cod mX12_row 19 (.if_icmp .le 5) 3 := by decide +kernel
theorem dX12_row_22 : cod mX12_row 22 (.iconst (-1)) 1 := by decide +kernel
theorem dX12_row_23 : cod mX12_row 23 (.ireturn) 1 := by decide +kernel
theorem dX12_row_24 : cod mX12_row 24 (.iload_n 3) 1 := by decide +kernel
theorem dX12_row_25 : cod mX12_row 25 (.ifCond .ge 6) 3 := by decide +kernel
theorem dX12_row_28 : cod mX12_row 28 (.bipush (-14)) 2 := by decide +kernel
theorem dX12_row_30 : cod mX12_row 30 (.ireturn) 1 := by decide +kernel
theorem dX12_row_31 : cod mX12_row 31 (.aload_n 0) 1 := by decide +kernel
theorem dX12_row_32 : cod mX12_row 32 (.getfield 37) 3 := by decide +kernel
theorem dX12_row_35 : cod mX12_row 35 (.iload_n 1) 1 := by decide +kernel
theorem dX12_row_36 : cod mX12_row 36 (.aaload) 1 := by decide +kernel
theorem dX12_row_37 : cod mX12_row 37 (.iload_n 2) 1 := by decide +kernel
theorem dX12_row_38 : cod mX12_row 38 (.iload_n 3) 1 := by decide +kernel
theorem dX12_row_39 : cod mX12_row 39 (.invokevirtual 309) 3 := by decide +kernel
theorem dX12_row_42 : cod mX12_row 42 (.iconst 0) 1 := by decide +kernel
theorem dX12_row_43 : cod mX12_row 43 (.ireturn) 1 := by decide +kernel
def wp_X12_row (p0 : Nat) (p1 : Int32) (p2 : Int32) (p3 : Int32) (M : Mem) (Q : Int32 → Mem → Prop) : Prop := wp_X12_isShelf p1 M (fun r3 M2 => (r3 = (0 : Int32) → Q (-1) M2) ∧ (¬ r3 = (0 : Int32) → (p2 < (0 : Int32) → Q (-1) M2) ∧ (¬ p2 < (0 : Int32) → ((2 : Int32) < p2 → Q (-1) M2) ∧ (¬ (2 : Int32) < p2 → (p3 ≤ (100 : Int32) → ((0 : Int32) ≤ p3 → mK M2 p0 = 13 ∧ mK M2 (mR M2 p0 7) = 24 ∧ vp_in p1 (mN M2 (mR M2 p0 7)) ∧ mK M2 (mR M2 (mR M2 p0 7) p1.toNatClampNeg) = 5 ∧ wp_X4_takeRow (mR M2 (mR M2 p0 7) p1.toNatClampNeg) p2 p3 M2 (fun M25 => Q 0 M25)) ∧ (¬ (0 : Int32) ≤ p3 → Q (-14) M2)) ∧ (¬ p3 ≤ (100 : Int32) → Q (-1) M2)))))
theorem T_X12_row {G : GG} {Q : Int32 → Mem → Prop} {M : Mem} {p0 : Nat} {p1 : Int32} {p2 : Int32} {p3 : Int32} (h : wp_X12_row p0 p1 p2 p3 M Q) : PMet G mX12_row 2 0 0 [.ref p0, .int p1, .int p2, .int p3] M (QI Q) :=
  mk_met (by decide) rfl rfl (by
    intro w hw x9 e9
    subst e9
    simp at hw) (Nat.le_of_ble_eq_true rfl) (s_pad (L1 := [some (.ref p0), some (.int p1), some (.int p2), some (.int p3)]) 4 rfl (s_iload_n (pc := 0) dX12_row_0 rfl (s_callS (pc := 1) (As := [.int p1]) (rest := []) (d' := 0) (mc' := 0) (ms' := 0) dX12_row_1 c_X12_295 rfl rfl (Nat.le_of_ble_eq_true rfl) (rm_ok rfl rfl) ⟨Nat.le_refl 0, Nat.le_refl 0⟩ (T_X12_isShelf h) (kkI (fun r3 M2 h1 => s_if_eq (pc := 4) (tgt := 22) dX12_row_4 rfl (fun c4 => have h5 := h1.1 c4; s_iconst (pc := 22) dX12_row_22 ci_m1 (s_ireturn (pc := 23) dX12_row_23 rfl (Nat.zero_le _) (Nat.zero_le _) ⟨_, rfl, h5⟩)) (fun c6 => have h7 := h1.2 c6; s_iload_n (pc := 7) dX12_row_7 rfl (s_if_lt (pc := 8) (tgt := 22) dX12_row_8 rfl (fun c8 => have h9 := h7.1 c8; s_iconst (pc := 22) dX12_row_22 ci_m1 (s_ireturn (pc := 23) dX12_row_23 rfl (Nat.zero_le _) (Nat.zero_le _) ⟨_, rfl, h9⟩)) (fun c10 => have h11 := h7.2 c10; s_iload_n (pc := 11) dX12_row_11 rfl (s_iconst (pc := 12) dX12_row_12 ci_2 (s_icmp_gt (pc := 13) (tgt := 22) dX12_row_13 rfl (fun c12 => have h13 := h11.1 c12; s_iconst (pc := 22) dX12_row_22 ci_m1 (s_ireturn (pc := 23) dX12_row_23 rfl (Nat.zero_le _) (Nat.zero_le _) ⟨_, rfl, h13⟩)) (fun c14 => have h15 := h11.2 c14; s_iload_n (pc := 16) dX12_row_16 rfl (s_bipush (pc := 17) dX12_row_17 cb_100 (s_icmp_le (pc := 19) (tgt := 24) dX12_row_19 rfl (fun c16 => have h17 := h15.1 c16; s_iload_n (pc := 24) dX12_row_24 rfl (s_if_ge (pc := 25) (tgt := 31) dX12_row_25 rfl (fun c20 => have h21 := h17.1 c20; s_aload_n (pc := 31) dX12_row_31 rfl (s_getR (pc := 32) dX12_row_32 f_X12_37 rfl h21.1 (s_iload_n (pc := 35) dX12_row_35 rfl (s_aal (pc := 36) (t := 4) dX12_row_36 (Nat.le_of_ble_eq_true rfl) (Nat.le_of_ble_eq_true rfl) h21.2.1 h21.2.2.1 (s_iload_n (pc := 37) dX12_row_37 rfl (s_iload_n (pc := 38) dX12_row_38 rfl (s_callV (pc := 39) (As := [.int p2, .int p3]) (rest := []) (d' := 1) (mc' := 0) (ms' := 0) dX12_row_39 c_X12_309 (Nat.le_of_ble_eq_true rfl) rfl h21.2.2.2.1 rfl rfl (Nat.le_of_ble_eq_true rfl) (rm_ok rfl rfl) ⟨Nat.le_refl 0, Nat.le_refl 0⟩ (T_X4_takeRow h21.2.2.2.2) (kkV (fun M25 h24 => s_iconst (pc := 42) dX12_row_42 ci_0 (s_ireturn (pc := 43) dX12_row_43 rfl (Nat.zero_le _) (Nat.zero_le _) ⟨_, rfl, h24⟩)))))))))) (fun c22 => have h23 := h17.2 c22; s_bipush (pc := 28) dX12_row_28 cb_m14 (s_ireturn (pc := 30) dX12_row_30 rfl (Nat.zero_le _) (Nat.zero_le _) ⟨_, rfl, h23⟩)))) (fun c18 => have h19 := h15.2 c18; s_iconst (pc := 22) dX12_row_22 ci_m1 (s_ireturn (pc := 23) dX12_row_23 rfl (Nat.zero_le _) (Nat.zero_le _) ⟨_, rfl, h19⟩)))))))))))))))
/-! X6_number -/
theorem dX6_number_0 : cod mX6_number 0 (.iload_n 1) 1 := by decide +kernel
theorem dX6_number_1 : cod mX6_number 1 (.ifCond .ne 10) 3 := by decide +kernel
theorem dX6_number_4 : cod mX6_number 4 (.aload_n 0) 1 := by decide +kernel
theorem dX6_number_5 : cod mX6_number 5 (.getfield 27) 3 := by decide +kernel
theorem dX6_number_8 : cod mX6_number 8 (.goto 19) 3 := by decide +kernel
theorem dX6_number_11 : cod mX6_number 11 (.iload_n 1) 1 := by decide +kernel
theorem dX6_number_12 : cod mX6_number 12 (.iconst 1) 1 := by decide +kernel
theorem dX6_number_13 : cod mX6_number 13 (.if_icmp .ne 10) 3 := by decide +kernel
theorem dX6_number_16 : cod mX6_number 16 (.aload_n 0) 1 := by decide +kernel
theorem dX6_number_17 : cod mX6_number 17 (.getfield 46) 3 := by decide +kernel
theorem dX6_number_20 : cod mX6_number 20 (.goto 7) 3 := by decide +kernel
theorem dX6_number_23 : cod mX6_number 23 (.aload_n 0) 1 := by decide +kernel
theorem dX6_number_24 : cod mX6_number 24 (.getfield 31) 3 := by decide +kernel
theorem dX6_number_27 : cod mX6_number 27 (.ireturn) 1 := by decide +kernel
def wp_X6_number (p0 : Nat) (p1 : Int32) (M : Mem) (Q : Int32 → Mem → Prop) : Prop := (¬ p1 = (0 : Int32) → (¬ p1 = (1 : Int32) → mK M p0 = 7 ∧ Q (mI M p0 9) M) ∧ (p1 = (1 : Int32) → mK M p0 = 7 ∧ Q (mI M p0 8) M)) ∧ (p1 = (0 : Int32) → mK M p0 = 7 ∧ Q (mI M p0 7) M)
theorem T_X6_number {G : GG} {Q : Int32 → Mem → Prop} {M : Mem} {p0 : Nat} {p1 : Int32} (h : wp_X6_number p0 p1 M Q) : PMet G mX6_number 0 0 0 [.ref p0, .int p1] M (QI Q) :=
  mk_met (by decide) rfl rfl (by
    intro w hw x9 e9
    subst e9
    simp at hw) (Nat.le_of_ble_eq_true rfl) (s_pad (L1 := [some (.ref p0), some (.int p1)]) 2 rfl (s_iload_n (pc := 0) dX6_number_0 rfl (s_if_ne (pc := 1) (tgt := 11) dX6_number_1 rfl (fun c1 => have h2 := h.1 c1; s_iload_n (pc := 11) dX6_number_11 rfl (s_iconst (pc := 12) dX6_number_12 ci_1 (s_icmp_ne (pc := 13) (tgt := 23) dX6_number_13 rfl (fun c5 => have h6 := h2.1 c5; s_aload_n (pc := 23) dX6_number_23 rfl (s_getI (pc := 24) dX6_number_24 f_X6_31 rfl h6.1 (s_ireturn (pc := 27) dX6_number_27 rfl (Nat.zero_le _) (Nat.zero_le _) ⟨_, rfl, h6.2⟩))) (fun c7 => have h8 := h2.2 c7; s_aload_n (pc := 16) dX6_number_16 rfl (s_getI (pc := 17) dX6_number_17 f_X6_46 rfl h8.1 (s_goto (pc := 20) (tgt := 27) dX6_number_20 rfl (s_ireturn (pc := 27) dX6_number_27 rfl (Nat.zero_le _) (Nat.zero_le _) ⟨_, rfl, h8.2⟩))))))) (fun c3 => have h4 := h.2 c3; s_aload_n (pc := 4) dX6_number_4 rfl (s_getI (pc := 5) dX6_number_5 f_X6_27 rfl h4.1 (s_goto (pc := 8) (tgt := 27) dX6_number_8 rfl (s_ireturn (pc := 27) dX6_number_27 rfl (Nat.zero_le _) (Nat.zero_le _) ⟨_, rfl, h4.2⟩)))))))
/-! X6_change -/
theorem dX6_change_0 : cod mX6_change 0 (.iload_n 1) 1 := by decide +kernel
theorem dX6_change_1 : cod mX6_change 1 (.ifCond .ne 21) 3 := by decide +kernel
theorem dX6_change_4 : cod mX6_change 4 (.iload_n 2) 1 := by decide +kernel
theorem dX6_change_5 : cod mX6_change 5 (.ifCond .lt 17) 3 := by decide +kernel
theorem dX6_change_8 : cod mX6_change 8 (.iload_n 2) 1 := by decide +kernel
theorem dX6_change_9 : cod mX6_change 9 (.bipush 20) 2 := by decide +kernel
theorem dX6_change_11 : cod mX6_change 11 (.if_icmp .gt 11) 3 := by decide +kernel
theorem dX6_change_14 : cod mX6_change 14 (.aload_n 0) 1 := by decide +kernel
theorem dX6_change_15 : cod mX6_change 15 (.iload_n 2) 1 := by decide +kernel
theorem dX6_change_16 : cod mX6_change 16 (.putfield 27) 3 := by decide +kernel
theorem dX6_change_19 : cod mX6_change 19 (.goto 52) 3 := by decide +kernel
theorem dX6_change_22 : cod mX6_change 22 (.iload_n 1) 1 := by decide +kernel
theorem dX6_change_23 : cod mX6_change 23 (.iconst 1) 1 := by decide +kernel
theorem dX6_change_24 : cod mX6_change 24 (.if_icmp .ne 21) 3 := by decide +kernel
theorem dX6_change_27 : cod mX6_change 27 (.iload_n 2) 1 := by decide +kernel
theorem dX6_change_28 : cod mX6_change 28 (.ifCond .lt 17) 3 := by decide +kernel
theorem dX6_change_31 : cod mX6_change 31 (.iload_n 2) 1 := by decide +kernel
theorem dX6_change_32 : cod mX6_change 32 (.bipush 9) 2 := by decide +kernel
theorem dX6_change_34 : cod mX6_change 34 (.if_icmp .gt 11) 3 := by decide +kernel
theorem dX6_change_37 : cod mX6_change 37 (.aload_n 0) 1 := by decide +kernel
theorem dX6_change_38 : cod mX6_change 38 (.iload_n 2) 1 := by decide +kernel
theorem dX6_change_39 : cod mX6_change 39 (.putfield 46) 3 := by decide +kernel
theorem dX6_change_42 : cod mX6_change 42 (.goto 29) 3 := by decide +kernel
theorem dX6_change_45 : cod mX6_change 45 (.iload_n 1) 1 := by decide +kernel
theorem dX6_change_46 : cod mX6_change 46 (.iconst 2) 1 := by decide +kernel
theorem dX6_change_47 : cod mX6_change 47 (.if_icmp .ne 22) 3 := by decide +kernel
theorem dX6_change_50 : cod mX6_change 50 (.iload_n 2) 1 := by decide +kernel
theorem dX6_change_51 : cod mX6_change 51 (.iconst 1) 1 := by decide +kernel
theorem dX6_change_52 : cod mX6_change 52 (.if_icmp .lt 17) 3 := by decide +kernel
theorem dX6_change_55 : cod mX6_change 55 (.iload_n 2) 1 := by decide +kernel
theorem dX6_change_56 : cod mX6_change 56 (.bipush 6) 2 := by decide +kernel
theorem dX6_change_58 : cod mX6_change 58 (.if_icmp .gt 11) 3 := by decide +kernel
theorem dX6_change_61 : cod mX6_change 61 (.aload_n 0) 1 := by decide +kernel
theorem dX6_change_62 : cod mX6_change 62 (.iload_n 2) 1 := by decide +kernel
theorem dX6_change_63 : cod mX6_change 63 (.putfield 31) 3 := by decide +kernel
theorem dX6_change_66 : cod mX6_change 66 (.goto 5) 3 := by decide +kernel
theorem dX6_change_69 : cod mX6_change 69 (.iconst 0) 1 := by decide +kernel
theorem dX6_change_70 : cod mX6_change 70 (.ireturn) 1 := by decide +kernel
theorem dX6_change_71 : cod mX6_change 71 (.iconst 1) 1 := by decide +kernel
theorem dX6_change_72 : cod mX6_change 72 (.ireturn) 1 := by decide +kernel
def jn_X6_change_45 (Q : Int32 → Mem → Prop) (x0 : Nat) (x1 : Int32) (x2 : Int32) (M : Mem) : Prop := (¬ x1 = (2 : Int32) → Q 0 M) ∧ (x1 = (2 : Int32) → (x2 < (1 : Int32) → Q 0 M) ∧ (¬ x2 < (1 : Int32) → ((6 : Int32) < x2 → Q 0 M) ∧ (¬ (6 : Int32) < x2 → mK M x0 = 7 ∧ ∀ M21 : Mem, M21 = uI M x0 9 x2 → Q 1 M21)))
theorem P_jn_X6_change_45 {G : GG} {Q : Int32 → Mem → Prop} (x0 : Nat) (x1 : Int32) (x2 : Int32) (M : Mem) (h : jn_X6_change_45 Q x0 x1 x2 M) : PW G mX6_change (rmD 0 0 0) (QI Q) 45 [some (.ref x0), some (.int x1), some (.int x2)] [] M 0 0 := (s_iload_n (pc := 45) dX6_change_45 rfl (s_iconst (pc := 46) dX6_change_46 ci_2 (s_icmp_ne (pc := 47) (tgt := 69) dX6_change_47 rfl (fun c9 => have h10 := h.1 c9; s_iconst (pc := 69) dX6_change_69 ci_0 (s_zreturn (pc := 70) dX6_change_70 rfl (Or.inl rfl) (Nat.zero_le _) (Nat.zero_le _) ⟨_, rfl, h10⟩)) (fun c11 => have h12 := h.2 c11; s_iload_n (pc := 50) dX6_change_50 rfl (s_iconst (pc := 51) dX6_change_51 ci_1 (s_icmp_lt (pc := 52) (tgt := 69) dX6_change_52 rfl (fun c13 => have h14 := h12.1 c13; s_iconst (pc := 69) dX6_change_69 ci_0 (s_zreturn (pc := 70) dX6_change_70 rfl (Or.inl rfl) (Nat.zero_le _) (Nat.zero_le _) ⟨_, rfl, h14⟩)) (fun c15 => have h16 := h12.2 c15; s_iload_n (pc := 55) dX6_change_55 rfl (s_bipush (pc := 56) dX6_change_56 cb_6 (s_icmp_gt (pc := 58) (tgt := 69) dX6_change_58 rfl (fun c17 => have h18 := h16.1 c17; s_iconst (pc := 69) dX6_change_69 ci_0 (s_zreturn (pc := 70) dX6_change_70 rfl (Or.inl rfl) (Nat.zero_le _) (Nat.zero_le _) ⟨_, rfl, h18⟩)) (fun c19 => have h20 := h16.2 c19; s_aload_n (pc := 61) dX6_change_61 rfl (s_iload_n (pc := 62) dX6_change_62 rfl (s_putI (pc := 63) dX6_change_63 f_X6_31 (Or.inl rfl) (Or.inl rfl) h20.1 (nmM (fun M21 e22 => have h23 := h20.2 M21 e22; s_goto (pc := 66) (tgt := 71) dX6_change_66 rfl (s_iconst (pc := 71) dX6_change_71 ci_1 (s_zreturn (pc := 72) dX6_change_72 rfl (Or.inr rfl) (Nat.zero_le _) (Nat.zero_le _) ⟨_, rfl, h23⟩))))))))))))))))
def jn_X6_change_22 (Q : Int32 → Mem → Prop) (x0 : Nat) (x1 : Int32) (x2 : Int32) (M : Mem) : Prop := (¬ x1 = (1 : Int32) → jn_X6_change_45 Q x0 x1 x2 M) ∧ (x1 = (1 : Int32) → (x2 < (0 : Int32) → jn_X6_change_45 Q x0 x1 x2 M) ∧ (¬ x2 < (0 : Int32) → ((9 : Int32) < x2 → jn_X6_change_45 Q x0 x1 x2 M) ∧ (¬ (9 : Int32) < x2 → mK M x0 = 7 ∧ ∀ M32 : Mem, M32 = uI M x0 8 x2 → Q 1 M32)))
theorem P_jn_X6_change_22 {G : GG} {Q : Int32 → Mem → Prop} (x0 : Nat) (x1 : Int32) (x2 : Int32) (M : Mem) (h : jn_X6_change_22 Q x0 x1 x2 M) : PW G mX6_change (rmD 0 0 0) (QI Q) 22 [some (.ref x0), some (.int x1), some (.int x2)] [] M 0 0 := (s_iload_n (pc := 22) dX6_change_22 rfl (s_iconst (pc := 23) dX6_change_23 ci_1 (s_icmp_ne (pc := 24) (tgt := 45) dX6_change_24 rfl (fun c5 => have h6 := h.1 c5; s_sel (L1 := [some (.ref x0), some (.int x1), some (.int x2)]) [true, true, true] rfl (P_jn_X6_change_45 x0 x1 x2 M h6)) (fun c7 => have h8 := h.2 c7; s_iload_n (pc := 27) dX6_change_27 rfl (s_if_lt (pc := 28) (tgt := 45) dX6_change_28 rfl (fun c24 => have h25 := h8.1 c24; s_sel (L1 := [some (.ref x0), some (.int x1), some (.int x2)]) [true, true, true] rfl (P_jn_X6_change_45 x0 x1 x2 M h25)) (fun c26 => have h27 := h8.2 c26; s_iload_n (pc := 31) dX6_change_31 rfl (s_bipush (pc := 32) dX6_change_32 cb_9 (s_icmp_gt (pc := 34) (tgt := 45) dX6_change_34 rfl (fun c28 => have h29 := h27.1 c28; s_sel (L1 := [some (.ref x0), some (.int x1), some (.int x2)]) [true, true, true] rfl (P_jn_X6_change_45 x0 x1 x2 M h29)) (fun c30 => have h31 := h27.2 c30; s_aload_n (pc := 37) dX6_change_37 rfl (s_iload_n (pc := 38) dX6_change_38 rfl (s_putI (pc := 39) dX6_change_39 f_X6_46 (Or.inl rfl) (Or.inl rfl) h31.1 (nmM (fun M32 e33 => have h34 := h31.2 M32 e33; s_goto (pc := 42) (tgt := 71) dX6_change_42 rfl (s_iconst (pc := 71) dX6_change_71 ci_1 (s_zreturn (pc := 72) dX6_change_72 rfl (Or.inr rfl) (Nat.zero_le _) (Nat.zero_le _) ⟨_, rfl, h34⟩)))))))))))))))
def wp_X6_change (p0 : Nat) (p1 : Int32) (p2 : Int32) (M : Mem) (Q : Int32 → Mem → Prop) : Prop := (¬ p1 = (0 : Int32) → jn_X6_change_22 Q p0 p1 p2 M) ∧ (p1 = (0 : Int32) → (p2 < (0 : Int32) → jn_X6_change_22 Q p0 p1 p2 M) ∧ (¬ p2 < (0 : Int32) → ((20 : Int32) < p2 → jn_X6_change_22 Q p0 p1 p2 M) ∧ (¬ (20 : Int32) < p2 → mK M p0 = 7 ∧ ∀ M43 : Mem, M43 = uI M p0 7 p2 → Q 1 M43)))
theorem T_X6_change {G : GG} {Q : Int32 → Mem → Prop} {M : Mem} {p0 : Nat} {p1 : Int32} {p2 : Int32} (h : wp_X6_change p0 p1 p2 M Q) : PMet G mX6_change 0 0 0 [.ref p0, .int p1, .int p2] M (QI Q) :=
  mk_met (by decide) rfl rfl (by
    intro w hw x9 e9
    subst e9
    simp at hw) (Nat.le_of_ble_eq_true rfl) (s_pad (L1 := [some (.ref p0), some (.int p1), some (.int p2)]) 3 rfl (s_iload_n (pc := 0) dX6_change_0 rfl (s_if_ne (pc := 1) (tgt := 22) dX6_change_1 rfl (fun c1 => have h2 := h.1 c1; s_sel (L1 := [some (.ref p0), some (.int p1), some (.int p2)]) [true, true, true] rfl (P_jn_X6_change_22 p0 p1 p2 M h2)) (fun c3 => have h4 := h.2 c3; s_iload_n (pc := 4) dX6_change_4 rfl (s_if_lt (pc := 5) (tgt := 22) dX6_change_5 rfl (fun c35 => have h36 := h4.1 c35; s_sel (L1 := [some (.ref p0), some (.int p1), some (.int p2)]) [true, true, true] rfl (P_jn_X6_change_22 p0 p1 p2 M h36)) (fun c37 => have h38 := h4.2 c37; s_iload_n (pc := 8) dX6_change_8 rfl (s_bipush (pc := 9) dX6_change_9 cb_20 (s_icmp_gt (pc := 11) (tgt := 22) dX6_change_11 rfl (fun c39 => have h40 := h38.1 c39; s_sel (L1 := [some (.ref p0), some (.int p1), some (.int p2)]) [true, true, true] rfl (P_jn_X6_change_22 p0 p1 p2 M h40)) (fun c41 => have h42 := h38.2 c41; s_aload_n (pc := 14) dX6_change_14 rfl (s_iload_n (pc := 15) dX6_change_15 rfl (s_putI (pc := 16) dX6_change_16 f_X6_27 (Or.inl rfl) (Or.inl rfl) h42.1 (nmM (fun M43 e44 => have h45 := h42.2 M43 e44; s_goto (pc := 19) (tgt := 71) dX6_change_19 rfl (s_iconst (pc := 71) dX6_change_71 ci_1 (s_zreturn (pc := 72) dX6_change_72 rfl (Or.inr rfl) (Nat.zero_le _) (Nat.zero_le _) ⟨_, rfl, h45⟩)))))))))))))))
/-! X12_set -/
theorem dX12_set_0 : cod mX12_set 0 (.aload_n 0) 1 := by decide +kernel
theorem dX12_set_1 : cod mX12_set 1 (.getfield 10) 3 := by decide +kernel
theorem dX12_set_4 : cod mX12_set 4 (.iload_n 1) 1 := by decide +kernel
theorem dX12_set_5 : cod mX12_set 5 (.invokevirtual 111) 3 := by decide +kernel
theorem dX12_set_8 : cod mX12_set 8 (.istore_n 3) 1 := by decide +kernel
theorem dX12_set_9 : cod mX12_set 9 (.aload_n 0) 1 := by decide +kernel
theorem dX12_set_10 : cod mX12_set 10 (.getfield 10) 3 := by decide +kernel
theorem dX12_set_13 : cod mX12_set 13 (.iload_n 1) 1 := by decide +kernel
theorem dX12_set_14 : cod mX12_set 14 (.iload_n 2) 1 := by decide +kernel
theorem dX12_set_15 : cod mX12_set 15 (.invokevirtual 114) 3 := by decide +kernel
theorem dX12_set_18 : cod mX12_set 18 (.ifCond .eq 7) 3 := by decide +kernel
theorem dX12_set_21 : cod mX12_set 21 (.iload_n 3) 1 := by decide +kernel
theorem dX12_set_22 : cod mX12_set 22 (.goto 4) 3 := by decide +kernel
theorem dX12_set_25 : cod mX12_set 25 (.iconst (-1)) 1 := by decide +kernel
theorem dX12_set_26 : cod mX12_set 26 (.ireturn) 1 := by decide +kernel
def wp_X12_set (p0 : Nat) (p1 : Int32) (p2 : Int32) (M : Mem) (Q : Int32 → Mem → Prop) : Prop := mK M p0 = 13 ∧ mK M (mR M p0 0) = 7 ∧ wp_X6_number (mR M p0 0) p1 M (fun r3 M2 => mK M2 p0 = 13 ∧ mK M2 (mR M2 p0 0) = 7 ∧ wp_X6_change (mR M2 p0 0) p1 p2 M2 (fun r6 M5 => (r6 = (0 : Int32) → Q (-1) M5) ∧ (¬ r6 = (0 : Int32) → Q r3 M5)))
theorem T_X12_set {G : GG} {Q : Int32 → Mem → Prop} {M : Mem} {p0 : Nat} {p1 : Int32} {p2 : Int32} (h : wp_X12_set p0 p1 p2 M Q) : PMet G mX12_set 1 0 0 [.ref p0, .int p1, .int p2] M (QI Q) :=
  mk_met (by decide) rfl rfl (by
    intro w hw x9 e9
    subst e9
    simp at hw) (Nat.le_of_ble_eq_true rfl) (s_pad (L1 := [some (.ref p0), some (.int p1), some (.int p2), none]) 4 rfl (s_aload_n (pc := 0) dX12_set_0 rfl (s_getR (pc := 1) dX12_set_1 f_X12_10 rfl h.1 (s_iload_n (pc := 4) dX12_set_4 rfl (s_callV (pc := 5) (As := [.int p1]) (rest := []) (d' := 0) (mc' := 0) (ms' := 0) dX12_set_5 c_X12_111 (Nat.le_of_ble_eq_true rfl) rfl h.2.1 rfl rfl (Nat.le_of_ble_eq_true rfl) (rm_ok rfl rfl) ⟨Nat.le_refl 0, Nat.le_refl 0⟩ (T_X6_number h.2.2) (kkI (fun r3 M2 h1 => s_istore_n (pc := 8) (L1 := [some (.ref p0), some (.int p1), some (.int p2), some (.int r3)]) dX12_set_8 (Nat.le_of_ble_eq_true rfl) rfl (s_aload_n (pc := 9) dX12_set_9 rfl (s_getR (pc := 10) dX12_set_10 f_X12_10 rfl h1.1 (s_iload_n (pc := 13) dX12_set_13 rfl (s_iload_n (pc := 14) dX12_set_14 rfl (s_callV (pc := 15) (As := [.int p1, .int p2]) (rest := []) (d' := 0) (mc' := 0) (ms' := 0) dX12_set_15 c_X12_114 (Nat.le_of_ble_eq_true rfl) rfl h1.2.1 rfl rfl (Nat.le_of_ble_eq_true rfl) (rm_ok rfl rfl) ⟨Nat.le_refl 0, Nat.le_refl 0⟩ (T_X6_change h1.2.2) (kkI (fun r6 M5 h4 => s_if_eq (pc := 18) (tgt := 25) dX12_set_18 rfl (fun c7 => have h8 := h4.1 c7; s_iconst (pc := 25) dX12_set_25 ci_m1 (s_ireturn (pc := 26) dX12_set_26 rfl (Nat.zero_le _) (Nat.zero_le _) ⟨_, rfl, h8⟩)) (fun c9 => have h10 := h4.2 c9; s_iload_n (pc := 21) dX12_set_21 rfl (s_goto (pc := 22) (tgt := 26) dX12_set_22 rfl (s_ireturn (pc := 26) dX12_set_26 rfl (Nat.zero_le _) (Nat.zero_le _) ⟨_, rfl, h10⟩)))))))))))))))))
/-! X12_sort -/
theorem dX12_sort_0 : cod mX12_sort 0 (.aload_n 0) 1 := by decide +kernel
theorem dX12_sort_1 : cod mX12_sort 1 (.iload_n 1) 1 := by decide +kernel
theorem dX12_sort_2 : cod mX12_sort 2 (.invokevirtual 99) 3 := by decide +kernel
theorem dX12_sort_5 : cod mX12_sort 5 (.ifCond .eq 12) 3 := by decide +kernel
theorem dX12_sort_8 : cod mX12_sort 8 (.iload_n 2) 1 := by decide +kernel
theorem dX12_sort_9 : cod mX12_sort 9 (.ifCond .lt 8) 3 := by decide +kernel
theorem dX12_sort_12 : cod mX12_sort 12 (.iload_n 2) 1 := by decide +kernel
theorem dX12_sort_13 : cod mX12_sort 13 (.iconst 2) 1 := by decide +kernel
theorem dX12_sort_14 : cod mX12_sort 14 (.if_icmp .le 5) 3 := by decide +kernel
theorem dX12_sort_17 : cod mX12_sort 17 (.iconst (-1)) 1 := by decide +kernel
theorem dX12_sort_18 : cod mX12_sort 18 (.ireturn) 1 := by decide +kernel
theorem dX12_sort_19 : cod mX12_sort 19 (.iload_n 2) 1 := by decide +kernel
theorem dX12_sort_20 : cod mX12_sort 20 (.ifCond .ne 15) 3 := by decide +kernel
theorem dX12_sort_23 : cod mX12_sort 23 (.aload_n 0) 1 := by decide +kernel
theorem dX12_sort_24 : cod mX12_sort 24 (.getfield 10) 3 := by decide +kernel
theorem dX12_sort_27 : cod mX12_sort 27 (.getfield 102) 3 := by decide +kernel
theorem dX12_sort_30 : cod mX12_sort 30 (.iload_n 1) 1 := by decide +kernel
theorem dX12_sort_31 : cod mX12_sort 31 (.iaload) 1 := by decide +kernel
theorem dX12_sort_32 : cod mX12_sort 32 (.goto 29) 3 := by decide +kernel
theorem dX12_sort_35 : cod mX12_sort 35 (.iload_n 2) 1 := by decide +kernel
theorem dX12_sort_36 : cod mX12_sort 36 (.iconst 1) 1 := by decide +kernel
theorem dX12_sort_37 : cod mX12_sort 37 (.if_icmp .ne 15) 3 := by decide +kernel
theorem dX12_sort_40 : cod mX12_sort 40 (.aload_n 0) 1 := by decide +kernel
theorem dX12_sort_41 : cod mX12_sort 41 (.getfield 10) 3 := by decide +kernel
theorem dX12_sort_44 : cod mX12_sort 44 (.getfield 105) 3 := by decide +kernel
theorem dX12_sort_47 : cod mX12_sort 47 (.iload_n 1) 1 := by decide +kernel
theorem dX12_sort_48 : cod mX12_sort 48 (.iaload) 1 := by decide +kernel
theorem dX12_sort_49 : cod mX12_sort 49 (.goto 12) 3 := by decide +kernel
theorem dX12_sort_52 : cod mX12_sort 52 (.aload_n 0) 1 := by decide +kernel
theorem dX12_sort_53 : cod mX12_sort 53 (.getfield 10) 3 := by decide +kernel
theorem dX12_sort_56 : cod mX12_sort 56 (.getfield 108) 3 := by decide +kernel
theorem dX12_sort_59 : cod mX12_sort 59 (.iload_n 1) 1 := by decide +kernel
theorem dX12_sort_60 : cod mX12_sort 60 (.iaload) 1 := by decide +kernel
theorem dX12_sort_61 : cod mX12_sort 61 (.ireturn) 1 := by decide +kernel
def wp_X12_sort (p0 : Nat) (p1 : Int32) (p2 : Int32) (M : Mem) (Q : Int32 → Mem → Prop) : Prop := mK M p0 = 13 ∧ wp_X12_isSort p0 p1 M (fun r3 M2 => (r3 = (0 : Int32) → Q (-1) M2) ∧ (¬ r3 = (0 : Int32) → (p2 < (0 : Int32) → Q (-1) M2) ∧ (¬ p2 < (0 : Int32) → (p2 ≤ (2 : Int32) → (¬ p2 = (0 : Int32) → (¬ p2 = (1 : Int32) → mK M2 p0 = 13 ∧ mK M2 (mR M2 p0 0) = 7 ∧ mK M2 (mR M2 (mR M2 p0 0) 6) = 20 ∧ vp_in p1 (mN M2 (mR M2 (mR M2 p0 0) 6)) ∧ Q (mI M2 (mR M2 (mR M2 p0 0) 6) p1.toNatClampNeg) M2) ∧ (p2 = (1 : Int32) → mK M2 p0 = 13 ∧ mK M2 (mR M2 p0 0) = 7 ∧ mK M2 (mR M2 (mR M2 p0 0) 5) = 20 ∧ vp_in p1 (mN M2 (mR M2 (mR M2 p0 0) 5)) ∧ Q (mI M2 (mR M2 (mR M2 p0 0) 5) p1.toNatClampNeg) M2)) ∧ (p2 = (0 : Int32) → mK M2 p0 = 13 ∧ mK M2 (mR M2 p0 0) = 7 ∧ mK M2 (mR M2 (mR M2 p0 0) 4) = 20 ∧ vp_in p1 (mN M2 (mR M2 (mR M2 p0 0) 4)) ∧ Q (mI M2 (mR M2 (mR M2 p0 0) 4) p1.toNatClampNeg) M2)) ∧ (¬ p2 ≤ (2 : Int32) → Q (-1) M2))))
theorem T_X12_sort {G : GG} {Q : Int32 → Mem → Prop} {M : Mem} {p0 : Nat} {p1 : Int32} {p2 : Int32} (h : wp_X12_sort p0 p1 p2 M Q) : PMet G mX12_sort 1 0 0 [.ref p0, .int p1, .int p2] M (QI Q) :=
  mk_met (by decide) rfl rfl (by
    intro w hw x9 e9
    subst e9
    simp at hw) (Nat.le_of_ble_eq_true rfl) (s_pad (L1 := [some (.ref p0), some (.int p1), some (.int p2)]) 3 rfl (s_aload_n (pc := 0) dX12_sort_0 rfl (s_iload_n (pc := 1) dX12_sort_1 rfl (s_callV (pc := 2) (As := [.int p1]) (rest := []) (d' := 0) (mc' := 0) (ms' := 0) dX12_sort_2 c_X12_99 (Nat.le_of_ble_eq_true rfl) rfl h.1 rfl rfl (Nat.le_of_ble_eq_true rfl) (rm_ok rfl rfl) ⟨Nat.le_refl 0, Nat.le_refl 0⟩ (T_X12_isSort h.2) (kkI (fun r3 M2 h1 => s_if_eq (pc := 5) (tgt := 17) dX12_sort_5 rfl (fun c4 => have h5 := h1.1 c4; s_iconst (pc := 17) dX12_sort_17 ci_m1 (s_ireturn (pc := 18) dX12_sort_18 rfl (Nat.zero_le _) (Nat.zero_le _) ⟨_, rfl, h5⟩)) (fun c6 => have h7 := h1.2 c6; s_iload_n (pc := 8) dX12_sort_8 rfl (s_if_lt (pc := 9) (tgt := 17) dX12_sort_9 rfl (fun c8 => have h9 := h7.1 c8; s_iconst (pc := 17) dX12_sort_17 ci_m1 (s_ireturn (pc := 18) dX12_sort_18 rfl (Nat.zero_le _) (Nat.zero_le _) ⟨_, rfl, h9⟩)) (fun c10 => have h11 := h7.2 c10; s_iload_n (pc := 12) dX12_sort_12 rfl (s_iconst (pc := 13) dX12_sort_13 ci_2 (s_icmp_le (pc := 14) (tgt := 19) dX12_sort_14 rfl (fun c12 => have h13 := h11.1 c12; s_iload_n (pc := 19) dX12_sort_19 rfl (s_if_ne (pc := 20) (tgt := 35) dX12_sort_20 rfl (fun c16 => have h17 := h13.1 c16; s_iload_n (pc := 35) dX12_sort_35 rfl (s_iconst (pc := 36) dX12_sort_36 ci_1 (s_icmp_ne (pc := 37) (tgt := 52) dX12_sort_37 rfl (fun c20 => have h21 := h17.1 c20; s_aload_n (pc := 52) dX12_sort_52 rfl (s_getR (pc := 53) dX12_sort_53 f_X12_10 rfl h21.1 (s_getR (pc := 56) dX12_sort_56 f_X12_108 rfl h21.2.1 (s_iload_n (pc := 59) dX12_sort_59 rfl (s_ial (pc := 60) dX12_sort_60 h21.2.2.1 h21.2.2.2.1 (s_ireturn (pc := 61) dX12_sort_61 rfl (Nat.zero_le _) (Nat.zero_le _) ⟨_, rfl, h21.2.2.2.2⟩)))))) (fun c22 => have h23 := h17.2 c22; s_aload_n (pc := 40) dX12_sort_40 rfl (s_getR (pc := 41) dX12_sort_41 f_X12_10 rfl h23.1 (s_getR (pc := 44) dX12_sort_44 f_X12_105 rfl h23.2.1 (s_iload_n (pc := 47) dX12_sort_47 rfl (s_ial (pc := 48) dX12_sort_48 h23.2.2.1 h23.2.2.2.1 (s_goto (pc := 49) (tgt := 61) dX12_sort_49 rfl (s_ireturn (pc := 61) dX12_sort_61 rfl (Nat.zero_le _) (Nat.zero_le _) ⟨_, rfl, h23.2.2.2.2⟩)))))))))) (fun c18 => have h19 := h13.2 c18; s_aload_n (pc := 23) dX12_sort_23 rfl (s_getR (pc := 24) dX12_sort_24 f_X12_10 rfl h19.1 (s_getR (pc := 27) dX12_sort_27 f_X12_102 rfl h19.2.1 (s_iload_n (pc := 30) dX12_sort_30 rfl (s_ial (pc := 31) dX12_sort_31 h19.2.2.1 h19.2.2.2.1 (s_goto (pc := 32) (tgt := 61) dX12_sort_32 rfl (s_ireturn (pc := 61) dX12_sort_61 rfl (Nat.zero_le _) (Nat.zero_le _) ⟨_, rfl, h19.2.2.2.2⟩))))))))) (fun c14 => have h15 := h11.2 c14; s_iconst (pc := 17) dX12_sort_17 ci_m1 (s_ireturn (pc := 18) dX12_sort_18 rfl (Nat.zero_le _) (Nat.zero_le _) ⟨_, rfl, h15⟩)))))))))))))
/-! X3_width -/
theorem dX3_width_0 : cod mX3_width 0 (.aload_n 0) 1 := by decide +kernel
theorem dX3_width_1 : cod mX3_width 1 (.invokespecial 20) 3 := by decide +kernel
theorem dX3_width_4 : cod mX3_width 4 (.iconst 1) 1 := by decide +kernel
theorem dX3_width_5 : cod mX3_width 5 (.iadd) 1 := by decide +kernel
theorem dX3_width_6 : cod mX3_width 6 (.ireturn) 1 := by decide +kernel
def wp_X3_width (p0 : Nat) (M : Mem) (Q : Int32 → Mem → Prop) : Prop := isW M p0 ∧ wp_X2_width p0 M (fun r3 M2 => Q (r3 + 1) M2)
theorem T_X3_width {G : GG} {Q : Int32 → Mem → Prop} {M : Mem} {p0 : Nat} (h : wp_X3_width p0 M Q) : PMet G mX3_width 1 0 0 [.ref p0] M (QI Q) :=
  mk_met (by decide) rfl rfl (by
    intro w hw x9 e9
    subst e9
    simp at hw) (Nat.le_of_ble_eq_true rfl) (s_pad (L1 := [some (.ref p0)]) 1 rfl (s_aload_n (pc := 0) dX3_width_0 rfl (s_callUW (pc := 1) (As := []) (rest := []) (d' := 0) (mc' := 0) (ms' := 0) dX3_width_1 c_X3_20 h.1 rfl rfl (Nat.le_of_ble_eq_true rfl) (rm_ok rfl rfl) ⟨Nat.le_refl 0, Nat.le_refl 0⟩ (T_X2_width h.2) (kkI (fun r3 M2 h1 => s_iconst (pc := 4) dX3_width_4 ci_1 (s_iadd (pc := 5) dX3_width_5 (s_ireturn (pc := 6) dX3_width_6 rfl (Nat.zero_le _) (Nat.zero_le _) ⟨_, rfl, h1⟩)))))))
/-! X8_width -/
theorem dX8_width_0 : cod mX8_width 0 (.aload_n 0) 1 := by decide +kernel
theorem dX8_width_1 : cod mX8_width 1 (.invokespecial 19) 3 := by decide +kernel
theorem dX8_width_4 : cod mX8_width 4 (.aload_n 0) 1 := by decide +kernel
theorem dX8_width_5 : cod mX8_width 5 (.getfield 13) 3 := by decide +kernel
theorem dX8_width_8 : cod mX8_width 8 (.isub) 1 := by decide +kernel
theorem dX8_width_9 : cod mX8_width 9 (.ireturn) 1 := by decide +kernel
def wp_X8_width (p0 : Nat) (M : Mem) (Q : Int32 → Mem → Prop) : Prop := isW M p0 ∧ wp_X11_width p0 M (fun r3 M2 => isW M2 p0 ∧ Q (r3 - (mI M2 p0 0)) M2)
theorem T_X8_width {G : GG} {Q : Int32 → Mem → Prop} {M : Mem} {p0 : Nat} (h : wp_X8_width p0 M Q) : PMet G mX8_width 1 0 0 [.ref p0] M (QI Q) :=
  mk_met (by decide) rfl rfl (by
    intro w hw x9 e9
    subst e9
    simp at hw) (Nat.le_of_ble_eq_true rfl) (s_pad (L1 := [some (.ref p0)]) 1 rfl (s_aload_n (pc := 0) dX8_width_0 rfl (s_callUW (pc := 1) (As := []) (rest := []) (d' := 0) (mc' := 0) (ms' := 0) dX8_width_1 c_X8_19 h.1 rfl rfl (Nat.le_of_ble_eq_true rfl) (rm_ok rfl rfl) ⟨Nat.le_refl 0, Nat.le_refl 0⟩ (T_X11_width h.2) (kkI (fun r3 M2 h1 => s_aload_n (pc := 4) dX8_width_4 rfl (s_getW (pc := 5) dX8_width_5 f_X8_13 h1.1 (s_isub (pc := 8) dX8_width_8 (s_ireturn (pc := 9) dX8_width_9 rfl (Nat.zero_le _) (Nat.zero_le _) ⟨_, rfl, h1.2⟩))))))))
/-! X1_width -/
theorem dX1_width_0 : cod mX1_width 0 (.aload_n 0) 1 := by decide +kernel
theorem dX1_width_1 : cod mX1_width 1 (.invokespecial 24) 3 := by decide +kernel
theorem dX1_width_4 : cod mX1_width 4 (.iconst 2) 1 := by decide +kernel
theorem dX1_width_5 : cod mX1_width 5 (.idiv) 1 := by decide +kernel
theorem dX1_width_6 : cod mX1_width 6 (.ireturn) 1 := by decide +kernel
def wp_X1_width (p0 : Nat) (M : Mem) (Q : Int32 → Mem → Prop) : Prop := isW M p0 ∧ wp_X8_width p0 M (fun r3 M2 => Q (r3 / 2) M2)
theorem T_X1_width {G : GG} {Q : Int32 → Mem → Prop} {M : Mem} {p0 : Nat} (h : wp_X1_width p0 M Q) : PMet G mX1_width 2 0 0 [.ref p0] M (QI Q) :=
  mk_met (by decide) rfl rfl (by
    intro w hw x9 e9
    subst e9
    simp at hw) (Nat.le_of_ble_eq_true rfl) (s_pad (L1 := [some (.ref p0)]) 1 rfl (s_aload_n (pc := 0) dX1_width_0 rfl (s_callUW (pc := 1) (As := []) (rest := []) (d' := 1) (mc' := 0) (ms' := 0) dX1_width_1 c_X1_24 h.1 rfl rfl (Nat.le_of_ble_eq_true rfl) (rm_ok rfl rfl) ⟨Nat.le_refl 0, Nat.le_refl 0⟩ (T_X8_width h.2) (kkI (fun r3 M2 h1 => s_iconst (pc := 4) dX1_width_4 ci_2 (s_idiv (pc := 5) dX1_width_5 (by decide) (s_ireturn (pc := 6) dX1_width_6 rfl (Nat.zero_le _) (Nat.zero_le _) ⟨_, rfl, h1⟩)))))))
/-! X12_spread -/
def wv_X11_width (p0 : Nat) (M : Mem) (Q : Int32 → Mem → Prop) : Prop := (mK M p0 = 12 → wp_X11_width p0 M Q) ∧ (mK M p0 = 3 → wp_X2_width p0 M Q) ∧ (mK M p0 = 4 → wp_X3_width p0 M Q) ∧ (mK M p0 = 9 → wp_X8_width p0 M Q) ∧ (mK M p0 = 2 → wp_X1_width p0 M Q) ∧ (mK M p0 = 11 → wp_X10_width p0 M Q)
theorem dX12_spread_0 : cod mX12_spread 0 (.aload_n 0) 1 := by decide +kernel
theorem dX12_spread_1 : cod mX12_spread 1 (.iload_n 1) 1 := by decide +kernel
theorem dX12_spread_2 : cod mX12_spread 2 (.invokevirtual 352) 3 := by decide +kernel
theorem dX12_spread_5 : cod mX12_spread 5 (.astore_n 2) 1 := by decide +kernel
theorem dX12_spread_6 : cod mX12_spread 6 (.aload_n 2) 1 := by decide +kernel
theorem dX12_spread_7 : cod mX12_spread 7 (.ifnonnull 11) 3 := by decide +kernel
theorem dX12_spread_10 : cod mX12_spread 10 (.aload_n 0) 1 := by decide +kernel
theorem dX12_spread_11 : cod mX12_spread 11 (.iload_n 1) 1 := by decide +kernel
theorem dX12_spread_12 : cod mX12_spread 12 (.invokevirtual 67) 3 := by decide +kernel
theorem dX12_spread_15 : cod mX12_spread 15 (.goto 7) 3 := by decide +kernel
theorem dX12_spread_18 : cod mX12_spread 18 (.aload_n 2) 1 := by decide +kernel
theorem dX12_spread_19 : cod mX12_spread 19 (.invokevirtual 355) 3 := by decide +kernel
theorem dX12_spread_22 : cod mX12_spread 22 (.ireturn) 1 := by decide +kernel
def wp_X12_spread (p0 : Nat) (p1 : Int32) (M : Mem) (Q : Int32 → Mem → Prop) : Prop := mK M p0 = 13 ∧ wp_X12_wayOn p0 p1 M (fun r3 M2 => (¬ r3 = 0 → isW M2 r3 ∧ wv_X11_width r3 M2 (fun r10 M9 => Q r10 M9)) ∧ (r3 = 0 → mK M2 p0 = 13 ∧ wp_X12_whyNot p0 p1 M2 (fun r13 M12 => Q r13 M12)))
theorem T_X12_spread {G : GG} {Q : Int32 → Mem → Prop} {M : Mem} {p0 : Nat} {p1 : Int32} (h : wp_X12_spread p0 p1 M Q) : PMet G mX12_spread 3 0 0 [.ref p0, .int p1] M (QI Q) :=
  mk_met (by decide) rfl rfl (by
    intro w hw x9 e9
    subst e9
    simp at hw) (Nat.le_of_ble_eq_true rfl) (s_pad (L1 := [some (.ref p0), some (.int p1), none]) 3 rfl (s_aload_n (pc := 0) dX12_spread_0 rfl (s_iload_n (pc := 1) dX12_spread_1 rfl (s_callV (pc := 2) (As := [.int p1]) (rest := []) (d' := 1) (mc' := 0) (ms' := 0) dX12_spread_2 c_X12_352 (Nat.le_of_ble_eq_true rfl) rfl h.1 rfl rfl (Nat.le_of_ble_eq_true rfl) (rm_ok rfl rfl) ⟨Nat.le_refl 0, Nat.le_refl 0⟩ (T_X12_wayOn h.2) (kkR (fun r3 M2 h1 => s_astore_n (pc := 5) (L1 := [some (.ref p0), some (.int p1), some (.ref r3)]) dX12_spread_5 (Nat.le_of_ble_eq_true rfl) rfl (s_aload_n (pc := 6) dX12_spread_6 rfl (s_ifnonnull (pc := 7) (tgt := 18) dX12_spread_7 rfl (fun c4 => have h5 := h1.1 c4; s_aload_n (pc := 18) dX12_spread_18 rfl (s_callW (pc := 19) (Q' := QI (fun r10 M9 => Q r10 M9)) (As := []) (rest := []) dX12_spread_19 h5.1 rfl rfl (Nat.le_of_ble_eq_true rfl) (by
    intro c hc6 hk
    rcases hc6 with rfl | rfl | rfl | rfl | rfl | rfl
    · exact ⟨mX11_width, 0, Or.inl ⟨c_X12_355, rfl⟩, rm_ok rfl rfl, T_X11_width (h5.2.1 hk)⟩
    · exact ⟨mX2_width, 0, Or.inr ⟨mX11_width, c_X12_355_2⟩, rm_ok rfl rfl, T_X2_width (h5.2.2.1 hk)⟩
    · exact ⟨mX3_width, 1, Or.inr ⟨mX11_width, c_X12_355_3⟩, rm_ok rfl rfl, T_X3_width (h5.2.2.2.1 hk)⟩
    · exact ⟨mX8_width, 1, Or.inr ⟨mX11_width, c_X12_355_8⟩, rm_ok rfl rfl, T_X8_width (h5.2.2.2.2.1 hk)⟩
    · exact ⟨mX1_width, 2, Or.inr ⟨mX11_width, c_X12_355_1⟩, rm_ok rfl rfl, T_X1_width (h5.2.2.2.2.2.1 hk)⟩
    · exact ⟨mX10_width, 1, Or.inr ⟨mX11_width, c_X12_355_10⟩, rm_ok rfl rfl, T_X10_width (h5.2.2.2.2.2.2 hk)⟩) ⟨Nat.le_refl 0, Nat.le_refl 0⟩ (kkI (fun r10 M9 h8 => s_ireturn (pc := 22) dX12_spread_22 rfl (Nat.zero_le _) (Nat.zero_le _) ⟨_, rfl, h8⟩)))) (fun c6 => have h7 := h1.2 c6; s_aload_n (pc := 10) dX12_spread_10 rfl (s_iload_n (pc := 11) dX12_spread_11 rfl (s_callV (pc := 12) (As := [.int p1]) (rest := []) (d' := 1) (mc' := 0) (ms' := 0) dX12_spread_12 c_X12_67 (Nat.le_of_ble_eq_true rfl) rfl h7.1 rfl rfl (Nat.le_of_ble_eq_true rfl) (rm_ok rfl rfl) ⟨Nat.le_refl 0, Nat.le_refl 0⟩ (T_X12_whyNot h7.2) (kkI (fun r13 M12 h11 => s_goto (pc := 15) (tgt := 22) dX12_spread_15 rfl (s_ireturn (pc := 22) dX12_spread_22 rfl (Nat.zero_le _) (Nat.zero_le _) ⟨_, rfl, h11⟩))))))))))))))
/-! X7_beginNumber -/
theorem dX7_beginNumber_0 : cod mX7_beginNumber 0 (.aload_n 0) 1 := by decide +kernel
theorem dX7_beginNumber_1 : cod mX7_beginNumber 1 (.iload_n 1) 1 := by decide +kernel
theorem dX7_beginNumber_2 : cod mX7_beginNumber 2 (.putfield 46) 3 := by decide +kernel
theorem dX7_beginNumber_5 : cod mX7_beginNumber 5 (.aload_n 0) 1 := by decide +kernel
theorem dX7_beginNumber_6 : cod mX7_beginNumber 6 (.iconst 0) 1 := by decide +kernel
theorem dX7_beginNumber_7 : cod mX7_beginNumber 7 (.putfield 43) 3 := by decide +kernel
theorem dX7_beginNumber_10 : cod mX7_beginNumber 10 (.iload_n 1) 1 := by decide +kernel
theorem dX7_beginNumber_11 : cod mX7_beginNumber 11 (.ifCond .lt 19) 3 := by decide +kernel
theorem dX7_beginNumber_14 : cod mX7_beginNumber 14 (.iload_n 1) 1 := by decide +kernel
theorem dX7_beginNumber_15 : cod mX7_beginNumber 15 (.aload_n 0) 1 := by decide +kernel
theorem dX7_beginNumber_16 : cod mX7_beginNumber 16 (.getfield 7) 3 := by decide +kernel
theorem dX7_beginNumber_19 : cod mX7_beginNumber 19 (.arraylength) 1 := by decide +kernel
theorem dX7_beginNumber_20 : cod mX7_beginNumber 20 (.if_icmp .ge 10) 3 := by decide +kernel
theorem dX7_beginNumber_23 : cod mX7_beginNumber 23 (.aload_n 0) 1 := by decide +kernel
theorem dX7_beginNumber_24 : cod mX7_beginNumber 24 (.getfield 7) 3 := by decide +kernel
theorem dX7_beginNumber_27 : cod mX7_beginNumber 27 (.iload_n 1) 1 := by decide +kernel
theorem dX7_beginNumber_28 : cod mX7_beginNumber 28 (.iconst 0) 1 := by decide +kernel
theorem dX7_beginNumber_29 : cod mX7_beginNumber 29 (.iastore) 1 := by decide +kernel
theorem dX7_beginNumber_30 : cod mX7_beginNumber 30 (.return_) 1 := by decide +kernel
def wp_X7_beginNumber (p0 : Nat) (p1 : Int32) (M : Mem) (Q : Mem → Prop) : Prop := mK M p0 = 8 ∧ ∀ M1 : Mem, M1 = uI M p0 1 p1 → ∀ M4 : Mem, M4 = uI M1 p0 2 0 → (p1 < (0 : Int32) → Q M4) ∧ (¬ p1 < (0 : Int32) → mK M4 (mR M4 p0 3) = 20 ∧ ((Int32.ofNat (mN M4 (mR M4 p0 3))) ≤ p1 → Q M4) ∧ (¬ (Int32.ofNat (mN M4 (mR M4 p0 3))) ≤ p1 → vp_in p1 (mN M4 (mR M4 p0 3)) ∧ ∀ M15 : Mem, M15 = uI M4 (mR M4 p0 3) p1.toNatClampNeg 0 → Q M15))
theorem T_X7_beginNumber {G : GG} {Q : Mem → Prop} {M : Mem} {p0 : Nat} {p1 : Int32} (h : wp_X7_beginNumber p0 p1 M Q) : PMet G mX7_beginNumber 0 0 0 [.ref p0, .int p1] M (QV Q) :=
  mk_met (by decide) rfl rfl (by
    intro w hw x9 e9
    subst e9
    simp at hw) (Nat.le_of_ble_eq_true rfl) (s_pad (L1 := [some (.ref p0), some (.int p1)]) 2 rfl (s_aload_n (pc := 0) dX7_beginNumber_0 rfl (s_iload_n (pc := 1) dX7_beginNumber_1 rfl (s_putI (pc := 2) dX7_beginNumber_2 f_X7_46 (Or.inl rfl) (Or.inl rfl) h.1 (nmM (fun M1 e2 => have h3 := h.2 M1 e2; s_aload_n (pc := 5) dX7_beginNumber_5 rfl (s_iconst (pc := 6) dX7_beginNumber_6 ci_0 (s_putI (pc := 7) dX7_beginNumber_7 f_X7_43 (Or.inl rfl) (Or.inl rfl) ((congrFun (congrArg mK e2) p0).trans h.1) (nmM (fun M4 e5 => have h6 := h3 M4 e5; s_iload_n (pc := 10) dX7_beginNumber_10 rfl (s_if_lt (pc := 11) (tgt := 30) dX7_beginNumber_11 rfl (fun c7 => have h8 := h6.1 c7; s_return (pc := 30) dX7_beginNumber_30 rfl (Nat.zero_le _) (Nat.zero_le _) ⟨rfl, h8⟩) (fun c9 => have h10 := h6.2 c9; s_iload_n (pc := 14) dX7_beginNumber_14 rfl (s_aload_n (pc := 15) dX7_beginNumber_15 rfl (s_getR (pc := 16) dX7_beginNumber_16 f_X7_7 rfl ((congrFun (congrArg mK e5) p0).trans ((congrFun (congrArg mK e2) p0).trans h.1)) (s_alen (pc := 19) (t := 0) dX7_beginNumber_19 (Nat.le_of_ble_eq_true rfl) h10.1 rfl (s_icmp_ge (pc := 20) (tgt := 30) dX7_beginNumber_20 rfl (fun c11 => have h12 := h10.2.1 c11; s_return (pc := 30) dX7_beginNumber_30 rfl (Nat.zero_le _) (Nat.zero_le _) ⟨rfl, h12⟩) (fun c13 => have h14 := h10.2.2 c13; s_aload_n (pc := 23) dX7_beginNumber_23 rfl (s_getR (pc := 24) dX7_beginNumber_24 f_X7_7 rfl ((congrFun (congrArg mK e5) p0).trans ((congrFun (congrArg mK e2) p0).trans h.1)) (s_iload_n (pc := 27) dX7_beginNumber_27 rfl (s_iconst (pc := 28) dX7_beginNumber_28 ci_0 (s_ias (pc := 29) dX7_beginNumber_29 h10.1 h14.1 (nmM (fun M15 e16 => have h17 := (h14.2) M15 e16; s_return (pc := 30) dX7_beginNumber_30 rfl (Nat.zero_le _) (Nat.zero_le _) ⟨rfl, h17⟩)))))))))))))))))))))))
/-! X7_begins -/
theorem dX7_begins_0 : cod mX7_begins 0 (.iload_n 1) 1 := by decide +kernel
theorem dX7_begins_1 : cod mX7_begins 1 (.bipush 119) 2 := by decide +kernel
theorem dX7_begins_3 : cod mX7_begins 3 (.if_icmp .eq 29) 3 := by decide +kernel
theorem dX7_begins_6 : cod mX7_begins 6 (.iload_n 1) 1 := by decide +kernel
theorem dX7_begins_7 : cod mX7_begins 7 (.bipush 99) 2 := by decide +kernel
theorem dX7_begins_9 : cod mX7_begins 9 (.if_icmp .eq 23) 3 := by decide +kernel
theorem dX7_begins_12 : cod mX7_begins 12 (.iload_n 1) 1 := by decide +kernel
theorem dX7_begins_13 : cod mX7_begins 13 (.bipush 109) 2 := by decide +kernel
theorem dX7_begins_15 : cod mX7_begins 15 (.if_icmp .eq 17) 3 := by decide +kernel
theorem dX7_begins_18 : cod mX7_begins 18 (.iload_n 1) 1 := by decide +kernel
theorem dX7_begins_19 : cod mX7_begins 19 (.bipush 107) 2 := by decide +kernel
theorem dX7_begins_21 : cod mX7_begins 21 (.if_icmp .eq 11) 3 := by decide +kernel
theorem dX7_begins_24 : cod mX7_begins 24 (.iload_n 1) 1 := by decide +kernel
theorem dX7_begins_25 : cod mX7_begins 25 (.bipush 104) 2 := by decide +kernel
theorem dX7_begins_27 : cod mX7_begins 27 (.if_icmp .eq 5) 3 := by decide +kernel
theorem dX7_begins_30 : cod mX7_begins 30 (.iconst 0) 1 := by decide +kernel
theorem dX7_begins_31 : cod mX7_begins 31 (.ireturn) 1 := by decide +kernel
theorem dX7_begins_32 : cod mX7_begins 32 (.aload_n 0) 1 := by decide +kernel
theorem dX7_begins_33 : cod mX7_begins 33 (.iload_n 1) 1 := by decide +kernel
theorem dX7_begins_34 : cod mX7_begins 34 (.putfield 17) 3 := by decide +kernel
theorem dX7_begins_37 : cod mX7_begins 37 (.aload_n 0) 1 := by decide +kernel
theorem dX7_begins_38 : cod mX7_begins 38 (.iconst 0) 1 := by decide +kernel
theorem dX7_begins_39 : cod mX7_begins 39 (.invokevirtual 53) 3 := by decide +kernel
theorem dX7_begins_42 : cod mX7_begins 42 (.iconst 1) 1 := by decide +kernel
theorem dX7_begins_43 : cod mX7_begins 43 (.ireturn) 1 := by decide +kernel
def jn_X7_begins_32 (Q : Int32 → Mem → Prop) (x0 : Nat) (x1 : Int32) (M : Mem) : Prop := mK M x0 = 8 ∧ ∀ M5 : Mem, M5 = uI M x0 0 x1 → wp_X7_beginNumber x0 0 M5 (fun M9 => Q 1 M9)
theorem P_jn_X7_begins_32 {G : GG} {Q : Int32 → Mem → Prop} (x0 : Nat) (x1 : Int32) (M : Mem) (h : jn_X7_begins_32 Q x0 x1 M) : PW G mX7_begins (rmD 1 0 0) (QI Q) 32 [some (.ref x0), some (.int x1)] [] M 0 0 := (s_aload_n (pc := 32) dX7_begins_32 rfl (s_iload_n (pc := 33) dX7_begins_33 rfl (s_putI (pc := 34) dX7_begins_34 f_X7_17 (Or.inl rfl) (Or.inl rfl) h.1 (nmM (fun M5 e6 => have h7 := h.2 M5 e6; s_aload_n (pc := 37) dX7_begins_37 rfl (s_iconst (pc := 38) dX7_begins_38 ci_0 (s_callV (pc := 39) (As := [.int 0]) (rest := []) (d' := 0) (mc' := 0) (ms' := 0) dX7_begins_39 c_X7_53 (Nat.le_of_ble_eq_true rfl) rfl ((congrFun (congrArg mK e6) x0).trans h.1) rfl rfl (Nat.le_of_ble_eq_true rfl) (rm_ok rfl rfl) ⟨Nat.le_refl 0, Nat.le_refl 0⟩ (T_X7_beginNumber h7) (kkV (fun M9 h8 => s_iconst (pc := 42) dX7_begins_42 ci_1 (s_zreturn (pc := 43) dX7_begins_43 rfl (Or.inr rfl) (Nat.zero_le _) (Nat.zero_le _) ⟨_, rfl, h8⟩))))))))))
def wp_X7_begins (p0 : Nat) (p1 : Int32) (M : Mem) (Q : Int32 → Mem → Prop) : Prop := (p1 = (119 : Int32) → jn_X7_begins_32 Q p0 p1 M) ∧ (¬ p1 = (119 : Int32) → (p1 = (99 : Int32) → jn_X7_begins_32 Q p0 p1 M) ∧ (¬ p1 = (99 : Int32) → (p1 = (109 : Int32) → jn_X7_begins_32 Q p0 p1 M) ∧ (¬ p1 = (109 : Int32) → (p1 = (107 : Int32) → jn_X7_begins_32 Q p0 p1 M) ∧ (¬ p1 = (107 : Int32) → (p1 = (104 : Int32) → jn_X7_begins_32 Q p0 p1 M) ∧ (¬ p1 = (104 : Int32) → Q 0 M)))))
theorem T_X7_begins {G : GG} {Q : Int32 → Mem → Prop} {M : Mem} {p0 : Nat} {p1 : Int32} (h : wp_X7_begins p0 p1 M Q) : PMet G mX7_begins 1 0 0 [.ref p0, .int p1] M (QI Q) :=
  mk_met (by decide) rfl rfl (by
    intro w hw x9 e9
    subst e9
    simp at hw) (Nat.le_of_ble_eq_true rfl) (s_pad (L1 := [some (.ref p0), some (.int p1)]) 2 rfl (s_iload_n (pc := 0) dX7_begins_0 rfl (s_bipush (pc := 1) dX7_begins_1 cb_119 (s_icmp_eq (pc := 3) (tgt := 32) dX7_begins_3 rfl (fun c1 => have h2 := h.1 c1; s_sel (L1 := [some (.ref p0), some (.int p1)]) [true, true] rfl (P_jn_X7_begins_32 p0 p1 M h2)) (fun c3 => have h4 := h.2 c3; s_iload_n (pc := 6) dX7_begins_6 rfl (s_bipush (pc := 7) dX7_begins_7 cb_99 (s_icmp_eq (pc := 9) (tgt := 32) dX7_begins_9 rfl (fun c10 => have h11 := h4.1 c10; s_sel (L1 := [some (.ref p0), some (.int p1)]) [true, true] rfl (P_jn_X7_begins_32 p0 p1 M h11)) (fun c12 => have h13 := h4.2 c12; s_iload_n (pc := 12) dX7_begins_12 rfl (s_bipush (pc := 13) dX7_begins_13 cb_109 (s_icmp_eq (pc := 15) (tgt := 32) dX7_begins_15 rfl (fun c14 => have h15 := h13.1 c14; s_sel (L1 := [some (.ref p0), some (.int p1)]) [true, true] rfl (P_jn_X7_begins_32 p0 p1 M h15)) (fun c16 => have h17 := h13.2 c16; s_iload_n (pc := 18) dX7_begins_18 rfl (s_bipush (pc := 19) dX7_begins_19 cb_107 (s_icmp_eq (pc := 21) (tgt := 32) dX7_begins_21 rfl (fun c18 => have h19 := h17.1 c18; s_sel (L1 := [some (.ref p0), some (.int p1)]) [true, true] rfl (P_jn_X7_begins_32 p0 p1 M h19)) (fun c20 => have h21 := h17.2 c20; s_iload_n (pc := 24) dX7_begins_24 rfl (s_bipush (pc := 25) dX7_begins_25 cb_104 (s_icmp_eq (pc := 27) (tgt := 32) dX7_begins_27 rfl (fun c22 => have h23 := h21.1 c22; s_sel (L1 := [some (.ref p0), some (.int p1)]) [true, true] rfl (P_jn_X7_begins_32 p0 p1 M h23)) (fun c24 => have h25 := h21.2 c24; s_iconst (pc := 30) dX7_begins_30 ci_0 (s_zreturn (pc := 31) dX7_begins_31 rfl (Or.inl rfl) (Nat.zero_le _) (Nat.zero_le _) ⟨_, rfl, h25⟩))))))))))))))))))
/-! X7_takesDigit -/
theorem dX7_takesDigit_0 : cod mX7_takesDigit 0 (.aload_n 0) 1 := by decide +kernel
theorem dX7_takesDigit_1 : cod mX7_takesDigit 1 (.getfield 17) 3 := by decide +kernel
theorem dX7_takesDigit_4 : cod mX7_takesDigit 4 (.bipush 99) 2 := by decide +kernel
theorem dX7_takesDigit_6 : cod mX7_takesDigit 6 (.if_icmp .ne 14) 3 := by decide +kernel
theorem dX7_takesDigit_9 : cod mX7_takesDigit 9 (.aload_n 0) 1 := by decide +kernel
theorem dX7_takesDigit_10 : cod mX7_takesDigit 10 (.getfield 46) 3 := by decide +kernel
theorem dX7_takesDigit_13 : cod mX7_takesDigit 13 (.ifCond .ne 7) 3 := by decide +kernel
theorem dX7_takesDigit_16 : cod mX7_takesDigit 16 (.iconst 1) 1 := by decide +kernel
theorem dX7_takesDigit_17 : cod mX7_takesDigit 17 (.goto 4) 3 := by decide +kernel
theorem dX7_takesDigit_20 : cod mX7_takesDigit 20 (.iconst 3) 1 := by decide +kernel
theorem dX7_takesDigit_21 : cod mX7_takesDigit 21 (.istore_n 2) 1 := by decide +kernel
theorem dX7_takesDigit_22 : cod mX7_takesDigit 22 (.aload_n 0) 1 := by decide +kernel
theorem dX7_takesDigit_23 : cod mX7_takesDigit 23 (.getfield 46) 3 := by decide +kernel
theorem dX7_takesDigit_26 : cod mX7_takesDigit 26 (.ifCond .lt 23) 3 := by decide +kernel
theorem dX7_takesDigit_29 : cod mX7_takesDigit 29 (.aload_n 0) 1 := by decide +kernel
theorem dX7_takesDigit_30 : cod mX7_takesDigit 30 (.getfield 46) 3 := by decide +kernel
theorem dX7_takesDigit_33 : cod mX7_takesDigit 33 (.aload_n 0) 1 := by decide +kernel
theorem dX7_takesDigit_34 : cod mX7_takesDigit 34 (.getfield 7) 3 := by decide +kernel
theorem dX7_takesDigit_37 : cod mX7_takesDigit 37 (.arraylength) 1 := by decide +kernel
theorem dX7_takesDigit_38 : cod mX7_takesDigit 38 (.if_icmp .ge 11) 3 := by decide +kernel
theorem dX7_takesDigit_41 : cod mX7_takesDigit 41 (.aload_n 0) 1 := by decide +kernel
theorem dX7_takesDigit_42 : cod mX7_takesDigit 42 (.getfield 43) 3 := by decide +kernel
theorem dX7_takesDigit_45 : cod mX7_takesDigit 45 (.iload_n 2) 1 := by decide +kernel
theorem dX7_takesDigit_46 : cod mX7_takesDigit 46 (.if_icmp .lt 5) 3 := by decide +kernel
theorem dX7_takesDigit_49 : cod mX7_takesDigit 49 (.iconst 0) 1 := by decide +kernel
theorem dX7_takesDigit_50 : cod mX7_takesDigit 50 (.ireturn) 1 := by decide +kernel
theorem dX7_takesDigit_51 : cod mX7_takesDigit 51 (.aload_n 0) 1 := by decide +kernel
theorem dX7_takesDigit_52 : cod mX7_takesDigit 52 (.getfield 43) 3 := by decide +kernel
theorem dX7_takesDigit_55 : cod mX7_takesDigit 55 (.ifCond .le 17) 3 := by decide +kernel
theorem dX7_takesDigit_58 : cod mX7_takesDigit 58 (.aload_n 0) 1 := by decide +kernel
theorem dX7_takesDigit_59 : cod mX7_takesDigit 59 (.getfield 7) 3 := by decide +kernel
theorem dX7_takesDigit_62 : cod mX7_takesDigit 62 (.aload_n 0) 1 := by decide +kernel
theorem dX7_takesDigit_63 : cod mX7_takesDigit 63 (.getfield 46) 3 := by decide +kernel
theorem dX7_takesDigit_66 : cod mX7_takesDigit 66 (.iaload) 1 := by decide +kernel
theorem dX7_takesDigit_67 : cod mX7_takesDigit 67 (.ifCond .ne 5) 3 := by decide +kernel
theorem dX7_takesDigit_70 : cod mX7_takesDigit 70 (.iconst 0) 1 := by decide +kernel
theorem dX7_takesDigit_71 : cod mX7_takesDigit 71 (.ireturn) 1 := by decide +kernel
theorem dX7_takesDigit_72 : cod mX7_takesDigit 72 (.aload_n 0) 1 := by decide +kernel
theorem dX7_takesDigit_73 : cod mX7_takesDigit 73 (.getfield 7) 3 := by decide +kernel
theorem dX7_takesDigit_76 : cod mX7_takesDigit 76 (.aload_n 0) 1 := by decide +kernel
theorem dX7_takesDigit_77 : cod mX7_takesDigit 77 (.getfield 46) 3 := by decide +kernel
theorem dX7_takesDigit_80 : cod mX7_takesDigit 80 (.aload_n 0) 1 := by decide +kernel
theorem dX7_takesDigit_81 : cod mX7_takesDigit 81 (.getfield 7) 3 := by decide +kernel
theorem dX7_takesDigit_84 : cod mX7_takesDigit 84 (.aload_n 0) 1 := by decide +kernel
theorem dX7_takesDigit_85 : cod mX7_takesDigit 85 (.getfield 46) 3 := by decide +kernel
theorem dX7_takesDigit_88 : cod mX7_takesDigit 88 (.iaload) 1 := by decide +kernel
theorem dX7_takesDigit_89 : cod mX7_takesDigit 89 (.bipush 10) 2 := by decide +kernel
theorem dX7_takesDigit_91 : cod mX7_takesDigit 91 (.imul) 1 := by decide +kernel
theorem dX7_takesDigit_92 : cod mX7_takesDigit 92 (.iload_n 1) 1 := by decide +kernel
theorem dX7_takesDigit_93 : cod mX7_takesDigit 93 (.iadd) 1 := by decide +kernel
theorem dX7_takesDigit_94 : cod mX7_takesDigit 94 (.iastore) 1 := by decide +kernel
theorem dX7_takesDigit_95 : cod mX7_takesDigit 95 (.aload_n 0) 1 := by decide +kernel
theorem dX7_takesDigit_96 : cod mX7_takesDigit 96 (.dup) 1 := by decide +kernel
theorem dX7_takesDigit_97 : cod mX7_takesDigit 97 (.getfield 43) 3 := by decide +kernel
theorem dX7_takesDigit_100 : cod mX7_takesDigit 100 (.iconst 1) 1 := by decide +kernel
theorem dX7_takesDigit_101 : cod mX7_takesDigit 101 (.iadd) 1 := by decide +kernel
theorem dX7_takesDigit_102 : cod mX7_takesDigit 102 (.putfield 43) 3 := by decide +kernel
theorem dX7_takesDigit_105 : cod mX7_takesDigit 105 (.iconst 1) 1 := by decide +kernel
theorem dX7_takesDigit_106 : cod mX7_takesDigit 106 (.ireturn) 1 := by decide +kernel
def jn_X7_takesDigit_72 (Q : Int32 → Mem → Prop) (x0 : Nat) (x1 : Int32) (M : Mem) : Prop := mK M x0 = 8 ∧ mK M (mR M x0 3) = 20 ∧ vp_in (mI M x0 1) (mN M (mR M x0 3)) ∧ vp_in (mI M x0 1) (mN M (mR M x0 3)) ∧ ∀ M21 : Mem, M21 = uI M (mR M x0 3) (mI M x0 1).toNatClampNeg (((mI M (mR M x0 3) (mI M x0 1).toNatClampNeg) * 10) + x1) → ∀ M24 : Mem, M24 = uI M21 x0 2 ((mI M21 x0 2) + 1) → Q 1 M24
theorem P_jn_X7_takesDigit_72 {G : GG} {Q : Int32 → Mem → Prop} (x0 : Nat) (x1 : Int32) (M : Mem) (h : jn_X7_takesDigit_72 Q x0 x1 M) : PW G mX7_takesDigit (rmD 0 0 0) (QI Q) 72 [some (.ref x0), some (.int x1), none] [] M 0 0 := (s_aload_n (pc := 72) dX7_takesDigit_72 rfl (s_getR (pc := 73) dX7_takesDigit_73 f_X7_7 rfl h.1 (s_aload_n (pc := 76) dX7_takesDigit_76 rfl (s_getI (pc := 77) dX7_takesDigit_77 f_X7_46 rfl h.1 (s_aload_n (pc := 80) dX7_takesDigit_80 rfl (s_getR (pc := 81) dX7_takesDigit_81 f_X7_7 rfl h.1 (s_aload_n (pc := 84) dX7_takesDigit_84 rfl (s_getI (pc := 85) dX7_takesDigit_85 f_X7_46 rfl h.1 (s_ial (pc := 88) dX7_takesDigit_88 h.2.1 h.2.2.1 (s_bipush (pc := 89) dX7_takesDigit_89 cb_10 (s_imul (pc := 91) dX7_takesDigit_91 (s_iload_n (pc := 92) dX7_takesDigit_92 rfl (s_iadd (pc := 93) dX7_takesDigit_93 (s_ias (pc := 94) dX7_takesDigit_94 h.2.1 h.2.2.2.1 (nmM (fun M21 e22 => have h23 := (h.2.2.2.2) M21 e22; s_aload_n (pc := 95) dX7_takesDigit_95 rfl (s_dup (pc := 96) dX7_takesDigit_96 rfl (s_getI (pc := 97) dX7_takesDigit_97 f_X7_43 rfl ((congrFun (congrArg mK e22) x0).trans h.1) (s_iconst (pc := 100) dX7_takesDigit_100 ci_1 (s_iadd (pc := 101) dX7_takesDigit_101 (s_putI (pc := 102) dX7_takesDigit_102 f_X7_43 (Or.inl rfl) (Or.inl rfl) ((congrFun (congrArg mK e22) x0).trans h.1) (nmM (fun M24 e25 => have h26 := h23 M24 e25; s_iconst (pc := 105) dX7_takesDigit_105 ci_1 (s_zreturn (pc := 106) dX7_takesDigit_106 rfl (Or.inr rfl) (Nat.zero_le _) (Nat.zero_le _) ⟨_, rfl, h26⟩))))))))))))))))))))))))
def jn_X7_takesDigit_21 (Q : Int32 → Mem → Prop) (x0 : Nat) (x1 : Int32) (s0 : Int32) (M : Mem) : Prop := mK M x0 = 8 ∧ ((mI M x0 1) < (0 : Int32) → Q 0 M) ∧ (¬ (mI M x0 1) < (0 : Int32) → mK M (mR M x0 3) = 20 ∧ ((Int32.ofNat (mN M (mR M x0 3))) ≤ (mI M x0 1) → Q 0 M) ∧ (¬ (Int32.ofNat (mN M (mR M x0 3))) ≤ (mI M x0 1) → ((mI M x0 2) < s0 → ((mI M x0 2) ≤ (0 : Int32) → jn_X7_takesDigit_72 Q x0 x1 M) ∧ (¬ (mI M x0 2) ≤ (0 : Int32) → vp_in (mI M x0 1) (mN M (mR M x0 3)) ∧ (¬ (mI M (mR M x0 3) (mI M x0 1).toNatClampNeg) = (0 : Int32) → jn_X7_takesDigit_72 Q x0 x1 M) ∧ ((mI M (mR M x0 3) (mI M x0 1).toNatClampNeg) = (0 : Int32) → Q 0 M))) ∧ (¬ (mI M x0 2) < s0 → Q 0 M)))
theorem P_jn_X7_takesDigit_21 {G : GG} {Q : Int32 → Mem → Prop} (x0 : Nat) (x1 : Int32) (s0 : Int32) (M : Mem) (h : jn_X7_takesDigit_21 Q x0 x1 s0 M) : PW G mX7_takesDigit (rmD 0 0 0) (QI Q) 21 [some (.ref x0), some (.int x1), none] [.int s0] M 0 0 := (s_istore_n (pc := 21) (L1 := [some (.ref x0), some (.int x1), some (.int s0)]) dX7_takesDigit_21 (Nat.le_of_ble_eq_true rfl) rfl (s_aload_n (pc := 22) dX7_takesDigit_22 rfl (s_getI (pc := 23) dX7_takesDigit_23 f_X7_46 rfl h.1 (s_if_lt (pc := 26) (tgt := 49) dX7_takesDigit_26 rfl (fun c5 => have h6 := h.2.1 c5; s_iconst (pc := 49) dX7_takesDigit_49 ci_0 (s_zreturn (pc := 50) dX7_takesDigit_50 rfl (Or.inl rfl) (Nat.zero_le _) (Nat.zero_le _) ⟨_, rfl, h6⟩)) (fun c7 => have h8 := h.2.2 c7; s_aload_n (pc := 29) dX7_takesDigit_29 rfl (s_getI (pc := 30) dX7_takesDigit_30 f_X7_46 rfl h.1 (s_aload_n (pc := 33) dX7_takesDigit_33 rfl (s_getR (pc := 34) dX7_takesDigit_34 f_X7_7 rfl h.1 (s_alen (pc := 37) (t := 0) dX7_takesDigit_37 (Nat.le_of_ble_eq_true rfl) h8.1 rfl (s_icmp_ge (pc := 38) (tgt := 49) dX7_takesDigit_38 rfl (fun c9 => have h10 := h8.2.1 c9; s_iconst (pc := 49) dX7_takesDigit_49 ci_0 (s_zreturn (pc := 50) dX7_takesDigit_50 rfl (Or.inl rfl) (Nat.zero_le _) (Nat.zero_le _) ⟨_, rfl, h10⟩)) (fun c11 => have h12 := h8.2.2 c11; s_aload_n (pc := 41) dX7_takesDigit_41 rfl (s_getI (pc := 42) dX7_takesDigit_42 f_X7_43 rfl h.1 (s_iload_n (pc := 45) dX7_takesDigit_45 rfl (s_icmp_lt (pc := 46) (tgt := 51) dX7_takesDigit_46 rfl (fun c13 => have h14 := h12.1 c13; s_aload_n (pc := 51) dX7_takesDigit_51 rfl (s_getI (pc := 52) dX7_takesDigit_52 f_X7_43 rfl h.1 (s_if_le (pc := 55) (tgt := 72) dX7_takesDigit_55 rfl (fun c17 => have h18 := h14.1 c17; s_sel (L1 := [some (.ref x0), some (.int x1), none]) [true, true, false] rfl (P_jn_X7_takesDigit_72 x0 x1 M h18)) (fun c19 => have h20 := h14.2 c19; s_aload_n (pc := 58) dX7_takesDigit_58 rfl (s_getR (pc := 59) dX7_takesDigit_59 f_X7_7 rfl h.1 (s_aload_n (pc := 62) dX7_takesDigit_62 rfl (s_getI (pc := 63) dX7_takesDigit_63 f_X7_46 rfl h.1 (s_ial (pc := 66) dX7_takesDigit_66 h8.1 h20.1 (s_if_ne (pc := 67) (tgt := 72) dX7_takesDigit_67 rfl (fun c27 => have h28 := h20.2.1 c27; s_sel (L1 := [some (.ref x0), some (.int x1), none]) [true, true, false] rfl (P_jn_X7_takesDigit_72 x0 x1 M h28)) (fun c29 => have h30 := h20.2.2 c29; s_iconst (pc := 70) dX7_takesDigit_70 ci_0 (s_zreturn (pc := 71) dX7_takesDigit_71 rfl (Or.inl rfl) (Nat.zero_le _) (Nat.zero_le _) ⟨_, rfl, h30⟩))))))))))) (fun c15 => have h16 := h12.2 c15; s_iconst (pc := 49) dX7_takesDigit_49 ci_0 (s_zreturn (pc := 50) dX7_takesDigit_50 rfl (Or.inl rfl) (Nat.zero_le _) (Nat.zero_le _) ⟨_, rfl, h16⟩))))))))))))))))
def jn_X7_takesDigit_20 (Q : Int32 → Mem → Prop) (x0 : Nat) (x1 : Int32) (M : Mem) : Prop := jn_X7_takesDigit_21 Q x0 x1 3 M
theorem P_jn_X7_takesDigit_20 {G : GG} {Q : Int32 → Mem → Prop} (x0 : Nat) (x1 : Int32) (M : Mem) (h : jn_X7_takesDigit_20 Q x0 x1 M) : PW G mX7_takesDigit (rmD 0 0 0) (QI Q) 20 [some (.ref x0), some (.int x1), none] [] M 0 0 := (s_iconst (pc := 20) dX7_takesDigit_20 ci_3 (s_sel (L1 := [some (.ref x0), some (.int x1), none]) [true, true, false] rfl (P_jn_X7_takesDigit_21 x0 x1 3 M h)))
def wp_X7_takesDigit (p0 : Nat) (p1 : Int32) (M : Mem) (Q : Int32 → Mem → Prop) : Prop := mK M p0 = 8 ∧ (¬ (mI M p0 0) = (99 : Int32) → jn_X7_takesDigit_20 Q p0 p1 M) ∧ ((mI M p0 0) = (99 : Int32) → (¬ (mI M p0 1) = (0 : Int32) → jn_X7_takesDigit_20 Q p0 p1 M) ∧ ((mI M p0 1) = (0 : Int32) → jn_X7_takesDigit_21 Q p0 p1 1 M))
theorem T_X7_takesDigit {G : GG} {Q : Int32 → Mem → Prop} {M : Mem} {p0 : Nat} {p1 : Int32} (h : wp_X7_takesDigit p0 p1 M Q) : PMet G mX7_takesDigit 0 0 0 [.ref p0, .int p1] M (QI Q) :=
  mk_met (by decide) rfl rfl (by
    intro w hw x9 e9
    subst e9
    simp at hw) (Nat.le_of_ble_eq_true rfl) (s_pad (L1 := [some (.ref p0), some (.int p1), none]) 3 rfl (s_aload_n (pc := 0) dX7_takesDigit_0 rfl (s_getI (pc := 1) dX7_takesDigit_1 f_X7_17 rfl h.1 (s_bipush (pc := 4) dX7_takesDigit_4 cb_99 (s_icmp_ne (pc := 6) (tgt := 20) dX7_takesDigit_6 rfl (fun c1 => have h2 := h.2.1 c1; s_sel (L1 := [some (.ref p0), some (.int p1), none]) [true, true, false] rfl (P_jn_X7_takesDigit_20 p0 p1 M h2)) (fun c3 => have h4 := h.2.2 c3; s_aload_n (pc := 9) dX7_takesDigit_9 rfl (s_getI (pc := 10) dX7_takesDigit_10 f_X7_46 rfl h.1 (s_if_ne (pc := 13) (tgt := 20) dX7_takesDigit_13 rfl (fun c31 => have h32 := h4.1 c31; s_sel (L1 := [some (.ref p0), some (.int p1), none]) [true, true, false] rfl (P_jn_X7_takesDigit_20 p0 p1 M h32)) (fun c33 => have h34 := h4.2 c33; s_iconst (pc := 16) dX7_takesDigit_16 ci_1 (s_goto (pc := 17) (tgt := 21) dX7_takesDigit_17 rfl (s_sel (L1 := [some (.ref p0), some (.int p1), none]) [true, true, false] rfl (P_jn_X7_takesDigit_21 p0 p1 1 M h34))))))))))))
/-! X7_lastField -/
theorem dX7_lastField_0 : cod mX7_lastField 0 (.aload_n 0) 1 := by decide +kernel
theorem dX7_lastField_1 : cod mX7_lastField 1 (.getfield 17) 3 := by decide +kernel
theorem dX7_lastField_4 : cod mX7_lastField 4 (.bipush 99) 2 := by decide +kernel
theorem dX7_lastField_6 : cod mX7_lastField 6 (.if_icmp .ne 7) 3 := by decide +kernel
theorem dX7_lastField_9 : cod mX7_lastField 9 (.iconst 2) 1 := by decide +kernel
theorem dX7_lastField_10 : cod mX7_lastField 10 (.goto 17) 3 := by decide +kernel
theorem dX7_lastField_13 : cod mX7_lastField 13 (.aload_n 0) 1 := by decide +kernel
theorem dX7_lastField_14 : cod mX7_lastField 14 (.getfield 17) 3 := by decide +kernel
theorem dX7_lastField_17 : cod mX7_lastField 17 (.bipush 119) 2 := by decide +kernel
theorem dX7_lastField_19 : cod mX7_lastField 19 (.if_icmp .ne 7) 3 := by decide +kernel
theorem dX7_lastField_22 : cod mX7_lastField 22 (.iconst 1) 1 := by decide +kernel
theorem dX7_lastField_23 : cod mX7_lastField 23 (.goto 4) 3 := by decide +kernel
theorem dX7_lastField_26 : cod mX7_lastField 26 (.iconst 0) 1 := by decide +kernel
theorem dX7_lastField_27 : cod mX7_lastField 27 (.ireturn) 1 := by decide +kernel
def wp_X7_lastField (p0 : Nat) (M : Mem) (Q : Int32 → Mem → Prop) : Prop := mK M p0 = 8 ∧ (¬ (mI M p0 0) = (99 : Int32) → (¬ (mI M p0 0) = (119 : Int32) → Q 0 M) ∧ ((mI M p0 0) = (119 : Int32) → Q 1 M)) ∧ ((mI M p0 0) = (99 : Int32) → Q 2 M)
theorem T_X7_lastField {G : GG} {Q : Int32 → Mem → Prop} {M : Mem} {p0 : Nat} (h : wp_X7_lastField p0 M Q) : PMet G mX7_lastField 0 0 0 [.ref p0] M (QI Q) :=
  mk_met (by decide) rfl rfl (by
    intro w hw x9 e9
    subst e9
    simp at hw) (Nat.le_of_ble_eq_true rfl) (s_pad (L1 := [some (.ref p0)]) 1 rfl (s_aload_n (pc := 0) dX7_lastField_0 rfl (s_getI (pc := 1) dX7_lastField_1 f_X7_17 rfl h.1 (s_bipush (pc := 4) dX7_lastField_4 cb_99 (s_icmp_ne (pc := 6) (tgt := 13) dX7_lastField_6 rfl (fun c1 => have h2 := h.2.1 c1; s_aload_n (pc := 13) dX7_lastField_13 rfl (s_getI (pc := 14) dX7_lastField_14 f_X7_17 rfl h.1 (s_bipush (pc := 17) dX7_lastField_17 cb_119 (s_icmp_ne (pc := 19) (tgt := 26) dX7_lastField_19 rfl (fun c5 => have h6 := h2.1 c5; s_iconst (pc := 26) dX7_lastField_26 ci_0 (s_ireturn (pc := 27) dX7_lastField_27 rfl (Nat.zero_le _) (Nat.zero_le _) ⟨_, rfl, h6⟩)) (fun c7 => have h8 := h2.2 c7; s_iconst (pc := 22) dX7_lastField_22 ci_1 (s_goto (pc := 23) (tgt := 27) dX7_lastField_23 rfl (s_ireturn (pc := 27) dX7_lastField_27 rfl (Nat.zero_le _) (Nat.zero_le _) ⟨_, rfl, h8⟩))))))) (fun c3 => have h4 := h.2.2 c3; s_iconst (pc := 9) dX7_lastField_9 ci_2 (s_goto (pc := 10) (tgt := 27) dX7_lastField_10 rfl (s_ireturn (pc := 27) dX7_lastField_27 rfl (Nat.zero_le _) (Nat.zero_le _) ⟨_, rfl, h4⟩))))))))
/-! X7_goesOnWith -/
theorem dX7_goesOnWith_0 : cod mX7_goesOnWith 0 (.aload_n 0) 1 := by decide +kernel
theorem dX7_goesOnWith_1 : cod mX7_goesOnWith 1 (.getfield 17) 3 := by decide +kernel
theorem dX7_goesOnWith_4 : cod mX7_goesOnWith 4 (.ifCond .ne 9) 3 := by decide +kernel
theorem dX7_goesOnWith_7 : cod mX7_goesOnWith 7 (.aload_n 0) 1 := by decide +kernel
theorem dX7_goesOnWith_8 : cod mX7_goesOnWith 8 (.iload_n 1) 1 := by decide +kernel
theorem dX7_goesOnWith_9 : cod mX7_goesOnWith 9 (.invokevirtual 37) 3 := by decide +kernel
theorem dX7_goesOnWith_12 : cod mX7_goesOnWith 12 (.ireturn) 1 := by decide +kernel
theorem dX7_goesOnWith_13 : cod mX7_goesOnWith 13 (.iload_n 1) 1 := by decide +kernel
theorem dX7_goesOnWith_14 : cod mX7_goesOnWith 14 (.bipush 48) 2 := by decide +kernel
theorem dX7_goesOnWith_16 : cod mX7_goesOnWith 16 (.if_icmp .lt 18) 3 := by decide +kernel
theorem dX7_goesOnWith_19 : cod mX7_goesOnWith 19 (.iload_n 1) 1 := by decide +kernel
theorem dX7_goesOnWith_20 : cod mX7_goesOnWith 20 (.bipush 57) 2 := by decide +kernel
theorem dX7_goesOnWith_22 : cod mX7_goesOnWith 22 (.if_icmp .gt 12) 3 := by decide +kernel
theorem dX7_goesOnWith_25 : cod mX7_goesOnWith 25 (.aload_n 0) 1 := by decide +kernel
theorem dX7_goesOnWith_26 : cod mX7_goesOnWith 26 (.iload_n 1) 1 := by decide +kernel
theorem dX7_goesOnWith_27 : cod mX7_goesOnWith 27 (.bipush 48) 2 := by decide +kernel
theorem dX7_goesOnWith_29 : cod mX7_goesOnWith 29 (.isub) 1 := by decide +kernel
theorem dX7_goesOnWith_30 : cod mX7_goesOnWith 30 (.invokevirtual 40) 3 := by decide +kernel
theorem dX7_goesOnWith_33 : cod mX7_goesOnWith 33 (.ireturn) 1 := by decide +kernel
theorem dX7_goesOnWith_34 : cod mX7_goesOnWith 34 (.aload_n 0) 1 := by decide +kernel
theorem dX7_goesOnWith_35 : cod mX7_goesOnWith 35 (.getfield 43) 3 := by decide +kernel
theorem dX7_goesOnWith_38 : cod mX7_goesOnWith 38 (.ifCond .ne 5) 3 := by decide +kernel
theorem dX7_goesOnWith_41 : cod mX7_goesOnWith 41 (.iconst 0) 1 := by decide +kernel
theorem dX7_goesOnWith_42 : cod mX7_goesOnWith 42 (.ireturn) 1 := by decide +kernel
theorem dX7_goesOnWith_43 : cod mX7_goesOnWith 43 (.iload_n 1) 1 := by decide +kernel
theorem dX7_goesOnWith_44 : cod mX7_goesOnWith 44 (.bipush 32) 2 := by decide +kernel
theorem dX7_goesOnWith_46 : cod mX7_goesOnWith 46 (.if_icmp .ne 26) 3 := by decide +kernel
theorem dX7_goesOnWith_49 : cod mX7_goesOnWith 49 (.aload_n 0) 1 := by decide +kernel
theorem dX7_goesOnWith_50 : cod mX7_goesOnWith 50 (.getfield 46) 3 := by decide +kernel
theorem dX7_goesOnWith_53 : cod mX7_goesOnWith 53 (.aload_n 0) 1 := by decide +kernel
theorem dX7_goesOnWith_54 : cod mX7_goesOnWith 54 (.invokevirtual 49) 3 := by decide +kernel
theorem dX7_goesOnWith_57 : cod mX7_goesOnWith 57 (.if_icmp .ge 15) 3 := by decide +kernel
theorem dX7_goesOnWith_60 : cod mX7_goesOnWith 60 (.aload_n 0) 1 := by decide +kernel
theorem dX7_goesOnWith_61 : cod mX7_goesOnWith 61 (.aload_n 0) 1 := by decide +kernel
theorem dX7_goesOnWith_62 : cod mX7_goesOnWith 62 (.getfield 46) 3 := by decide +kernel
theorem dX7_goesOnWith_65 : cod mX7_goesOnWith 65 (.iconst 1) 1 := by decide +kernel
theorem dX7_goesOnWith_66 : cod mX7_goesOnWith 66 (.iadd) 1 := by decide +kernel
theorem dX7_goesOnWith_67 : cod mX7_goesOnWith 67 (.invokevirtual 53) 3 := by decide +kernel
theorem dX7_goesOnWith_70 : cod mX7_goesOnWith 70 (.iconst 1) 1 := by decide +kernel
theorem dX7_goesOnWith_71 : cod mX7_goesOnWith 71 (.ireturn) 1 := by decide +kernel
theorem dX7_goesOnWith_72 : cod mX7_goesOnWith 72 (.iload_n 1) 1 := by decide +kernel
theorem dX7_goesOnWith_73 : cod mX7_goesOnWith 73 (.bipush 59) 2 := by decide +kernel
theorem dX7_goesOnWith_75 : cod mX7_goesOnWith 75 (.if_icmp .ne 21) 3 := by decide +kernel
theorem dX7_goesOnWith_78 : cod mX7_goesOnWith 78 (.aload_n 0) 1 := by decide +kernel
theorem dX7_goesOnWith_79 : cod mX7_goesOnWith 79 (.getfield 46) 3 := by decide +kernel
theorem dX7_goesOnWith_82 : cod mX7_goesOnWith 82 (.aload_n 0) 1 := by decide +kernel
theorem dX7_goesOnWith_83 : cod mX7_goesOnWith 83 (.invokevirtual 49) 3 := by decide +kernel
theorem dX7_goesOnWith_86 : cod mX7_goesOnWith 86 (.if_icmp .ne 10) 3 := by decide +kernel
theorem dX7_goesOnWith_89 : cod mX7_goesOnWith 89 (.aload_n 0) 1 := by decide +kernel
theorem dX7_goesOnWith_90 : cod mX7_goesOnWith 90 (.iconst 0) 1 := by decide +kernel
theorem dX7_goesOnWith_91 : cod mX7_goesOnWith 91 (.putfield 17) 3 := by decide +kernel
theorem dX7_goesOnWith_94 : cod mX7_goesOnWith 94 (.iconst 1) 1 := by decide +kernel
theorem dX7_goesOnWith_95 : cod mX7_goesOnWith 95 (.ireturn) 1 := by decide +kernel
theorem dX7_goesOnWith_96 : cod mX7_goesOnWith 96 (.iconst 0) 1 := by decide +kernel
theorem dX7_goesOnWith_97 : cod mX7_goesOnWith 97 (.ireturn) 1 := by decide +kernel
def jn_X7_goesOnWith_72 (Q : Int32 → Mem → Prop) (x0 : Nat) (x1 : Int32) (M : Mem) : Prop := (¬ x1 = (59 : Int32) → Q 0 M) ∧ (x1 = (59 : Int32) → mK M x0 = 8 ∧ wp_X7_lastField x0 M (fun r23 M22 => (¬ (mI M x0 1) = r23 → Q 0 M22) ∧ ((mI M x0 1) = r23 → mK M22 x0 = 8 ∧ ∀ M28 : Mem, M28 = uI M22 x0 0 0 → Q 1 M28)))
theorem P_jn_X7_goesOnWith_72 {G : GG} {Q : Int32 → Mem → Prop} (x0 : Nat) (x1 : Int32) (M : Mem) (h : jn_X7_goesOnWith_72 Q x0 x1 M) : PW G mX7_goesOnWith (rmD 2 0 0) (QI Q) 72 [some (.ref x0), some (.int x1)] [] M 0 0 := (s_iload_n (pc := 72) dX7_goesOnWith_72 rfl (s_bipush (pc := 73) dX7_goesOnWith_73 cb_59 (s_icmp_ne (pc := 75) (tgt := 96) dX7_goesOnWith_75 rfl (fun c17 => have h18 := h.1 c17; s_iconst (pc := 96) dX7_goesOnWith_96 ci_0 (s_zreturn (pc := 97) dX7_goesOnWith_97 rfl (Or.inl rfl) (Nat.zero_le _) (Nat.zero_le _) ⟨_, rfl, h18⟩)) (fun c19 => have h20 := h.2 c19; s_aload_n (pc := 78) dX7_goesOnWith_78 rfl (s_getI (pc := 79) dX7_goesOnWith_79 f_X7_46 rfl h20.1 (s_aload_n (pc := 82) dX7_goesOnWith_82 rfl (s_callV (pc := 83) (As := []) (rest := [.int (mI M x0 1)]) (d' := 0) (mc' := 0) (ms' := 0) dX7_goesOnWith_83 c_X7_49 (Nat.le_of_ble_eq_true rfl) rfl h20.1 rfl rfl (Nat.le_of_ble_eq_true rfl) (rm_ok rfl rfl) ⟨Nat.le_refl 0, Nat.le_refl 0⟩ (T_X7_lastField h20.2) (kkI (fun r23 M22 h21 => s_icmp_ne (pc := 86) (tgt := 96) dX7_goesOnWith_86 rfl (fun c24 => have h25 := h21.1 c24; s_iconst (pc := 96) dX7_goesOnWith_96 ci_0 (s_zreturn (pc := 97) dX7_goesOnWith_97 rfl (Or.inl rfl) (Nat.zero_le _) (Nat.zero_le _) ⟨_, rfl, h25⟩)) (fun c26 => have h27 := h21.2 c26; s_aload_n (pc := 89) dX7_goesOnWith_89 rfl (s_iconst (pc := 90) dX7_goesOnWith_90 ci_0 (s_putI (pc := 91) dX7_goesOnWith_91 f_X7_17 (Or.inl rfl) (Or.inl rfl) h27.1 (nmM (fun M28 e29 => have h30 := h27.2 M28 e29; s_iconst (pc := 94) dX7_goesOnWith_94 ci_1 (s_zreturn (pc := 95) dX7_goesOnWith_95 rfl (Or.inr rfl) (Nat.zero_le _) (Nat.zero_le _) ⟨_, rfl, h30⟩)))))))))))))))
def jn_X7_goesOnWith_34 (Q : Int32 → Mem → Prop) (x0 : Nat) (x1 : Int32) (M : Mem) : Prop := mK M x0 = 8 ∧ (¬ (mI M x0 2) = (0 : Int32) → (¬ x1 = (32 : Int32) → jn_X7_goesOnWith_72 Q x0 x1 M) ∧ (x1 = (32 : Int32) → wp_X7_lastField x0 M (fun r33 M32 => (r33 ≤ (mI M x0 1) → jn_X7_goesOnWith_72 Q x0 x1 M32) ∧ (¬ r33 ≤ (mI M x0 1) → mK M32 x0 = 8 ∧ wp_X7_beginNumber x0 ((mI M32 x0 1) + 1) M32 (fun M39 => Q 1 M39))))) ∧ ((mI M x0 2) = (0 : Int32) → Q 0 M)
theorem P_jn_X7_goesOnWith_34 {G : GG} {Q : Int32 → Mem → Prop} (x0 : Nat) (x1 : Int32) (M : Mem) (h : jn_X7_goesOnWith_34 Q x0 x1 M) : PW G mX7_goesOnWith (rmD 2 0 0) (QI Q) 34 [some (.ref x0), some (.int x1)] [] M 0 0 := (s_aload_n (pc := 34) dX7_goesOnWith_34 rfl (s_getI (pc := 35) dX7_goesOnWith_35 f_X7_43 rfl h.1 (s_if_ne (pc := 38) (tgt := 43) dX7_goesOnWith_38 rfl (fun c9 => have h10 := h.2.1 c9; s_iload_n (pc := 43) dX7_goesOnWith_43 rfl (s_bipush (pc := 44) dX7_goesOnWith_44 cb_32 (s_icmp_ne (pc := 46) (tgt := 72) dX7_goesOnWith_46 rfl (fun c13 => have h14 := h10.1 c13; s_sel (L1 := [some (.ref x0), some (.int x1)]) [true, true] rfl (P_jn_X7_goesOnWith_72 x0 x1 M h14)) (fun c15 => have h16 := h10.2 c15; s_aload_n (pc := 49) dX7_goesOnWith_49 rfl (s_getI (pc := 50) dX7_goesOnWith_50 f_X7_46 rfl h.1 (s_aload_n (pc := 53) dX7_goesOnWith_53 rfl (s_callV (pc := 54) (As := []) (rest := [.int (mI M x0 1)]) (d' := 0) (mc' := 0) (ms' := 0) dX7_goesOnWith_54 c_X7_49 (Nat.le_of_ble_eq_true rfl) rfl h.1 rfl rfl (Nat.le_of_ble_eq_true rfl) (rm_ok rfl rfl) ⟨Nat.le_refl 0, Nat.le_refl 0⟩ (T_X7_lastField h16) (kkI (fun r33 M32 h31 => s_icmp_ge (pc := 57) (tgt := 72) dX7_goesOnWith_57 rfl (fun c34 => have h35 := h31.1 c34; s_sel (L1 := [some (.ref x0), some (.int x1)]) [true, true] rfl (P_jn_X7_goesOnWith_72 x0 x1 M32 h35)) (fun c36 => have h37 := h31.2 c36; s_aload_n (pc := 60) dX7_goesOnWith_60 rfl (s_aload_n (pc := 61) dX7_goesOnWith_61 rfl (s_getI (pc := 62) dX7_goesOnWith_62 f_X7_46 rfl h37.1 (s_iconst (pc := 65) dX7_goesOnWith_65 ci_1 (s_iadd (pc := 66) dX7_goesOnWith_66 (s_callV (pc := 67) (As := [.int ((mI M32 x0 1) + 1)]) (rest := []) (d' := 0) (mc' := 0) (ms' := 0) dX7_goesOnWith_67 c_X7_53 (Nat.le_of_ble_eq_true rfl) rfl h37.1 rfl rfl (Nat.le_of_ble_eq_true rfl) (rm_ok rfl rfl) ⟨Nat.le_refl 0, Nat.le_refl 0⟩ (T_X7_beginNumber h37.2) (kkV (fun M39 h38 => s_iconst (pc := 70) dX7_goesOnWith_70 ci_1 (s_zreturn (pc := 71) dX7_goesOnWith_71 rfl (Or.inr rfl) (Nat.zero_le _) (Nat.zero_le _) ⟨_, rfl, h38⟩)))))))))))))))))) (fun c11 => have h12 := h.2.2 c11; s_iconst (pc := 41) dX7_goesOnWith_41 ci_0 (s_zreturn (pc := 42) dX7_goesOnWith_42 rfl (Or.inl rfl) (Nat.zero_le _) (Nat.zero_le _) ⟨_, rfl, h12⟩)))))
def wp_X7_goesOnWith (p0 : Nat) (p1 : Int32) (M : Mem) (Q : Int32 → Mem → Prop) : Prop := mK M p0 = 8 ∧ (¬ (mI M p0 0) = (0 : Int32) → (p1 < (48 : Int32) → jn_X7_goesOnWith_34 Q p0 p1 M) ∧ (¬ p1 < (48 : Int32) → ((57 : Int32) < p1 → jn_X7_goesOnWith_34 Q p0 p1 M) ∧ (¬ (57 : Int32) < p1 → wp_X7_takesDigit p0 (p1 - 48) M (fun r46 M45 => (r46 = 0 ∨ r46 = 1) ∧ Q r46 M45)))) ∧ ((mI M p0 0) = (0 : Int32) → wp_X7_begins p0 p1 M (fun r49 M48 => (r49 = 0 ∨ r49 = 1) ∧ Q r49 M48))
theorem T_X7_goesOnWith {G : GG} {Q : Int32 → Mem → Prop} {M : Mem} {p0 : Nat} {p1 : Int32} (h : wp_X7_goesOnWith p0 p1 M Q) : PMet G mX7_goesOnWith 2 0 0 [.ref p0, .int p1] M (QI Q) :=
  mk_met (by decide) rfl rfl (by
    intro w hw x9 e9
    subst e9
    simp at hw) (Nat.le_of_ble_eq_true rfl) (s_pad (L1 := [some (.ref p0), some (.int p1)]) 2 rfl (s_aload_n (pc := 0) dX7_goesOnWith_0 rfl (s_getI (pc := 1) dX7_goesOnWith_1 f_X7_17 rfl h.1 (s_if_ne (pc := 4) (tgt := 13) dX7_goesOnWith_4 rfl (fun c1 => have h2 := h.2.1 c1; s_iload_n (pc := 13) dX7_goesOnWith_13 rfl (s_bipush (pc := 14) dX7_goesOnWith_14 cb_48 (s_icmp_lt (pc := 16) (tgt := 34) dX7_goesOnWith_16 rfl (fun c5 => have h6 := h2.1 c5; s_sel (L1 := [some (.ref p0), some (.int p1)]) [true, true] rfl (P_jn_X7_goesOnWith_34 p0 p1 M h6)) (fun c7 => have h8 := h2.2 c7; s_iload_n (pc := 19) dX7_goesOnWith_19 rfl (s_bipush (pc := 20) dX7_goesOnWith_20 cb_57 (s_icmp_gt (pc := 22) (tgt := 34) dX7_goesOnWith_22 rfl (fun c40 => have h41 := h8.1 c40; s_sel (L1 := [some (.ref p0), some (.int p1)]) [true, true] rfl (P_jn_X7_goesOnWith_34 p0 p1 M h41)) (fun c42 => have h43 := h8.2 c42; s_aload_n (pc := 25) dX7_goesOnWith_25 rfl (s_iload_n (pc := 26) dX7_goesOnWith_26 rfl (s_bipush (pc := 27) dX7_goesOnWith_27 cb_48 (s_isub (pc := 29) dX7_goesOnWith_29 (s_callV (pc := 30) (As := [.int (p1 - 48)]) (rest := []) (d' := 0) (mc' := 0) (ms' := 0) dX7_goesOnWith_30 c_X7_40 (Nat.le_of_ble_eq_true rfl) rfl h.1 rfl rfl (Nat.le_of_ble_eq_true rfl) (rm_ok rfl rfl) ⟨Nat.le_refl 0, Nat.le_refl 0⟩ (T_X7_takesDigit h43) (kkI (fun r46 M45 h44 => s_zreturn (pc := 33) dX7_goesOnWith_33 rfl h44.1 (Nat.zero_le _) (Nat.zero_le _) ⟨_, rfl, h44.2⟩))))))))))))) (fun c3 => have h4 := h.2.2 c3; s_aload_n (pc := 7) dX7_goesOnWith_7 rfl (s_iload_n (pc := 8) dX7_goesOnWith_8 rfl (s_callV (pc := 9) (As := [.int p1]) (rest := []) (d' := 1) (mc' := 0) (ms' := 0) dX7_goesOnWith_9 c_X7_37 (Nat.le_of_ble_eq_true rfl) rfl h.1 rfl rfl (Nat.le_of_ble_eq_true rfl) (rm_ok rfl rfl) ⟨Nat.le_refl 0, Nat.le_refl 0⟩ (T_X7_begins h4) (kkI (fun r49 M48 h47 => s_zreturn (pc := 12) dX7_goesOnWith_12 rfl h47.1 (Nat.zero_le _) (Nat.zero_le _) ⟨_, rfl, h47.2⟩)))))))))
/-! X7_formFault -/
theorem dX7_formFault_0 : cod mX7_formFault 0 (.aload_n 0) 1 := by decide +kernel
theorem dX7_formFault_1 : cod mX7_formFault 1 (.iconst 0) 1 := by decide +kernel
theorem dX7_formFault_2 : cod mX7_formFault 2 (.putfield 17) 3 := by decide +kernel
theorem dX7_formFault_5 : cod mX7_formFault 5 (.iconst 0) 1 := by decide +kernel
theorem dX7_formFault_6 : cod mX7_formFault 6 (.istore_n 2) 1 := by decide +kernel
theorem dX7_formFault_7 : cod mX7_formFault 7 (.iload_n 2) 1 := by decide +kernel
theorem dX7_formFault_8 : cod mX7_formFault 8 (.aload_n 1) 1 := by decide +kernel
theorem dX7_formFault_9 : cod mX7_formFault 9 (.getfield 21) 3 := by decide +kernel
theorem dX7_formFault_12 : cod mX7_formFault 12 (.if_icmp .ge 28) 3 := by decide +kernel
theorem dX7_formFault_15 : cod mX7_formFault 15 (.aload_n 0) 1 := by decide +kernel
theorem dX7_formFault_16 : cod mX7_formFault 16 (.aload_n 1) 1 := by decide +kernel
theorem dX7_formFault_17 : cod mX7_formFault 17 (.getfield 26) 3 := by decide +kernel
theorem dX7_formFault_20 : cod mX7_formFault 20 (.iload_n 2) 1 := by decide +kernel
theorem dX7_formFault_21 : cod mX7_formFault 21 (.iaload) 1 := by decide +kernel
theorem dX7_formFault_22 : cod mX7_formFault 22 (.invokevirtual 29) 3 := by decide +kernel
theorem dX7_formFault_25 : cod mX7_formFault 25 (.ifCond .ne 9) 3 := by decide +kernel
theorem dX7_formFault_28 : cod mX7_formFault 28 (.sipush (-1000)) 3 := by decide +kernel
theorem dX7_formFault_31 : cod mX7_formFault 31 (.iload_n 2) 1 := by decide +kernel
theorem dX7_formFault_32 : cod mX7_formFault 32 (.isub) 1 := by decide +kernel
theorem dX7_formFault_33 : cod mX7_formFault 33 (.ireturn) 1 := by decide +kernel
theorem dX7_formFault_34 : cod mX7_formFault 34 (.iinc 2 1) 3 := by decide +kernel
theorem dX7_formFault_37 : cod mX7_formFault 37 (.goto (-30)) 3 := by decide +kernel
theorem dX7_formFault_40 : cod mX7_formFault 40 (.aload_n 1) 1 := by decide +kernel
theorem dX7_formFault_41 : cod mX7_formFault 41 (.getfield 21) 3 := by decide +kernel
theorem dX7_formFault_44 : cod mX7_formFault 44 (.ifCond .le 14) 3 := by decide +kernel
theorem dX7_formFault_47 : cod mX7_formFault 47 (.aload_n 0) 1 := by decide +kernel
theorem dX7_formFault_48 : cod mX7_formFault 48 (.getfield 17) 3 := by decide +kernel
theorem dX7_formFault_51 : cod mX7_formFault 51 (.ifCond .ne 7) 3 := by decide +kernel
theorem dX7_formFault_54 : cod mX7_formFault 54 (.iconst 0) 1 := by decide +kernel
theorem dX7_formFault_55 : cod mX7_formFault 55 (.goto 11) 3 := by decide +kernel
theorem dX7_formFault_58 : cod mX7_formFault 58 (.sipush (-1000)) 3 := by decide +kernel
theorem dX7_formFault_61 : cod mX7_formFault 61 (.aload_n 1) 1 := by decide +kernel
theorem dX7_formFault_62 : cod mX7_formFault 62 (.getfield 21) 3 := by decide +kernel
theorem dX7_formFault_65 : cod mX7_formFault 65 (.isub) 1 := by decide +kernel
theorem dX7_formFault_66 : cod mX7_formFault 66 (.ireturn) 1 := by decide +kernel
def lp_X7_formFault_7 (Q : Int32 → Mem → Prop) : Nat → Nat → Nat → Int32 → Mem → Prop
  | 0 => fun _ _ _ _ => False
  | n + 1 => fun x0 x1 x2 M => mK M x1 = 5 ∧ ((mI M x1 2) ≤ x2 → ((mI M x1 2) ≤ (0 : Int32) → Q ((-1000) - (mI M x1 2)) M) ∧ (¬ (mI M x1 2) ≤ (0 : Int32) → mK M x0 = 8 ∧ (¬ (mI M x0 0) = (0 : Int32) → Q ((-1000) - (mI M x1 2)) M) ∧ ((mI M x0 0) = (0 : Int32) → Q 0 M))) ∧ (¬ (mI M x1 2) ≤ x2 → mK M (mR M x1 3) = 20 ∧ vp_in x2 (mN M (mR M x1 3)) ∧ mK M x0 = 8 ∧ wp_X7_goesOnWith x0 (mI M (mR M x1 3) x2.toNatClampNeg) M (fun r18 M17 => (¬ r18 = (0 : Int32) → (lp_X7_formFault_7 Q n) x0 x1 (x2 + 1) M17) ∧ (r18 = (0 : Int32) → Q ((-1000) - x2) M17)))
theorem P_lp_X7_formFault_7 {G : GG} {Q : Int32 → Mem → Prop} : ∀ (n : Nat) (x0 : Nat) (x1 : Nat) (x2 : Int32) (M : Mem), lp_X7_formFault_7 Q n x0 x1 x2 M → PW G mX7_formFault (rmD 3 0 0) (QI Q) 7 [some (.ref x0), some (.ref x1), some (.int x2)] [] M 0 0 := by
  intro n
  induction n with
  | zero => intro x0 x1 x2 M h; exact h.elim
  | succ n ih =>
    intro x0 x1 x2 M h
    exact (s_iload_n (pc := 7) dX7_formFault_7 rfl (s_aload_n (pc := 8) dX7_formFault_8 rfl (s_getI (pc := 9) dX7_formFault_9 f_X7_21 rfl h.1 (s_icmp_ge (pc := 12) (tgt := 40) dX7_formFault_12 rfl (fun c4 => have h5 := h.2.1 c4; s_aload_n (pc := 40) dX7_formFault_40 rfl (s_getI (pc := 41) dX7_formFault_41 f_X7_21 rfl h.1 (s_if_le (pc := 44) (tgt := 58) dX7_formFault_44 rfl (fun c8 => have h9 := h5.1 c8; s_sipush (pc := 58) dX7_formFault_58 cs_m1000 (s_aload_n (pc := 61) dX7_formFault_61 rfl (s_getI (pc := 62) dX7_formFault_62 f_X7_21 rfl h.1 (s_isub (pc := 65) dX7_formFault_65 (s_ireturn (pc := 66) dX7_formFault_66 rfl (Nat.zero_le _) (Nat.zero_le _) ⟨_, rfl, h9⟩))))) (fun c10 => have h11 := h5.2 c10; s_aload_n (pc := 47) dX7_formFault_47 rfl (s_getI (pc := 48) dX7_formFault_48 f_X7_17 rfl h11.1 (s_if_ne (pc := 51) (tgt := 58) dX7_formFault_51 rfl (fun c12 => have h13 := h11.2.1 c12; s_sipush (pc := 58) dX7_formFault_58 cs_m1000 (s_aload_n (pc := 61) dX7_formFault_61 rfl (s_getI (pc := 62) dX7_formFault_62 f_X7_21 rfl h.1 (s_isub (pc := 65) dX7_formFault_65 (s_ireturn (pc := 66) dX7_formFault_66 rfl (Nat.zero_le _) (Nat.zero_le _) ⟨_, rfl, h13⟩))))) (fun c14 => have h15 := h11.2.2 c14; s_iconst (pc := 54) dX7_formFault_54 ci_0 (s_goto (pc := 55) (tgt := 66) dX7_formFault_55 rfl (s_ireturn (pc := 66) dX7_formFault_66 rfl (Nat.zero_le _) (Nat.zero_le _) ⟨_, rfl, h15⟩))))))))) (fun c6 => have h7 := h.2.2 c6; s_aload_n (pc := 15) dX7_formFault_15 rfl (s_aload_n (pc := 16) dX7_formFault_16 rfl (s_getR (pc := 17) dX7_formFault_17 f_X7_26 rfl h.1 (s_iload_n (pc := 20) dX7_formFault_20 rfl (s_ial (pc := 21) dX7_formFault_21 h7.1 h7.2.1 (s_callV (pc := 22) (As := [.int (mI M (mR M x1 3) x2.toNatClampNeg)]) (rest := []) (d' := 2) (mc' := 0) (ms' := 0) dX7_formFault_22 c_X7_29 (Nat.le_of_ble_eq_true rfl) rfl h7.2.2.1 rfl rfl (Nat.le_of_ble_eq_true rfl) (rm_ok rfl rfl) ⟨Nat.le_refl 0, Nat.le_refl 0⟩ (T_X7_goesOnWith h7.2.2.2) (kkI (fun r18 M17 h16 => s_if_ne (pc := 25) (tgt := 34) dX7_formFault_25 rfl (fun c19 => have h20 := h16.1 c19; s_iinc (pc := 34) (L1 := [some (.ref x0), some (.ref x1), some (.int (x2 + 1))]) dX7_formFault_34 rfl ci_1 (Nat.le_of_ble_eq_true rfl) rfl (s_goto (pc := 37) (tgt := 7) dX7_formFault_37 rfl (s_sel (L1 := [some (.ref x0), some (.ref x1), some (.int (x2 + 1))]) [true, true, true] rfl (ih x0 x1 (x2 + 1) M17 h20)))) (fun c21 => have h22 := h16.2 c21; s_sipush (pc := 28) dX7_formFault_28 cs_m1000 (s_iload_n (pc := 31) dX7_formFault_31 rfl (s_isub (pc := 32) dX7_formFault_32 (s_ireturn (pc := 33) dX7_formFault_33 rfl (Nat.zero_le _) (Nat.zero_le _) ⟨_, rfl, h22⟩))))))))))))))))
def wp_X7_formFault (p0 : Nat) (p1 : Nat) (M : Mem) (Q : Int32 → Mem → Prop) : Prop := mK M p0 = 8 ∧ ∀ M1 : Mem, M1 = uI M p0 0 0 → ∃ n23 : Nat, lp_X7_formFault_7 Q n23 p0 p1 0 M1
theorem T_X7_formFault {G : GG} {Q : Int32 → Mem → Prop} {M : Mem} {p0 : Nat} {p1 : Nat} (h : wp_X7_formFault p0 p1 M Q) : PMet G mX7_formFault 3 0 0 [.ref p0, .ref p1] M (QI Q) :=
  mk_met (by decide) rfl rfl (by
    intro w hw x9 e9
    subst e9
    simp at hw) (Nat.le_of_ble_eq_true rfl) (s_pad (L1 := [some (.ref p0), some (.ref p1), none]) 3 rfl (s_aload_n (pc := 0) dX7_formFault_0 rfl (s_iconst (pc := 1) dX7_formFault_1 ci_0 (s_putI (pc := 2) dX7_formFault_2 f_X7_17 (Or.inl rfl) (Or.inl rfl) h.1 (nmM (fun M1 e2 => have h3 := h.2 M1 e2; s_iconst (pc := 5) dX7_formFault_5 ci_0 (s_istore_n (pc := 6) (L1 := [some (.ref p0), some (.ref p1), some (.int 0)]) dX7_formFault_6 (Nat.le_of_ble_eq_true rfl) rfl (Exists.elim h3 (fun n23 hn => s_sel (L1 := [some (.ref p0), some (.ref p1), some (.int 0)]) [true, true, true] rfl (P_lp_X7_formFault_7 n23 p0 p1 0 M1 hn))))))))))
/-! X6_addWorth -/
theorem dX6_addWorth_0 : cod mX6_addWorth 0 (.aload_n 0) 1 := by decide +kernel
theorem dX6_addWorth_1 : cod mX6_addWorth 1 (.getfield 40) 3 := by decide +kernel
theorem dX6_addWorth_4 : cod mX6_addWorth 4 (.bipush 6) 2 := by decide +kernel
theorem dX6_addWorth_6 : cod mX6_addWorth 6 (.if_icmp .ge 29) 3 := by decide +kernel
theorem dX6_addWorth_9 : cod mX6_addWorth 9 (.iload_n 1) 1 := by decide +kernel
theorem dX6_addWorth_10 : cod mX6_addWorth 10 (.iconst 1) 1 := by decide +kernel
theorem dX6_addWorth_11 : cod mX6_addWorth 11 (.if_icmp .lt 24) 3 := by decide +kernel
theorem dX6_addWorth_14 : cod mX6_addWorth 14 (.iload_n 2) 1 := by decide +kernel
theorem dX6_addWorth_15 : cod mX6_addWorth 15 (.ifCond .lt 20) 3 := by decide +kernel
theorem dX6_addWorth_18 : cod mX6_addWorth 18 (.iload_n 2) 1 := by decide +kernel
theorem dX6_addWorth_19 : cod mX6_addWorth 19 (.bipush 99) 2 := by decide +kernel
theorem dX6_addWorth_21 : cod mX6_addWorth 21 (.if_icmp .gt 14) 3 := by decide +kernel
theorem dX6_addWorth_24 : cod mX6_addWorth 24 (.iload_n 1) 1 := by decide +kernel
theorem dX6_addWorth_25 : cod mX6_addWorth 25 (.bipush 100) 2 := by decide +kernel
theorem dX6_addWorth_27 : cod mX6_addWorth 27 (.aload_n 0) 1 := by decide +kernel
theorem dX6_addWorth_28 : cod mX6_addWorth 28 (.invokevirtual 55) 3 := by decide +kernel
theorem dX6_addWorth_31 : cod mX6_addWorth 31 (.isub) 1 := by decide +kernel
theorem dX6_addWorth_32 : cod mX6_addWorth 32 (.if_icmp .le 5) 3 := by decide +kernel
theorem dX6_addWorth_35 : cod mX6_addWorth 35 (.iconst 0) 1 := by decide +kernel
theorem dX6_addWorth_36 : cod mX6_addWorth 36 (.ireturn) 1 := by decide +kernel
theorem dX6_addWorth_37 : cod mX6_addWorth 37 (.aload_n 0) 1 := by decide +kernel
theorem dX6_addWorth_38 : cod mX6_addWorth 38 (.getfield 9) 3 := by decide +kernel
theorem dX6_addWorth_41 : cod mX6_addWorth 41 (.aload_n 0) 1 := by decide +kernel
theorem dX6_addWorth_42 : cod mX6_addWorth 42 (.getfield 40) 3 := by decide +kernel
theorem dX6_addWorth_45 : cod mX6_addWorth 45 (.iload_n 1) 1 := by decide +kernel
theorem dX6_addWorth_46 : cod mX6_addWorth 46 (.iastore) 1 := by decide +kernel
theorem dX6_addWorth_47 : cod mX6_addWorth 47 (.aload_n 0) 1 := by decide +kernel
theorem dX6_addWorth_48 : cod mX6_addWorth 48 (.getfield 15) 3 := by decide +kernel
theorem dX6_addWorth_51 : cod mX6_addWorth 51 (.aload_n 0) 1 := by decide +kernel
theorem dX6_addWorth_52 : cod mX6_addWorth 52 (.getfield 40) 3 := by decide +kernel
theorem dX6_addWorth_55 : cod mX6_addWorth 55 (.iload_n 2) 1 := by decide +kernel
theorem dX6_addWorth_56 : cod mX6_addWorth 56 (.iastore) 1 := by decide +kernel
theorem dX6_addWorth_57 : cod mX6_addWorth 57 (.aload_n 0) 1 := by decide +kernel
theorem dX6_addWorth_58 : cod mX6_addWorth 58 (.dup) 1 := by decide +kernel
theorem dX6_addWorth_59 : cod mX6_addWorth 59 (.getfield 40) 3 := by decide +kernel
theorem dX6_addWorth_62 : cod mX6_addWorth 62 (.iconst 1) 1 := by decide +kernel
theorem dX6_addWorth_63 : cod mX6_addWorth 63 (.iadd) 1 := by decide +kernel
theorem dX6_addWorth_64 : cod mX6_addWorth 64 (.putfield 40) 3 := by decide +kernel
theorem dX6_addWorth_67 : cod mX6_addWorth 67 (.iconst 1) 1 := by decide +kernel
theorem dX6_addWorth_68 : cod mX6_addWorth 68 (.ireturn) 1 := by decide +kernel
def wp_X6_addWorth (p0 : Nat) (p1 : Int32) (p2 : Int32) (M : Mem) (Q : Int32 → Mem → Prop) : Prop := mK M p0 = 7 ∧ ((6 : Int32) ≤ (mI M p0 0) → Q 0 M) ∧ (¬ (6 : Int32) ≤ (mI M p0 0) → (p1 < (1 : Int32) → Q 0 M) ∧ (¬ p1 < (1 : Int32) → (p2 < (0 : Int32) → Q 0 M) ∧ (¬ p2 < (0 : Int32) → ((99 : Int32) < p2 → Q 0 M) ∧ (¬ (99 : Int32) < p2 → wp_X6_allChances p0 M (fun r19 M18 => (p1 ≤ (100 - r19) → mK M18 p0 = 7 ∧ mK M18 (mR M18 p0 1) = 20 ∧ vp_in (mI M18 p0 0) (mN M18 (mR M18 p0 1)) ∧ ∀ M24 : Mem, M24 = uI M18 (mR M18 p0 1) (mI M18 p0 0).toNatClampNeg p1 → mK M24 (mR M24 p0 2) = 20 ∧ vp_in (mI M24 p0 0) (mN M24 (mR M24 p0 2)) ∧ ∀ M27 : Mem, M27 = uI M24 (mR M24 p0 2) (mI M24 p0 0).toNatClampNeg p2 → ∀ M30 : Mem, M30 = uI M27 p0 0 ((mI M27 p0 0) + 1) → Q 1 M30) ∧ (¬ p1 ≤ (100 - r19) → Q 0 M18))))))
theorem T_X6_addWorth {G : GG} {Q : Int32 → Mem → Prop} {M : Mem} {p0 : Nat} {p1 : Int32} {p2 : Int32} (h : wp_X6_addWorth p0 p1 p2 M Q) : PMet G mX6_addWorth 1 0 0 [.ref p0, .int p1, .int p2] M (QI Q) :=
  mk_met (by decide) rfl rfl (by
    intro w hw x9 e9
    subst e9
    simp at hw) (Nat.le_of_ble_eq_true rfl) (s_pad (L1 := [some (.ref p0), some (.int p1), some (.int p2)]) 3 rfl (s_aload_n (pc := 0) dX6_addWorth_0 rfl (s_getI (pc := 1) dX6_addWorth_1 f_X6_40 rfl h.1 (s_bipush (pc := 4) dX6_addWorth_4 cb_6 (s_icmp_ge (pc := 6) (tgt := 35) dX6_addWorth_6 rfl (fun c1 => have h2 := h.2.1 c1; s_iconst (pc := 35) dX6_addWorth_35 ci_0 (s_zreturn (pc := 36) dX6_addWorth_36 rfl (Or.inl rfl) (Nat.zero_le _) (Nat.zero_le _) ⟨_, rfl, h2⟩)) (fun c3 => have h4 := h.2.2 c3; s_iload_n (pc := 9) dX6_addWorth_9 rfl (s_iconst (pc := 10) dX6_addWorth_10 ci_1 (s_icmp_lt (pc := 11) (tgt := 35) dX6_addWorth_11 rfl (fun c5 => have h6 := h4.1 c5; s_iconst (pc := 35) dX6_addWorth_35 ci_0 (s_zreturn (pc := 36) dX6_addWorth_36 rfl (Or.inl rfl) (Nat.zero_le _) (Nat.zero_le _) ⟨_, rfl, h6⟩)) (fun c7 => have h8 := h4.2 c7; s_iload_n (pc := 14) dX6_addWorth_14 rfl (s_if_lt (pc := 15) (tgt := 35) dX6_addWorth_15 rfl (fun c9 => have h10 := h8.1 c9; s_iconst (pc := 35) dX6_addWorth_35 ci_0 (s_zreturn (pc := 36) dX6_addWorth_36 rfl (Or.inl rfl) (Nat.zero_le _) (Nat.zero_le _) ⟨_, rfl, h10⟩)) (fun c11 => have h12 := h8.2 c11; s_iload_n (pc := 18) dX6_addWorth_18 rfl (s_bipush (pc := 19) dX6_addWorth_19 cb_99 (s_icmp_gt (pc := 21) (tgt := 35) dX6_addWorth_21 rfl (fun c13 => have h14 := h12.1 c13; s_iconst (pc := 35) dX6_addWorth_35 ci_0 (s_zreturn (pc := 36) dX6_addWorth_36 rfl (Or.inl rfl) (Nat.zero_le _) (Nat.zero_le _) ⟨_, rfl, h14⟩)) (fun c15 => have h16 := h12.2 c15; s_iload_n (pc := 24) dX6_addWorth_24 rfl (s_bipush (pc := 25) dX6_addWorth_25 cb_100 (s_aload_n (pc := 27) dX6_addWorth_27 rfl (s_callV (pc := 28) (As := []) (rest := [.int 100, .int p1]) (d' := 0) (mc' := 0) (ms' := 0) dX6_addWorth_28 c_X6_55 (Nat.le_of_ble_eq_true rfl) rfl h.1 rfl rfl (Nat.le_of_ble_eq_true rfl) (rm_ok rfl rfl) ⟨Nat.le_refl 0, Nat.le_refl 0⟩ (T_X6_allChances h16) (kkI (fun r19 M18 h17 => s_isub (pc := 31) dX6_addWorth_31 (s_icmp_le (pc := 32) (tgt := 37) dX6_addWorth_32 rfl (fun c20 => have h21 := h17.1 c20; s_aload_n (pc := 37) dX6_addWorth_37 rfl (s_getR (pc := 38) dX6_addWorth_38 f_X6_9 rfl h21.1 (s_aload_n (pc := 41) dX6_addWorth_41 rfl (s_getI (pc := 42) dX6_addWorth_42 f_X6_40 rfl h21.1 (s_iload_n (pc := 45) dX6_addWorth_45 rfl (s_ias (pc := 46) dX6_addWorth_46 h21.2.1 h21.2.2.1 (nmM (fun M24 e25 => have h26 := (h21.2.2.2) M24 e25; s_aload_n (pc := 47) dX6_addWorth_47 rfl (s_getR (pc := 48) dX6_addWorth_48 f_X6_15 rfl ((congrFun (congrArg mK e25) p0).trans h21.1) (s_aload_n (pc := 51) dX6_addWorth_51 rfl (s_getI (pc := 52) dX6_addWorth_52 f_X6_40 rfl ((congrFun (congrArg mK e25) p0).trans h21.1) (s_iload_n (pc := 55) dX6_addWorth_55 rfl (s_ias (pc := 56) dX6_addWorth_56 h26.1 h26.2.1 (nmM (fun M27 e28 => have h29 := (h26.2.2) M27 e28; s_aload_n (pc := 57) dX6_addWorth_57 rfl (s_dup (pc := 58) dX6_addWorth_58 rfl (s_getI (pc := 59) dX6_addWorth_59 f_X6_40 rfl ((congrFun (congrArg mK e28) p0).trans ((congrFun (congrArg mK e25) p0).trans h21.1)) (s_iconst (pc := 62) dX6_addWorth_62 ci_1 (s_iadd (pc := 63) dX6_addWorth_63 (s_putI (pc := 64) dX6_addWorth_64 f_X6_40 (Or.inl rfl) (Or.inl rfl) ((congrFun (congrArg mK e28) p0).trans ((congrFun (congrArg mK e25) p0).trans h21.1)) (nmM (fun M30 e31 => have h32 := h29 M30 e31; s_iconst (pc := 67) dX6_addWorth_67 ci_1 (s_zreturn (pc := 68) dX6_addWorth_68 rfl (Or.inr rfl) (Nat.zero_le _) (Nat.zero_le _) ⟨_, rfl, h32⟩))))))))))))))))))))))) (fun c22 => have h23 := h17.2 c22; s_iconst (pc := 35) dX6_addWorth_35 ci_0 (s_zreturn (pc := 36) dX6_addWorth_36 rfl (Or.inl rfl) (Nat.zero_le _) (Nat.zero_le _) ⟨_, rfl, h23⟩))))))))))))))))))))))
/-! X6_addSort -/
theorem dX6_addSort_0 : cod mX6_addSort 0 (.aload_n 0) 1 := by decide +kernel
theorem dX6_addSort_1 : cod mX6_addSort 1 (.getfield 43) 3 := by decide +kernel
theorem dX6_addSort_4 : cod mX6_addSort 4 (.bipush 6) 2 := by decide +kernel
theorem dX6_addSort_6 : cod mX6_addSort 6 (.if_icmp .ge 37) 3 := by decide +kernel
theorem dX6_addSort_9 : cod mX6_addSort 9 (.iload_n 1) 1 := by decide +kernel
theorem dX6_addSort_10 : cod mX6_addSort 10 (.ifCond .lt 33) 3 := by decide +kernel
theorem dX6_addSort_13 : cod mX6_addSort 13 (.iload_n 1) 1 := by decide +kernel
theorem dX6_addSort_14 : cod mX6_addSort 14 (.iconst 4) 1 := by decide +kernel
theorem dX6_addSort_15 : cod mX6_addSort 15 (.if_icmp .gt 28) 3 := by decide +kernel
theorem dX6_addSort_18 : cod mX6_addSort 18 (.iload_n 2) 1 := by decide +kernel
theorem dX6_addSort_19 : cod mX6_addSort 19 (.ifCond .lt 24) 3 := by decide +kernel
theorem dX6_addSort_22 : cod mX6_addSort 22 (.iload_n 3) 1 := by decide +kernel
theorem dX6_addSort_23 : cod mX6_addSort 23 (.ifCond .lt 20) 3 := by decide +kernel
theorem dX6_addSort_26 : cod mX6_addSort 26 (.iload_n 3) 1 := by decide +kernel
theorem dX6_addSort_27 : cod mX6_addSort 27 (.bipush 99) 2 := by decide +kernel
theorem dX6_addSort_29 : cod mX6_addSort 29 (.if_icmp .gt 14) 3 := by decide +kernel
theorem dX6_addSort_32 : cod mX6_addSort 32 (.iload_n 2) 1 := by decide +kernel
theorem dX6_addSort_33 : cod mX6_addSort 33 (.bipush 100) 2 := by decide +kernel
theorem dX6_addSort_35 : cod mX6_addSort 35 (.aload_n 0) 1 := by decide +kernel
theorem dX6_addSort_36 : cod mX6_addSort 36 (.invokevirtual 59) 3 := by decide +kernel
theorem dX6_addSort_39 : cod mX6_addSort 39 (.isub) 1 := by decide +kernel
theorem dX6_addSort_40 : cod mX6_addSort 40 (.if_icmp .le 5) 3 := by decide +kernel
theorem dX6_addSort_43 : cod mX6_addSort 43 (.iconst 0) 1 := by decide +kernel
theorem dX6_addSort_44 : cod mX6_addSort 44 (.ireturn) 1 := by decide +kernel
theorem dX6_addSort_45 : cod mX6_addSort 45 (.aload_n 0) 1 := by decide +kernel
theorem dX6_addSort_46 : cod mX6_addSort 46 (.getfield 18) 3 := by decide +kernel
theorem dX6_addSort_49 : cod mX6_addSort 49 (.aload_n 0) 1 := by decide +kernel
theorem dX6_addSort_50 : cod mX6_addSort 50 (.getfield 43) 3 := by decide +kernel
theorem dX6_addSort_53 : cod mX6_addSort 53 (.iload_n 1) 1 := by decide +kernel
theorem dX6_addSort_54 : cod mX6_addSort 54 (.iastore) 1 := by decide +kernel
theorem dX6_addSort_55 : cod mX6_addSort 55 (.aload_n 0) 1 := by decide +kernel
theorem dX6_addSort_56 : cod mX6_addSort 56 (.getfield 21) 3 := by decide +kernel
theorem dX6_addSort_59 : cod mX6_addSort 59 (.aload_n 0) 1 := by decide +kernel
theorem dX6_addSort_60 : cod mX6_addSort 60 (.getfield 43) 3 := by decide +kernel
theorem dX6_addSort_63 : cod mX6_addSort 63 (.iload_n 2) 1 := by decide +kernel
theorem dX6_addSort_64 : cod mX6_addSort 64 (.iastore) 1 := by decide +kernel
theorem dX6_addSort_65 : cod mX6_addSort 65 (.aload_n 0) 1 := by decide +kernel
theorem dX6_addSort_66 : cod mX6_addSort 66 (.getfield 24) 3 := by decide +kernel
theorem dX6_addSort_69 : cod mX6_addSort 69 (.aload_n 0) 1 := by decide +kernel
theorem dX6_addSort_70 : cod mX6_addSort 70 (.getfield 43) 3 := by decide +kernel
theorem dX6_addSort_73 : cod mX6_addSort 73 (.iload_n 3) 1 := by decide +kernel
theorem dX6_addSort_74 : cod mX6_addSort 74 (.iastore) 1 := by decide +kernel
theorem dX6_addSort_75 : cod mX6_addSort 75 (.aload_n 0) 1 := by decide +kernel
theorem dX6_addSort_76 : cod mX6_addSort 76 (.dup) 1 := by decide +kernel
theorem dX6_addSort_77 : cod mX6_addSort 77 (.getfield 43) 3 := by decide +kernel
theorem dX6_addSort_80 : cod mX6_addSort 80 (.iconst 1) 1 := by decide +kernel
theorem dX6_addSort_81 : cod mX6_addSort 81 (.iadd) 1 := by decide +kernel
theorem dX6_addSort_82 : cod mX6_addSort 82 (.putfield 43) 3 := by decide +kernel
theorem dX6_addSort_85 : cod mX6_addSort 85 (.iconst 1) 1 := by decide +kernel
theorem dX6_addSort_86 : cod mX6_addSort 86 (.ireturn) 1 := by decide +kernel
def wp_X6_addSort (p0 : Nat) (p1 : Int32) (p2 : Int32) (p3 : Int32) (M : Mem) (Q : Int32 → Mem → Prop) : Prop := mK M p0 = 7 ∧ ((6 : Int32) ≤ (mI M p0 3) → Q 0 M) ∧ (¬ (6 : Int32) ≤ (mI M p0 3) → (p1 < (0 : Int32) → Q 0 M) ∧ (¬ p1 < (0 : Int32) → ((4 : Int32) < p1 → Q 0 M) ∧ (¬ (4 : Int32) < p1 → (p2 < (0 : Int32) → Q 0 M) ∧ (¬ p2 < (0 : Int32) → (p3 < (0 : Int32) → Q 0 M) ∧ (¬ p3 < (0 : Int32) → ((99 : Int32) < p3 → Q 0 M) ∧ (¬ (99 : Int32) < p3 → wp_X6_allHundredths p0 M (fun r27 M26 => (p2 ≤ (100 - r27) → mK M26 p0 = 7 ∧ mK M26 (mR M26 p0 4) = 20 ∧ vp_in (mI M26 p0 3) (mN M26 (mR M26 p0 4)) ∧ ∀ M32 : Mem, M32 = uI M26 (mR M26 p0 4) (mI M26 p0 3).toNatClampNeg p1 → mK M32 (mR M32 p0 5) = 20 ∧ vp_in (mI M32 p0 3) (mN M32 (mR M32 p0 5)) ∧ ∀ M35 : Mem, M35 = uI M32 (mR M32 p0 5) (mI M32 p0 3).toNatClampNeg p2 → mK M35 (mR M35 p0 6) = 20 ∧ vp_in (mI M35 p0 3) (mN M35 (mR M35 p0 6)) ∧ ∀ M38 : Mem, M38 = uI M35 (mR M35 p0 6) (mI M35 p0 3).toNatClampNeg p3 → ∀ M41 : Mem, M41 = uI M38 p0 3 ((mI M38 p0 3) + 1) → Q 1 M41) ∧ (¬ p2 ≤ (100 - r27) → Q 0 M26))))))))
theorem T_X6_addSort {G : GG} {Q : Int32 → Mem → Prop} {M : Mem} {p0 : Nat} {p1 : Int32} {p2 : Int32} {p3 : Int32} (h : wp_X6_addSort p0 p1 p2 p3 M Q) : PMet G mX6_addSort 1 0 0 [.ref p0, .int p1, .int p2, .int p3] M (QI Q) :=
  mk_met (by decide) rfl rfl (by
    intro w hw x9 e9
    subst e9
    simp at hw) (Nat.le_of_ble_eq_true rfl) (s_pad (L1 := [some (.ref p0), some (.int p1), some (.int p2), some (.int p3)]) 4 rfl (s_aload_n (pc := 0) dX6_addSort_0 rfl (s_getI (pc := 1) dX6_addSort_1 f_X6_43 rfl h.1 (s_bipush (pc := 4) dX6_addSort_4 cb_6 (s_icmp_ge (pc := 6) (tgt := 43) dX6_addSort_6 rfl (fun c1 => have h2 := h.2.1 c1; s_iconst (pc := 43) dX6_addSort_43 ci_0 (s_zreturn (pc := 44) dX6_addSort_44 rfl (Or.inl rfl) (Nat.zero_le _) (Nat.zero_le _) ⟨_, rfl, h2⟩)) (fun c3 => have h4 := h.2.2 c3; s_iload_n (pc := 9) dX6_addSort_9 rfl (s_if_lt (pc := 10) (tgt := 43) dX6_addSort_10 rfl (fun c5 => have h6 := h4.1 c5; s_iconst (pc := 43) dX6_addSort_43 ci_0 (s_zreturn (pc := 44) dX6_addSort_44 rfl (Or.inl rfl) (Nat.zero_le _) (Nat.zero_le _) ⟨_, rfl, h6⟩)) (fun c7 => have h8 := h4.2 c7; s_iload_n (pc := 13) dX6_addSort_13 rfl (s_iconst (pc := 14) dX6_addSort_14 ci_4 (s_icmp_gt (pc := 15) (tgt := 43) dX6_addSort_15 rfl (fun c9 => have h10 := h8.1 c9; s_iconst (pc := 43) dX6_addSort_43 ci_0 (s_zreturn (pc := 44) dX6_addSort_44 rfl (Or.inl rfl) (Nat.zero_le _) (Nat.zero_le _) ⟨_, rfl, h10⟩)) (fun c11 => have h12 := h8.2 c11; s_iload_n (pc := 18) dX6_addSort_18 rfl (s_if_lt (pc := 19) (tgt := 43) dX6_addSort_19 rfl (fun c13 => have h14 := h12.1 c13; s_iconst (pc := 43) dX6_addSort_43 ci_0 (s_zreturn (pc := 44) dX6_addSort_44 rfl (Or.inl rfl) (Nat.zero_le _) (Nat.zero_le _) ⟨_, rfl, h14⟩)) (fun c15 => have h16 := h12.2 c15; s_iload_n (pc := 22) dX6_addSort_22 rfl (s_if_lt (pc := 23) (tgt := 43) dX6_addSort_23 rfl (fun c17 => have h18 := h16.1 c17; s_iconst (pc := 43) dX6_addSort_43 ci_0 (s_zreturn (pc := 44) dX6_addSort_44 rfl (Or.inl rfl) (Nat.zero_le _) (Nat.zero_le _) ⟨_, rfl, h18⟩)) (fun c19 => have h20 := h16.2 c19; s_iload_n (pc := 26) dX6_addSort_26 rfl (s_bipush (pc := 27) dX6_addSort_27 cb_99 (s_icmp_gt (pc := 29) (tgt := 43) dX6_addSort_29 rfl (fun c21 => have h22 := h20.1 c21; s_iconst (pc := 43) dX6_addSort_43 ci_0 (s_zreturn (pc := 44) dX6_addSort_44 rfl (Or.inl rfl) (Nat.zero_le _) (Nat.zero_le _) ⟨_, rfl, h22⟩)) (fun c23 => have h24 := h20.2 c23; s_iload_n (pc := 32) dX6_addSort_32 rfl (s_bipush (pc := 33) dX6_addSort_33 cb_100 (s_aload_n (pc := 35) dX6_addSort_35 rfl (s_callV (pc := 36) (As := []) (rest := [.int 100, .int p2]) (d' := 0) (mc' := 0) (ms' := 0) dX6_addSort_36 c_X6_59 (Nat.le_of_ble_eq_true rfl) rfl h.1 rfl rfl (Nat.le_of_ble_eq_true rfl) (rm_ok rfl rfl) ⟨Nat.le_refl 0, Nat.le_refl 0⟩ (T_X6_allHundredths h24) (kkI (fun r27 M26 h25 => s_isub (pc := 39) dX6_addSort_39 (s_icmp_le (pc := 40) (tgt := 45) dX6_addSort_40 rfl (fun c28 => have h29 := h25.1 c28; s_aload_n (pc := 45) dX6_addSort_45 rfl (s_getR (pc := 46) dX6_addSort_46 f_X6_18 rfl h29.1 (s_aload_n (pc := 49) dX6_addSort_49 rfl (s_getI (pc := 50) dX6_addSort_50 f_X6_43 rfl h29.1 (s_iload_n (pc := 53) dX6_addSort_53 rfl (s_ias (pc := 54) dX6_addSort_54 h29.2.1 h29.2.2.1 (nmM (fun M32 e33 => have h34 := (h29.2.2.2) M32 e33; s_aload_n (pc := 55) dX6_addSort_55 rfl (s_getR (pc := 56) dX6_addSort_56 f_X6_21 rfl ((congrFun (congrArg mK e33) p0).trans h29.1) (s_aload_n (pc := 59) dX6_addSort_59 rfl (s_getI (pc := 60) dX6_addSort_60 f_X6_43 rfl ((congrFun (congrArg mK e33) p0).trans h29.1) (s_iload_n (pc := 63) dX6_addSort_63 rfl (s_ias (pc := 64) dX6_addSort_64 h34.1 h34.2.1 (nmM (fun M35 e36 => have h37 := (h34.2.2) M35 e36; s_aload_n (pc := 65) dX6_addSort_65 rfl (s_getR (pc := 66) dX6_addSort_66 f_X6_24 rfl ((congrFun (congrArg mK e36) p0).trans ((congrFun (congrArg mK e33) p0).trans h29.1)) (s_aload_n (pc := 69) dX6_addSort_69 rfl (s_getI (pc := 70) dX6_addSort_70 f_X6_43 rfl ((congrFun (congrArg mK e36) p0).trans ((congrFun (congrArg mK e33) p0).trans h29.1)) (s_iload_n (pc := 73) dX6_addSort_73 rfl (s_ias (pc := 74) dX6_addSort_74 h37.1 h37.2.1 (nmM (fun M38 e39 => have h40 := (h37.2.2) M38 e39; s_aload_n (pc := 75) dX6_addSort_75 rfl (s_dup (pc := 76) dX6_addSort_76 rfl (s_getI (pc := 77) dX6_addSort_77 f_X6_43 rfl ((congrFun (congrArg mK e39) p0).trans ((congrFun (congrArg mK e36) p0).trans ((congrFun (congrArg mK e33) p0).trans h29.1))) (s_iconst (pc := 80) dX6_addSort_80 ci_1 (s_iadd (pc := 81) dX6_addSort_81 (s_putI (pc := 82) dX6_addSort_82 f_X6_43 (Or.inl rfl) (Or.inl rfl) ((congrFun (congrArg mK e39) p0).trans ((congrFun (congrArg mK e36) p0).trans ((congrFun (congrArg mK e33) p0).trans h29.1))) (nmM (fun M41 e42 => have h43 := h40 M41 e42; s_iconst (pc := 85) dX6_addSort_85 ci_1 (s_zreturn (pc := 86) dX6_addSort_86 rfl (Or.inr rfl) (Nat.zero_le _) (Nat.zero_le _) ⟨_, rfl, h43⟩)))))))))))))))))))))))))))))) (fun c30 => have h31 := h25.2 c30; s_iconst (pc := 43) dX6_addSort_43 ci_0 (s_zreturn (pc := 44) dX6_addSort_44 rfl (Or.inl rfl) (Nat.zero_le _) (Nat.zero_le _) ⟨_, rfl, h31⟩))))))))))))))))))))))))))
