/-! X13_streets -/
theorem dX13_streets_0 : cod mX13_streets 0 (.aload_n 0) 1 := by decide +kernel
theorem dX13_streets_1 : cod mX13_streets 1 (.iconst 0) 1 := by decide +kernel
theorem dX13_streets_2 : cod mX13_streets 2 (.putfield 115) 3 := by decide +kernel
theorem dX13_streets_5 : cod mX13_streets 5 (.iload_n 1) 1 := by decide +kernel
theorem dX13_streets_6 : cod mX13_streets 6 (.iload_n 2) 1 := by decide +kernel
theorem dX13_streets_7 : cod mX13_streets 7 (.invokestatic 202) 3 := by decide +kernel
theorem dX13_streets_10 : cod mX13_streets 10 (.ifCond .eq 12) 3 := by decide +kernel
theorem dX13_streets_13 : cod mX13_streets 13 (.iload_n 3) 1 := by decide +kernel
theorem dX13_streets_14 : cod mX13_streets 14 (.iload 4) 2 := by decide +kernel
theorem dX13_streets_16 : cod mX13_streets 16 (.invokestatic 202) 3 := by decide +kernel
theorem dX13_streets_19 : cod mX13_streets 19 (.ifCond .ne 5) 3 := by decide +kernel
theorem dX13_streets_22 : cod mX13_streets 22 (.iconst (-1)) 1 := by decide +kernel
theorem dX13_streets_23 : cod mX13_streets 23 (.ireturn) 1 := by decide +kernel
theorem dX13_streets_24 : cod mX13_streets 24 (.iload_n 3) 1 := by decide +kernel
theorem dX13_streets_25 : cod mX13_streets 25 (.iload_n 2) 1 := by decide +kernel
theorem dX13_streets_26 : cod mX13_streets 26 (.isub) 1 := by decide +kernel
theorem dX13_streets_27 : cod mX13_streets 27 (.istore 5) 2 := by decide +kernel
theorem dX13_streets_29 : cod mX13_streets 29 (.iload_n 1) 1 := by decide +kernel
theorem dX13_streets_30 : cod mX13_streets 30 (.iload 4) 2 := by decide +kernel
theorem dX13_streets_32 : cod mX13_streets 32 (.isub) 1 := by decide +kernel
theorem dX13_streets_33 : cod mX13_streets 33 (.istore 6) 2 := by decide +kernel
theorem dX13_streets_35 : cod mX13_streets 35 (.iload 5) 2 := by decide +kernel
theorem dX13_streets_37 : cod mX13_streets 37 (.iload 6) 2 := by decide +kernel
theorem dX13_streets_39 : cod mX13_streets 39 (.if_icmp .le 8) 3 := by decide +kernel
theorem dX13_streets_42 : cod mX13_streets 42 (.iload 5) 2 := by decide +kernel
theorem dX13_streets_44 : cod mX13_streets 44 (.goto 5) 3 := by decide +kernel
theorem dX13_streets_47 : cod mX13_streets 47 (.iload 6) 2 := by decide +kernel
theorem dX13_streets_49 : cod mX13_streets 49 (.istore 7) 2 := by decide +kernel
theorem dX13_streets_51 : cod mX13_streets 51 (.iload 7) 2 := by decide +kernel
theorem dX13_streets_53 : cod mX13_streets 53 (.ifCond .le 8) 3 := by decide +kernel
theorem dX13_streets_56 : cod mX13_streets 56 (.iload 7) 2 := by decide +kernel
theorem dX13_streets_58 : cod mX13_streets 58 (.goto 4) 3 := by decide +kernel
theorem dX13_streets_61 : cod mX13_streets 61 (.iconst 0) 1 := by decide +kernel
theorem dX13_streets_62 : cod mX13_streets 62 (.ireturn) 1 := by decide +kernel
def jn_X13_streets_49 (Q : Int32 → Mem → Prop) (s0 : Int32) (M : Mem) : Prop := (s0 ≤ (0 : Int32) → Q 0 M) ∧ (¬ s0 ≤ (0 : Int32) → Q s0 M)
theorem P_jn_X13_streets_49 {G : GG} {Q : Int32 → Mem → Prop} (s0 : Int32) (M : Mem) (h : jn_X13_streets_49 Q s0 M) : PW G mX13_streets (rmD 2 0 0) (QI Q) 49 [none, none, none, none, none, none, none, none] [.int s0] M 0 0 := (s_istore (pc := 49) (L1 := [none, none, none, none, none, none, none, some (.int s0)]) dX13_streets_49 (Nat.le_of_ble_eq_true rfl) rfl (s_iload (pc := 51) dX13_streets_51 rfl (s_if_le (pc := 53) (tgt := 61) dX13_streets_53 rfl (fun c28 => have h29 := h.1 c28; s_iconst (pc := 61) dX13_streets_61 ci_0 (s_ireturn (pc := 62) dX13_streets_62 rfl (Nat.zero_le _) (Nat.zero_le _) ⟨_, rfl, h29⟩)) (fun c30 => have h31 := h.2 c30; s_iload (pc := 56) dX13_streets_56 rfl (s_goto (pc := 58) (tgt := 62) dX13_streets_58 rfl (s_ireturn (pc := 62) dX13_streets_62 rfl (Nat.zero_le _) (Nat.zero_le _) ⟨_, rfl, h31⟩))))))
def wp_X13_streets (p0 : Nat) (p1 : Int32) (p2 : Int32) (p3 : Int32) (p4 : Int32) (M : Mem) (Q : Int32 → Mem → Prop) : Prop := mK M p0 = 14 ∧ ∀ M1 : Mem, M1 = uI M p0 12 0 → wp_X13_isSlate p1 p2 M1 (fun r6 M5 => (r6 = (0 : Int32) → Q (-1) M5) ∧ (¬ r6 = (0 : Int32) → wp_X13_isSlate p3 p4 M5 (fun r13 M12 => (¬ r13 = (0 : Int32) → ∀ y18 : Int32, y18 = p3 - p2 → ∀ y21 : Int32, y21 = p1 - p4 → (y18 ≤ y21 → jn_X13_streets_49 Q y21 M12) ∧ (¬ y18 ≤ y21 → jn_X13_streets_49 Q y18 M12)) ∧ (r13 = (0 : Int32) → Q (-1) M12))))
theorem T_X13_streets {G : GG} {Q : Int32 → Mem → Prop} {M : Mem} {p0 : Nat} {p1 : Int32} {p2 : Int32} {p3 : Int32} {p4 : Int32} (h : wp_X13_streets p0 p1 p2 p3 p4 M Q) : PMet G mX13_streets 2 0 0 [.ref p0, .int p1, .int p2, .int p3, .int p4] M (QI Q) :=
  mk_met (by decide) rfl rfl (by
    intro w hw x9 e9
    subst e9
    simp at hw) (Nat.le_of_ble_eq_true rfl) (s_pad (L1 := [some (.ref p0), some (.int p1), some (.int p2), some (.int p3), some (.int p4), none, none, none]) 8 rfl (s_aload_n (pc := 0) dX13_streets_0 rfl (s_iconst (pc := 1) dX13_streets_1 ci_0 (s_putI (pc := 2) dX13_streets_2 f_X13_115 (Or.inl rfl) (Or.inl rfl) h.1 (nmM (fun M1 e2 => have h3 := h.2 M1 e2; s_iload_n (pc := 5) dX13_streets_5 rfl (s_iload_n (pc := 6) dX13_streets_6 rfl (s_callS (pc := 7) (As := [.int p1, .int p2]) (rest := []) (d' := 1) (mc' := 0) (ms' := 0) dX13_streets_7 c_X13_202 rfl rfl (Nat.le_of_ble_eq_true rfl) (rm_ok rfl rfl) ⟨Nat.le_refl 0, Nat.le_refl 0⟩ (T_X13_isSlate h3) (kkI (fun r6 M5 h4 => s_if_eq (pc := 10) (tgt := 22) dX13_streets_10 rfl (fun c7 => have h8 := h4.1 c7; s_iconst (pc := 22) dX13_streets_22 ci_m1 (s_ireturn (pc := 23) dX13_streets_23 rfl (Nat.zero_le _) (Nat.zero_le _) ⟨_, rfl, h8⟩)) (fun c9 => have h10 := h4.2 c9; s_iload_n (pc := 13) dX13_streets_13 rfl (s_iload (pc := 14) dX13_streets_14 rfl (s_callS (pc := 16) (As := [.int p3, .int p4]) (rest := []) (d' := 1) (mc' := 0) (ms' := 0) dX13_streets_16 c_X13_202 rfl rfl (Nat.le_of_ble_eq_true rfl) (rm_ok rfl rfl) ⟨Nat.le_refl 0, Nat.le_refl 0⟩ (T_X13_isSlate h10) (kkI (fun r13 M12 h11 => s_if_ne (pc := 19) (tgt := 24) dX13_streets_19 rfl (fun c14 => have h15 := h11.1 c14; s_iload_n (pc := 24) dX13_streets_24 rfl (s_iload_n (pc := 25) dX13_streets_25 rfl (s_isub (pc := 26) dX13_streets_26 (nmI (fun y18 e19 => have h20 := h15 y18 e19; s_istore (pc := 27) (L1 := [some (.ref p0), some (.int p1), some (.int p2), some (.int p3), some (.int p4), some (.int y18), none, none]) dX13_streets_27 (Nat.le_of_ble_eq_true rfl) rfl (s_iload_n (pc := 29) dX13_streets_29 rfl (s_iload (pc := 30) dX13_streets_30 rfl (s_isub (pc := 32) dX13_streets_32 (nmI (fun y21 e22 => have h23 := h20 y21 e22; s_istore (pc := 33) (L1 := [some (.ref p0), some (.int p1), some (.int p2), some (.int p3), some (.int p4), some (.int y18), some (.int y21), none]) dX13_streets_33 (Nat.le_of_ble_eq_true rfl) rfl (s_iload (pc := 35) dX13_streets_35 rfl (s_iload (pc := 37) dX13_streets_37 rfl (s_icmp_le (pc := 39) (tgt := 47) dX13_streets_39 rfl (fun c24 => have h25 := h23.1 c24; s_iload (pc := 47) dX13_streets_47 rfl (s_sel (L1 := [none, none, none, none, none, none, none, none]) [false, false, false, false, false, false, false, false] rfl (P_jn_X13_streets_49 y21 M12 h25))) (fun c26 => have h27 := h23.2 c26; s_iload (pc := 42) dX13_streets_42 rfl (s_goto (pc := 44) (tgt := 49) dX13_streets_44 rfl (s_sel (L1 := [none, none, none, none, none, none, none, none]) [false, false, false, false, false, false, false, false] rfl (P_jn_X13_streets_49 y18 M12 h27))))))))))))))))) (fun c16 => have h17 := h11.2 c16; s_iconst (pc := 22) dX13_streets_22 ci_m1 (s_ireturn (pc := 23) dX13_streets_23 rfl (Nat.zero_le _) (Nat.zero_le _) ⟨_, rfl, h17⟩)))))))))))))))))
/-! X13_stuck -/
theorem dX13_stuck_0 : cod mX13_stuck 0 (.aload_n 0) 1 := by decide +kernel
theorem dX13_stuck_1 : cod mX13_stuck 1 (.iconst 0) 1 := by decide +kernel
theorem dX13_stuck_2 : cod mX13_stuck 2 (.putfield 115) 3 := by decide +kernel
theorem dX13_stuck_5 : cod mX13_stuck 5 (.aload_n 0) 1 := by decide +kernel
theorem dX13_stuck_6 : cod mX13_stuck 6 (.iload_n 1) 1 := by decide +kernel
theorem dX13_stuck_7 : cod mX13_stuck 7 (.invokevirtual 310) 3 := by decide +kernel
theorem dX13_stuck_10 : cod mX13_stuck 10 (.ifCond .ge 14) 3 := by decide +kernel
theorem dX13_stuck_13 : cod mX13_stuck 13 (.ldc2_w 313) 3 := by decide +kernel
theorem dX13_stuck_16 : cod mX13_stuck 16 (.aload_n 0) 1 := by decide +kernel
theorem dX13_stuck_17 : cod mX13_stuck 17 (.iload_n 1) 1 := by decide +kernel
theorem dX13_stuck_18 : cod mX13_stuck 18 (.invokevirtual 310) 3 := by decide +kernel
theorem dX13_stuck_21 : cod mX13_stuck 21 (.i2l) 1 := by decide +kernel
theorem dX13_stuck_22 : cod mX13_stuck 22 (.ladd) 1 := by decide +kernel
theorem dX13_stuck_23 : cod mX13_stuck 23 (.lreturn) 1 := by decide +kernel
theorem dX13_stuck_24 : cod mX13_stuck 24 (.aload_n 0) 1 := by decide +kernel
theorem dX13_stuck_25 : cod mX13_stuck 25 (.aload_n 0) 1 := by decide +kernel
theorem dX13_stuck_26 : cod mX13_stuck 26 (.getfield 97) 3 := by decide +kernel
theorem dX13_stuck_29 : cod mX13_stuck 29 (.iload_n 1) 1 := by decide +kernel
theorem dX13_stuck_30 : cod mX13_stuck 30 (.iaload) 1 := by decide +kernel
theorem dX13_stuck_31 : cod mX13_stuck 31 (.aload_n 0) 1 := by decide +kernel
theorem dX13_stuck_32 : cod mX13_stuck 32 (.getfield 100) 3 := by decide +kernel
theorem dX13_stuck_35 : cod mX13_stuck 35 (.iload_n 1) 1 := by decide +kernel
theorem dX13_stuck_36 : cod mX13_stuck 36 (.iaload) 1 := by decide +kernel
theorem dX13_stuck_37 : cod mX13_stuck 37 (.invokevirtual 315) 3 := by decide +kernel
theorem dX13_stuck_40 : cod mX13_stuck 40 (.aload_n 0) 1 := by decide +kernel
theorem dX13_stuck_41 : cod mX13_stuck 41 (.getfield 295) 3 := by decide +kernel
theorem dX13_stuck_44 : cod mX13_stuck 44 (.lreturn) 1 := by decide +kernel
def wp_X13_stuck (p0 : Nat) (p1 : Int32) (M : Mem) (Q : Int64 → Mem → Prop) : Prop := mK M p0 = 14 ∧ ∀ M1 : Mem, M1 = uI M p0 12 0 → wp_X13_wrongMean p0 p1 M1 (fun r6 M5 => ((0 : Int32) ≤ r6 → mK M5 p0 = 14 ∧ mK M5 (mR M5 p0 50) = 20 ∧ vp_in p1 (mN M5 (mR M5 p0 50)) ∧ mK M5 (mR M5 p0 51) = 20 ∧ vp_in p1 (mN M5 (mR M5 p0 51)) ∧ wp_X13_goAll p0 (mI M5 (mR M5 p0 50) p1.toNatClampNeg) (mI M5 (mR M5 p0 51) p1.toNatClampNeg) M5 (fun M12 => mK M12 p0 = 14 ∧ Q (mJ M12 p0 36) M12)) ∧ (¬ (0 : Int32) ≤ r6 → mK M5 p0 = 14 ∧ wp_X13_wrongMean p0 p1 M5 (fun r15 M14 => Q ((-4000000000000000000) + r15.toInt64) M14)))
theorem T_X13_stuck {G : GG} {Q : Int64 → Mem → Prop} {M : Mem} {p0 : Nat} {p1 : Int32} (h : wp_X13_stuck p0 p1 M Q) : PMet G mX13_stuck 6 0 0 [.ref p0, .int p1] M (QJ Q) :=
  mk_met (by decide) rfl rfl (by
    intro w hw x9 e9
    subst e9
    simp at hw) (Nat.le_of_ble_eq_true rfl) (s_pad (L1 := [some (.ref p0), some (.int p1)]) 2 rfl (s_aload_n (pc := 0) dX13_stuck_0 rfl (s_iconst (pc := 1) dX13_stuck_1 ci_0 (s_putI (pc := 2) dX13_stuck_2 f_X13_115 (Or.inl rfl) (Or.inl rfl) h.1 (nmM (fun M1 e2 => have h3 := h.2 M1 e2; s_aload_n (pc := 5) dX13_stuck_5 rfl (s_iload_n (pc := 6) dX13_stuck_6 rfl (s_callV (pc := 7) (As := [.int p1]) (rest := []) (d' := 2) (mc' := 0) (ms' := 0) dX13_stuck_7 c_X13_310 (Nat.le_of_ble_eq_true rfl) rfl ((congrFun (congrArg mK e2) p0).trans h.1) rfl rfl (Nat.le_of_ble_eq_true rfl) (rm_ok rfl rfl) ⟨Nat.le_refl 0, Nat.le_refl 0⟩ (T_X13_wrongMean h3) (kkI (fun r6 M5 h4 => s_if_ge (pc := 10) (tgt := 24) dX13_stuck_10 rfl (fun c7 => have h8 := h4.1 c7; s_aload_n (pc := 24) dX13_stuck_24 rfl (s_aload_n (pc := 25) dX13_stuck_25 rfl (s_getR (pc := 26) dX13_stuck_26 f_X13_97 rfl h8.1 (s_iload_n (pc := 29) dX13_stuck_29 rfl (s_ial (pc := 30) dX13_stuck_30 h8.2.1 h8.2.2.1 (s_aload_n (pc := 31) dX13_stuck_31 rfl (s_getR (pc := 32) dX13_stuck_32 f_X13_100 rfl h8.1 (s_iload_n (pc := 35) dX13_stuck_35 rfl (s_ial (pc := 36) dX13_stuck_36 h8.2.2.2.1 h8.2.2.2.2.1 (s_callV (pc := 37) (As := [.int (mI M5 (mR M5 p0 50) p1.toNatClampNeg), .int (mI M5 (mR M5 p0 51) p1.toNatClampNeg)]) (rest := []) (d' := 5) (mc' := 0) (ms' := 0) dX13_stuck_37 c_X13_315 (Nat.le_of_ble_eq_true rfl) rfl h8.1 rfl rfl (Nat.le_of_ble_eq_true rfl) (rm_ok rfl rfl) ⟨Nat.le_refl 0, Nat.le_refl 0⟩ (T_X13_goAll h8.2.2.2.2.2) (kkV (fun M12 h11 => s_aload_n (pc := 40) dX13_stuck_40 rfl (s_getJ (pc := 41) dX13_stuck_41 f_X13_295 rfl h11.1 (s_lreturn (pc := 44) dX13_stuck_44 rfl (Nat.zero_le _) (Nat.zero_le _) ⟨_, rfl, h11.2⟩)))))))))))))) (fun c9 => have h10 := h4.2 c9; s_ldc2 (pc := 13) dX13_stuck_13 k_X13_313 (s_aload_n (pc := 16) dX13_stuck_16 rfl (s_iload_n (pc := 17) dX13_stuck_17 rfl (s_callV (pc := 18) (As := [.int p1]) (rest := [.long (-4000000000000000000)]) (d' := 2) (mc' := 0) (ms' := 0) dX13_stuck_18 c_X13_310 (Nat.le_of_ble_eq_true rfl) rfl h10.1 rfl rfl (Nat.le_of_ble_eq_true rfl) (rm_ok rfl rfl) ⟨Nat.le_refl 0, Nat.le_refl 0⟩ (T_X13_wrongMean h10.2) (kkI (fun r15 M14 h13 => s_i2l (pc := 21) dX13_stuck_21 (s_ladd (pc := 22) dX13_stuck_22 (s_lreturn (pc := 23) dX13_stuck_23 rfl (Nat.zero_le _) (Nat.zero_le _) ⟨_, rfl, h13⟩))))))))))))))))))
/-! X13_think -/
theorem dX13_think_0 : cod mX13_think 0 (.aload_n 0) 1 := by decide +kernel
theorem dX13_think_1 : cod mX13_think 1 (.iconst 0) 1 := by decide +kernel
theorem dX13_think_2 : cod mX13_think 2 (.putfield 115) 3 := by decide +kernel
theorem dX13_think_5 : cod mX13_think 5 (.aload_n 0) 1 := by decide +kernel
theorem dX13_think_6 : cod mX13_think 6 (.iload_n 1) 1 := by decide +kernel
theorem dX13_think_7 : cod mX13_think 7 (.invokevirtual 193) 3 := by decide +kernel
theorem dX13_think_10 : cod mX13_think 10 (.ifCond .eq 13) 3 := by decide +kernel
theorem dX13_think_13 : cod mX13_think 13 (.iload_n 2) 1 := by decide +kernel
theorem dX13_think_14 : cod mX13_think 14 (.i2l) 1 := by decide +kernel
theorem dX13_think_15 : cod mX13_think 15 (.lconst 0) 1 := by decide +kernel
theorem dX13_think_16 : cod mX13_think 16 (.lconst 1) 1 := by decide +kernel
theorem dX13_think_17 : cod mX13_think 17 (.invokestatic 122) 3 := by decide +kernel
theorem dX13_think_20 : cod mX13_think 20 (.ifCond .ne 7) 3 := by decide +kernel
theorem dX13_think_23 : cod mX13_think 23 (.ldc2_w 244) 3 := by decide +kernel
theorem dX13_think_26 : cod mX13_think 26 (.lreturn) 1 := by decide +kernel
theorem dX13_think_27 : cod mX13_think 27 (.aload_n 0) 1 := by decide +kernel
theorem dX13_think_28 : cod mX13_think 28 (.invokevirtual 228) 3 := by decide +kernel
theorem dX13_think_31 : cod mX13_think 31 (.ifCond .ne 7) 3 := by decide +kernel
theorem dX13_think_34 : cod mX13_think 34 (.ldc2_w 246) 3 := by decide +kernel
theorem dX13_think_37 : cod mX13_think 37 (.lreturn) 1 := by decide +kernel
theorem dX13_think_38 : cod mX13_think 38 (.lconst 0) 1 := by decide +kernel
theorem dX13_think_39 : cod mX13_think 39 (.lstore_n 3) 1 := by decide +kernel
theorem dX13_think_40 : cod mX13_think 40 (.iconst 0) 1 := by decide +kernel
theorem dX13_think_41 : cod mX13_think 41 (.istore 5) 2 := by decide +kernel
theorem dX13_think_43 : cod mX13_think 43 (.iload 5) 2 := by decide +kernel
theorem dX13_think_45 : cod mX13_think 45 (.aload_n 0) 1 := by decide +kernel
theorem dX13_think_46 : cod mX13_think 46 (.getfield 119) 3 := by decide +kernel
theorem dX13_think_49 : cod mX13_think 49 (.if_icmp .ge 19) 3 := by decide +kernel
theorem dX13_think_52 : cod mX13_think 52 (.lload_n 3) 1 := by decide +kernel
theorem dX13_think_53 : cod mX13_think 53 (.aload_n 0) 1 := by decide +kernel
theorem dX13_think_54 : cod mX13_think 54 (.getfield 32) 3 := by decide +kernel
theorem dX13_think_57 : cod mX13_think 57 (.iload 5) 2 := by decide +kernel
theorem dX13_think_59 : cod mX13_think 59 (.laload) 1 := by decide +kernel
theorem dX13_think_60 : cod mX13_think 60 (.ladd) 1 := by decide +kernel
theorem dX13_think_61 : cod mX13_think 61 (.lstore_n 3) 1 := by decide +kernel
theorem dX13_think_62 : cod mX13_think 62 (.iinc 5 1) 3 := by decide +kernel
theorem dX13_think_65 : cod mX13_think 65 (.goto (-22)) 3 := by decide +kernel
theorem dX13_think_68 : cod mX13_think 68 (.aload_n 0) 1 := by decide +kernel
theorem dX13_think_69 : cod mX13_think 69 (.getfield 32) 3 := by decide +kernel
theorem dX13_think_72 : cod mX13_think 72 (.iload_n 1) 1 := by decide +kernel
theorem dX13_think_73 : cod mX13_think 73 (.laload) 1 := by decide +kernel
theorem dX13_think_74 : cod mX13_think 74 (.lload_n 3) 1 := by decide +kernel
theorem dX13_think_75 : cod mX13_think 75 (.invokestatic 218) 3 := by decide +kernel
theorem dX13_think_78 : cod mX13_think 78 (.lstore 5) 2 := by decide +kernel
theorem dX13_think_80 : cod mX13_think 80 (.iload_n 2) 1 := by decide +kernel
theorem dX13_think_81 : cod mX13_think 81 (.ifCond .ne 12) 3 := by decide +kernel
theorem dX13_think_84 : cod mX13_think 84 (.aload_n 0) 1 := by decide +kernel
theorem dX13_think_85 : cod mX13_think 85 (.getfield 32) 3 := by decide +kernel
theorem dX13_think_88 : cod mX13_think 88 (.iload_n 1) 1 := by decide +kernel
theorem dX13_think_89 : cod mX13_think 89 (.laload) 1 := by decide +kernel
theorem dX13_think_90 : cod mX13_think 90 (.goto 4) 3 := by decide +kernel
theorem dX13_think_93 : cod mX13_think 93 (.lload_n 3) 1 := by decide +kernel
theorem dX13_think_94 : cod mX13_think 94 (.lload 5) 2 := by decide +kernel
theorem dX13_think_96 : cod mX13_think 96 (.ldiv) 1 := by decide +kernel
theorem dX13_think_97 : cod mX13_think 97 (.lreturn) 1 := by decide +kernel
def jn_X13_think_94 (Q : Int64 → Mem → Prop) (x5 : Int64) (s0 : Int64) (M : Mem) : Prop := ¬ x5 = 0 ∧ Q (s0 / x5) M
theorem P_jn_X13_think_94 {G : GG} {Q : Int64 → Mem → Prop} (x5 : Int64) (s0 : Int64) (M : Mem) (h : jn_X13_think_94 Q x5 s0 M) : PW G mX13_think (rmD 2 0 0) (QJ Q) 94 [none, none, none, none, none, some (.long x5), none] [.long s0] M 0 0 := (s_lload (pc := 94) dX13_think_94 rfl (s_ldiv (pc := 96) dX13_think_96 h.1 (s_lreturn (pc := 97) dX13_think_97 rfl (Nat.zero_le _) (Nat.zero_le _) ⟨_, rfl, h.2⟩)))
def lp_X13_think_43 (Q : Int64 → Mem → Prop) : Nat → Nat → Int32 → Int32 → Int64 → Int32 → Mem → Prop
  | 0 => fun _ _ _ _ _ _ => False
  | n + 1 => fun x0 x1 x2 x3 x5 M => mK M x0 = 14 ∧ ((mI M x0 0) ≤ x5 → mK M (mR M x0 10) = 21 ∧ vp_in x1 (mN M (mR M x0 10)) ∧ wp_X13_divisor (mJ M (mR M x0 10) x1.toNatClampNeg) x3 M (fun r31 M30 => (¬ x2 = (0 : Int32) → jn_X13_think_94 Q r31 x3 M30) ∧ (x2 = (0 : Int32) → mK M30 x0 = 14 ∧ mK M30 (mR M30 x0 10) = 21 ∧ vp_in x1 (mN M30 (mR M30 x0 10)) ∧ jn_X13_think_94 Q r31 (mJ M30 (mR M30 x0 10) x1.toNatClampNeg) M30))) ∧ (¬ (mI M x0 0) ≤ x5 → mK M (mR M x0 10) = 21 ∧ vp_in x5 (mN M (mR M x0 10)) ∧ ∀ y36 : Int64, y36 = x3 + (mJ M (mR M x0 10) x5.toNatClampNeg) → (lp_X13_think_43 Q n) x0 x1 x2 y36 (x5 + 1) M)
theorem P_lp_X13_think_43 {G : GG} {Q : Int64 → Mem → Prop} : ∀ (n : Nat) (x0 : Nat) (x1 : Int32) (x2 : Int32) (x3 : Int64) (x5 : Int32) (M : Mem), lp_X13_think_43 Q n x0 x1 x2 x3 x5 M → PW G mX13_think (rmD 2 0 0) (QJ Q) 43 [some (.ref x0), some (.int x1), some (.int x2), some (.long x3), none, some (.int x5), none] [] M 0 0 := by
  intro n
  induction n with
  | zero => intro x0 x1 x2 x3 x5 M h; exact h.elim
  | succ n ih =>
    intro x0 x1 x2 x3 x5 M h
    exact (s_iload (pc := 43) dX13_think_43 rfl (s_aload_n (pc := 45) dX13_think_45 rfl (s_getI (pc := 46) dX13_think_46 f_X13_119 rfl h.1 (s_icmp_ge (pc := 49) (tgt := 68) dX13_think_49 rfl (fun c25 => have h26 := h.2.1 c25; s_aload_n (pc := 68) dX13_think_68 rfl (s_getR (pc := 69) dX13_think_69 f_X13_32 rfl h.1 (s_iload_n (pc := 72) dX13_think_72 rfl (s_lal (pc := 73) dX13_think_73 h26.1 h26.2.1 (s_lload_n (pc := 74) dX13_think_74 rfl (s_callS (pc := 75) (As := [.long (mJ M (mR M x0 10) x1.toNatClampNeg), .long x3]) (rest := []) (d' := 0) (mc' := 0) (ms' := 0) dX13_think_75 c_X13_218 rfl rfl (Nat.le_of_ble_eq_true rfl) (rm_ok rfl rfl) ⟨Nat.le_refl 0, Nat.le_refl 0⟩ (T_X13_divisor h26.2.2) (kkJ (fun r31 M30 h29 => s_lstore (pc := 78) (L1 := [some (.ref x0), some (.int x1), some (.int x2), some (.long x3), none, some (.long r31), none]) dX13_think_78 (Nat.le_of_ble_eq_true rfl) rfl (s_iload_n (pc := 80) dX13_think_80 rfl (s_if_ne (pc := 81) (tgt := 93) dX13_think_81 rfl (fun c32 => have h33 := h29.1 c32; s_lload_n (pc := 93) dX13_think_93 rfl (s_sel (L1 := [none, none, none, none, none, some (.long r31), none]) [false, false, false, false, false, true, false] rfl (P_jn_X13_think_94 r31 x3 M30 h33))) (fun c34 => have h35 := h29.2 c34; s_aload_n (pc := 84) dX13_think_84 rfl (s_getR (pc := 85) dX13_think_85 f_X13_32 rfl h35.1 (s_iload_n (pc := 88) dX13_think_88 rfl (s_lal (pc := 89) dX13_think_89 h35.2.1 h35.2.2.1 (s_goto (pc := 90) (tgt := 94) dX13_think_90 rfl (s_sel (L1 := [none, none, none, none, none, some (.long r31), none]) [false, false, false, false, false, true, false] rfl (P_jn_X13_think_94 r31 (mJ M30 (mR M30 x0 10) x1.toNatClampNeg) M30 h35.2.2.2))))))))))))))))) (fun c27 => have h28 := h.2.2 c27; s_lload_n (pc := 52) dX13_think_52 rfl (s_aload_n (pc := 53) dX13_think_53 rfl (s_getR (pc := 54) dX13_think_54 f_X13_32 rfl h.1 (s_iload (pc := 57) dX13_think_57 rfl (s_lal (pc := 59) dX13_think_59 h28.1 h28.2.1 (s_ladd (pc := 60) dX13_think_60 (nmJ (fun y36 e37 => have h38 := h28.2.2 y36 e37; s_lstore_n (pc := 61) (L1 := [some (.ref x0), some (.int x1), some (.int x2), some (.long y36), none, some (.int x5), none]) dX13_think_61 (Nat.le_of_ble_eq_true rfl) rfl (s_iinc (pc := 62) (L1 := [some (.ref x0), some (.int x1), some (.int x2), some (.long y36), none, some (.int (x5 + 1)), none]) dX13_think_62 rfl ci_1 (Nat.le_of_ble_eq_true rfl) rfl (s_goto (pc := 65) (tgt := 43) dX13_think_65 rfl (s_sel (L1 := [some (.ref x0), some (.int x1), some (.int x2), some (.long y36), none, some (.int (x5 + 1)), none]) [true, true, true, true, false, true, false] rfl (ih x0 x1 x2 y36 (x5 + 1) M h38))))))))))))))))
def wp_X13_think (p0 : Nat) (p1 : Int32) (p2 : Int32) (M : Mem) (Q : Int64 → Mem → Prop) : Prop := mK M p0 = 14 ∧ ∀ M1 : Mem, M1 = uI M p0 12 0 → wp_X13_isWorth p0 p1 M1 (fun r6 M5 => (r6 = (0 : Int32) → Q (-4000000000000000001) M5) ∧ (¬ r6 = (0 : Int32) → wp_X13_in p2.toInt64 0 1 M5 (fun r13 M12 => (¬ r13 = (0 : Int32) → mK M12 p0 = 14 ∧ wp_X13_isReady p0 M12 (fun r20 M19 => (¬ r20 = (0 : Int32) → ∃ n, lp_X13_think_43 Q n p0 p1 p2 0 0 M19) ∧ (r20 = (0 : Int32) → Q (-4000000000000000003) M19))) ∧ (r13 = (0 : Int32) → Q (-4000000000000000001) M12))))
theorem T_X13_think {G : GG} {Q : Int64 → Mem → Prop} {M : Mem} {p0 : Nat} {p1 : Int32} {p2 : Int32} (h : wp_X13_think p0 p1 p2 M Q) : PMet G mX13_think 2 0 0 [.ref p0, .int p1, .int p2] M (QJ Q) :=
  mk_met (by decide) rfl rfl (by
    intro w hw x9 e9
    subst e9
    simp at hw) (Nat.le_of_ble_eq_true rfl) (s_pad (L1 := [some (.ref p0), some (.int p1), some (.int p2), none, none, none, none]) 7 rfl (s_aload_n (pc := 0) dX13_think_0 rfl (s_iconst (pc := 1) dX13_think_1 ci_0 (s_putI (pc := 2) dX13_think_2 f_X13_115 (Or.inl rfl) (Or.inl rfl) h.1 (nmM (fun M1 e2 => have h3 := h.2 M1 e2; s_aload_n (pc := 5) dX13_think_5 rfl (s_iload_n (pc := 6) dX13_think_6 rfl (s_callV (pc := 7) (As := [.int p1]) (rest := []) (d' := 1) (mc' := 0) (ms' := 0) dX13_think_7 c_X13_193 (Nat.le_of_ble_eq_true rfl) rfl ((congrFun (congrArg mK e2) p0).trans h.1) rfl rfl (Nat.le_of_ble_eq_true rfl) (rm_ok rfl rfl) ⟨Nat.le_refl 0, Nat.le_refl 0⟩ (T_X13_isWorth h3) (kkI (fun r6 M5 h4 => s_if_eq (pc := 10) (tgt := 23) dX13_think_10 rfl (fun c7 => have h8 := h4.1 c7; s_ldc2 (pc := 23) dX13_think_23 k_X13_244 (s_lreturn (pc := 26) dX13_think_26 rfl (Nat.zero_le _) (Nat.zero_le _) ⟨_, rfl, h8⟩)) (fun c9 => have h10 := h4.2 c9; s_iload_n (pc := 13) dX13_think_13 rfl (s_i2l (pc := 14) dX13_think_14 (s_lconst (pc := 15) (v := 0) dX13_think_15 rfl (s_lconst (pc := 16) (v := 1) dX13_think_16 rfl (s_callS (pc := 17) (As := [.long p2.toInt64, .long 0, .long 1]) (rest := []) (d' := 0) (mc' := 0) (ms' := 0) dX13_think_17 c_X13_122 rfl rfl (Nat.le_of_ble_eq_true rfl) (rm_ok rfl rfl) ⟨Nat.le_refl 0, Nat.le_refl 0⟩ (T_X13_in h10) (kkI (fun r13 M12 h11 => s_if_ne (pc := 20) (tgt := 27) dX13_think_20 rfl (fun c14 => have h15 := h11.1 c14; s_aload_n (pc := 27) dX13_think_27 rfl (s_callV (pc := 28) (As := []) (rest := []) (d' := 1) (mc' := 0) (ms' := 0) dX13_think_28 c_X13_228 (Nat.le_of_ble_eq_true rfl) rfl h15.1 rfl rfl (Nat.le_of_ble_eq_true rfl) (rm_ok rfl rfl) ⟨Nat.le_refl 0, Nat.le_refl 0⟩ (T_X13_isReady h15.2) (kkI (fun r20 M19 h18 => s_if_ne (pc := 31) (tgt := 38) dX13_think_31 rfl (fun c21 => have h22 := h18.1 c21; s_lconst (pc := 38) (v := 0) dX13_think_38 rfl (s_lstore_n (pc := 39) (L1 := [some (.ref p0), some (.int p1), some (.int p2), some (.long 0), none, none, none]) dX13_think_39 (Nat.le_of_ble_eq_true rfl) rfl (s_iconst (pc := 40) dX13_think_40 ci_0 (s_istore (pc := 41) (L1 := [some (.ref p0), some (.int p1), some (.int p2), some (.long 0), none, some (.int 0), none]) dX13_think_41 (Nat.le_of_ble_eq_true rfl) rfl (Exists.elim h22 (fun n hn => s_sel (L1 := [some (.ref p0), some (.int p1), some (.int p2), some (.long 0), none, some (.int 0), none]) [true, true, true, true, false, true, false] rfl (P_lp_X13_think_43 n p0 p1 p2 0 0 M19 hn))))))) (fun c23 => have h24 := h18.2 c23; s_ldc2 (pc := 34) dX13_think_34 k_X13_246 (s_lreturn (pc := 37) dX13_think_37 rfl (Nat.zero_le _) (Nat.zero_le _) ⟨_, rfl, h24⟩)))))) (fun c16 => have h17 := h11.2 c16; s_ldc2 (pc := 23) dX13_think_23 k_X13_244 (s_lreturn (pc := 26) dX13_think_26 rfl (Nat.zero_le _) (Nat.zero_le _) ⟨_, rfl, h17⟩)))))))))))))))))))
/-! X13_thrown -/
theorem dX13_thrown_0 : cod mX13_thrown 0 (.aload_n 0) 1 := by decide +kernel
theorem dX13_thrown_1 : cod mX13_thrown 1 (.getfield 115) 3 := by decide +kernel
theorem dX13_thrown_4 : cod mX13_thrown 4 (.ireturn) 1 := by decide +kernel
def wp_X13_thrown (p0 : Nat) (M : Mem) (Q : Int32 → Mem → Prop) : Prop := mK M p0 = 14 ∧ Q (mI M p0 12) M
theorem T_X13_thrown {G : GG} {Q : Int32 → Mem → Prop} {M : Mem} {p0 : Nat} (h : wp_X13_thrown p0 M Q) : PMet G mX13_thrown 0 0 0 [.ref p0] M (QI Q) :=
  mk_met (by decide) rfl rfl (by
    intro w hw x9 e9
    subst e9
    simp at hw) (Nat.le_of_ble_eq_true rfl) (s_pad (L1 := [some (.ref p0)]) 1 rfl (s_aload_n (pc := 0) dX13_thrown_0 rfl (s_getI (pc := 1) dX13_thrown_1 f_X13_115 rfl h.1 (s_ireturn (pc := 4) dX13_thrown_4 rfl (Nat.zero_le _) (Nat.zero_le _) ⟨_, rfl, h.2⟩))))
/-! X13_toss -/
theorem dX13_toss_0 : cod mX13_toss 0 (.aload_n 0) 1 := by decide +kernel
theorem dX13_toss_1 : cod mX13_toss 1 (.iconst 0) 1 := by decide +kernel
theorem dX13_toss_2 : cod mX13_toss 2 (.putfield 115) 3 := by decide +kernel
theorem dX13_toss_5 : cod mX13_toss 5 (.aload_n 0) 1 := by decide +kernel
theorem dX13_toss_6 : cod mX13_toss 6 (.iload_n 1) 1 := by decide +kernel
theorem dX13_toss_7 : cod mX13_toss 7 (.invokevirtual 275) 3 := by decide +kernel
theorem dX13_toss_10 : cod mX13_toss 10 (.ifCond .ge 9) 3 := by decide +kernel
theorem dX13_toss_13 : cod mX13_toss 13 (.aload_n 0) 1 := by decide +kernel
theorem dX13_toss_14 : cod mX13_toss 14 (.iload_n 1) 1 := by decide +kernel
theorem dX13_toss_15 : cod mX13_toss 15 (.invokevirtual 275) 3 := by decide +kernel
theorem dX13_toss_18 : cod mX13_toss 18 (.ireturn) 1 := by decide +kernel
theorem dX13_toss_19 : cod mX13_toss 19 (.aload_n 0) 1 := by decide +kernel
theorem dX13_toss_20 : cod mX13_toss 20 (.getfield 100) 3 := by decide +kernel
theorem dX13_toss_23 : cod mX13_toss 23 (.iload_n 1) 1 := by decide +kernel
theorem dX13_toss_24 : cod mX13_toss 24 (.iaload) 1 := by decide +kernel
theorem dX13_toss_25 : cod mX13_toss 25 (.istore_n 2) 1 := by decide +kernel
theorem dX13_toss_26 : cod mX13_toss 26 (.aload_n 0) 1 := by decide +kernel
theorem dX13_toss_27 : cod mX13_toss 27 (.getfield 97) 3 := by decide +kernel
theorem dX13_toss_30 : cod mX13_toss 30 (.iload_n 1) 1 := by decide +kernel
theorem dX13_toss_31 : cod mX13_toss 31 (.iaload) 1 := by decide +kernel
theorem dX13_toss_32 : cod mX13_toss 32 (.iconst 5) 1 := by decide +kernel
theorem dX13_toss_33 : cod mX13_toss 33 (.if_icmp .eq 7) 3 := by decide +kernel
theorem dX13_toss_36 : cod mX13_toss 36 (.iload_n 2) 1 := by decide +kernel
theorem dX13_toss_37 : cod mX13_toss 37 (.ifCond .ne 6) 3 := by decide +kernel
theorem dX13_toss_40 : cod mX13_toss 40 (.bipush (-15)) 2 := by decide +kernel
theorem dX13_toss_42 : cod mX13_toss 42 (.ireturn) 1 := by decide +kernel
theorem dX13_toss_43 : cod mX13_toss 43 (.aload_n 0) 1 := by decide +kernel
theorem dX13_toss_44 : cod mX13_toss 44 (.getfield 97) 3 := by decide +kernel
theorem dX13_toss_47 : cod mX13_toss 47 (.iload_n 1) 1 := by decide +kernel
theorem dX13_toss_48 : cod mX13_toss 48 (.iaload) 1 := by decide +kernel
theorem dX13_toss_49 : cod mX13_toss 49 (.iconst 2) 1 := by decide +kernel
theorem dX13_toss_50 : cod mX13_toss 50 (.if_icmp .ne 10) 3 := by decide +kernel
theorem dX13_toss_53 : cod mX13_toss 53 (.bipush 100) 2 := by decide +kernel
theorem dX13_toss_55 : cod mX13_toss 55 (.iload_n 2) 1 := by decide +kernel
theorem dX13_toss_56 : cod mX13_toss 56 (.iadd) 1 := by decide +kernel
theorem dX13_toss_57 : cod mX13_toss 57 (.goto 26) 3 := by decide +kernel
theorem dX13_toss_60 : cod mX13_toss 60 (.aload_n 0) 1 := by decide +kernel
theorem dX13_toss_61 : cod mX13_toss 61 (.getfield 97) 3 := by decide +kernel
theorem dX13_toss_64 : cod mX13_toss 64 (.iload_n 1) 1 := by decide +kernel
theorem dX13_toss_65 : cod mX13_toss 65 (.iaload) 1 := by decide +kernel
theorem dX13_toss_66 : cod mX13_toss 66 (.iconst 4) 1 := by decide +kernel
theorem dX13_toss_67 : cod mX13_toss 67 (.if_icmp .ne 15) 3 := by decide +kernel
theorem dX13_toss_70 : cod mX13_toss 70 (.sipush 200) 3 := by decide +kernel
theorem dX13_toss_73 : cod mX13_toss 73 (.aload_n 0) 1 := by decide +kernel
theorem dX13_toss_74 : cod mX13_toss 74 (.iload_n 1) 1 := by decide +kernel
theorem dX13_toss_75 : cod mX13_toss 75 (.invokevirtual 392) 3 := by decide +kernel
theorem dX13_toss_78 : cod mX13_toss 78 (.iadd) 1 := by decide +kernel
theorem dX13_toss_79 : cod mX13_toss 79 (.goto 4) 3 := by decide +kernel
theorem dX13_toss_82 : cod mX13_toss 82 (.iload_n 2) 1 := by decide +kernel
theorem dX13_toss_83 : cod mX13_toss 83 (.ireturn) 1 := by decide +kernel
def wp_X13_toss (p0 : Nat) (p1 : Int32) (M : Mem) (Q : Int32 → Mem → Prop) : Prop := mK M p0 = 14 ∧ ∀ M1 : Mem, M1 = uI M p0 12 0 → wp_X13_wrongWay p0 p1 M1 (fun r6 M5 => ((0 : Int32) ≤ r6 → mK M5 p0 = 14 ∧ mK M5 (mR M5 p0 51) = 20 ∧ vp_in p1 (mN M5 (mR M5 p0 51)) ∧ ∀ y11 : Int32, y11 = mI M5 (mR M5 p0 51) p1.toNatClampNeg → mK M5 (mR M5 p0 50) = 20 ∧ vp_in p1 (mN M5 (mR M5 p0 50)) ∧ ((mI M5 (mR M5 p0 50) p1.toNatClampNeg) = (5 : Int32) → Q (-15) M5) ∧ (¬ (mI M5 (mR M5 p0 50) p1.toNatClampNeg) = (5 : Int32) → (¬ y11 = (0 : Int32) → vp_in p1 (mN M5 (mR M5 p0 50)) ∧ (¬ (mI M5 (mR M5 p0 50) p1.toNatClampNeg) = (2 : Int32) → vp_in p1 (mN M5 (mR M5 p0 50)) ∧ (¬ (mI M5 (mR M5 p0 50) p1.toNatClampNeg) = (4 : Int32) → Q y11 M5) ∧ ((mI M5 (mR M5 p0 50) p1.toNatClampNeg) = (4 : Int32) → wp_X13_spreadOf p0 p1 M5 (fun r32 M31 => Q (200 + r32) M31))) ∧ ((mI M5 (mR M5 p0 50) p1.toNatClampNeg) = (2 : Int32) → Q (100 + y11) M5)) ∧ (y11 = (0 : Int32) → Q (-15) M5))) ∧ (¬ (0 : Int32) ≤ r6 → mK M5 p0 = 14 ∧ wp_X13_wrongWay p0 p1 M5 (fun r35 M34 => Q r35 M34)))
theorem T_X13_toss {G : GG} {Q : Int32 → Mem → Prop} {M : Mem} {p0 : Nat} {p1 : Int32} (h : wp_X13_toss p0 p1 M Q) : PMet G mX13_toss 2 0 0 [.ref p0, .int p1] M (QI Q) :=
  mk_met (by decide) rfl rfl (by
    intro w hw x9 e9
    subst e9
    simp at hw) (Nat.le_of_ble_eq_true rfl) (s_pad (L1 := [some (.ref p0), some (.int p1), none]) 3 rfl (s_aload_n (pc := 0) dX13_toss_0 rfl (s_iconst (pc := 1) dX13_toss_1 ci_0 (s_putI (pc := 2) dX13_toss_2 f_X13_115 (Or.inl rfl) (Or.inl rfl) h.1 (nmM (fun M1 e2 => have h3 := h.2 M1 e2; s_aload_n (pc := 5) dX13_toss_5 rfl (s_iload_n (pc := 6) dX13_toss_6 rfl (s_callV (pc := 7) (As := [.int p1]) (rest := []) (d' := 1) (mc' := 0) (ms' := 0) dX13_toss_7 c_X13_275 (Nat.le_of_ble_eq_true rfl) rfl ((congrFun (congrArg mK e2) p0).trans h.1) rfl rfl (Nat.le_of_ble_eq_true rfl) (rm_ok rfl rfl) ⟨Nat.le_refl 0, Nat.le_refl 0⟩ (T_X13_wrongWay h3) (kkI (fun r6 M5 h4 => s_if_ge (pc := 10) (tgt := 19) dX13_toss_10 rfl (fun c7 => have h8 := h4.1 c7; s_aload_n (pc := 19) dX13_toss_19 rfl (s_getR (pc := 20) dX13_toss_20 f_X13_100 rfl h8.1 (s_iload_n (pc := 23) dX13_toss_23 rfl (s_ial (pc := 24) dX13_toss_24 h8.2.1 h8.2.2.1 (nmI (fun y11 e12 => have h13 := h8.2.2.2 y11 e12; s_istore_n (pc := 25) (L1 := [some (.ref p0), some (.int p1), some (.int y11)]) dX13_toss_25 (Nat.le_of_ble_eq_true rfl) rfl (s_aload_n (pc := 26) dX13_toss_26 rfl (s_getR (pc := 27) dX13_toss_27 f_X13_97 rfl h8.1 (s_iload_n (pc := 30) dX13_toss_30 rfl (s_ial (pc := 31) dX13_toss_31 h13.1 h13.2.1 (s_iconst (pc := 32) dX13_toss_32 ci_5 (s_icmp_eq (pc := 33) (tgt := 40) dX13_toss_33 rfl (fun c14 => have h15 := h13.2.2.1 c14; s_bipush (pc := 40) dX13_toss_40 cb_m15 (s_ireturn (pc := 42) dX13_toss_42 rfl (Nat.zero_le _) (Nat.zero_le _) ⟨_, rfl, h15⟩)) (fun c16 => have h17 := h13.2.2.2 c16; s_iload_n (pc := 36) dX13_toss_36 rfl (s_if_ne (pc := 37) (tgt := 43) dX13_toss_37 rfl (fun c18 => have h19 := h17.1 c18; s_aload_n (pc := 43) dX13_toss_43 rfl (s_getR (pc := 44) dX13_toss_44 f_X13_97 rfl h8.1 (s_iload_n (pc := 47) dX13_toss_47 rfl (s_ial (pc := 48) dX13_toss_48 h13.1 h19.1 (s_iconst (pc := 49) dX13_toss_49 ci_2 (s_icmp_ne (pc := 50) (tgt := 60) dX13_toss_50 rfl (fun c22 => have h23 := h19.2.1 c22; s_aload_n (pc := 60) dX13_toss_60 rfl (s_getR (pc := 61) dX13_toss_61 f_X13_97 rfl h8.1 (s_iload_n (pc := 64) dX13_toss_64 rfl (s_ial (pc := 65) dX13_toss_65 h13.1 h23.1 (s_iconst (pc := 66) dX13_toss_66 ci_4 (s_icmp_ne (pc := 67) (tgt := 82) dX13_toss_67 rfl (fun c26 => have h27 := h23.2.1 c26; s_iload_n (pc := 82) dX13_toss_82 rfl (s_ireturn (pc := 83) dX13_toss_83 rfl (Nat.zero_le _) (Nat.zero_le _) ⟨_, rfl, h27⟩)) (fun c28 => have h29 := h23.2.2 c28; s_sipush (pc := 70) dX13_toss_70 cs_200 (s_aload_n (pc := 73) dX13_toss_73 rfl (s_iload_n (pc := 74) dX13_toss_74 rfl (s_callV (pc := 75) (As := [.int p1]) (rest := [.int 200]) (d' := 0) (mc' := 0) (ms' := 0) dX13_toss_75 c_X13_392 (Nat.le_of_ble_eq_true rfl) rfl h8.1 rfl rfl (Nat.le_of_ble_eq_true rfl) (rm_ok rfl rfl) ⟨Nat.le_refl 0, Nat.le_refl 0⟩ (T_X13_spreadOf h29) (kkI (fun r32 M31 h30 => s_iadd (pc := 78) dX13_toss_78 (s_goto (pc := 79) (tgt := 83) dX13_toss_79 rfl (s_ireturn (pc := 83) dX13_toss_83 rfl (Nat.zero_le _) (Nat.zero_le _) ⟨_, rfl, h30⟩)))))))))))))) (fun c24 => have h25 := h19.2.2 c24; s_bipush (pc := 53) dX13_toss_53 cb_100 (s_iload_n (pc := 55) dX13_toss_55 rfl (s_iadd (pc := 56) dX13_toss_56 (s_goto (pc := 57) (tgt := 83) dX13_toss_57 rfl (s_ireturn (pc := 83) dX13_toss_83 rfl (Nat.zero_le _) (Nat.zero_le _) ⟨_, rfl, h25⟩))))))))))) (fun c20 => have h21 := h17.2 c20; s_bipush (pc := 40) dX13_toss_40 cb_m15 (s_ireturn (pc := 42) dX13_toss_42 rfl (Nat.zero_le _) (Nat.zero_le _) ⟨_, rfl, h21⟩)))))))))))))))) (fun c9 => have h10 := h4.2 c9; s_aload_n (pc := 13) dX13_toss_13 rfl (s_iload_n (pc := 14) dX13_toss_14 rfl (s_callV (pc := 15) (As := [.int p1]) (rest := []) (d' := 1) (mc' := 0) (ms' := 0) dX13_toss_15 c_X13_275 (Nat.le_of_ble_eq_true rfl) rfl h10.1 rfl rfl (Nat.le_of_ble_eq_true rfl) (rm_ok rfl rfl) ⟨Nat.le_refl 0, Nat.le_refl 0⟩ (T_X13_wrongWay h10.2) (kkI (fun r35 M34 h33 => s_ireturn (pc := 18) dX13_toss_18 rfl (Nat.zero_le _) (Nat.zero_le _) ⟨_, rfl, h33⟩)))))))))))))))
/-! X13_worth -/
theorem dX13_worth_0 : cod mX13_worth 0 (.aload_n 0) 1 := by decide +kernel
theorem dX13_worth_1 : cod mX13_worth 1 (.iconst 0) 1 := by decide +kernel
theorem dX13_worth_2 : cod mX13_worth 2 (.putfield 115) 3 := by decide +kernel
theorem dX13_worth_5 : cod mX13_worth 5 (.aload_n 0) 1 := by decide +kernel
theorem dX13_worth_6 : cod mX13_worth 6 (.iload_n 1) 1 := by decide +kernel
theorem dX13_worth_7 : cod mX13_worth 7 (.invokevirtual 193) 3 := by decide +kernel
theorem dX13_worth_10 : cod mX13_worth 10 (.ifCond .eq 35) 3 := by decide +kernel
theorem dX13_worth_13 : cod mX13_worth 13 (.iload_n 2) 1 := by decide +kernel
theorem dX13_worth_14 : cod mX13_worth 14 (.i2l) 1 := by decide +kernel
theorem dX13_worth_15 : cod mX13_worth 15 (.lconst 0) 1 := by decide +kernel
theorem dX13_worth_16 : cod mX13_worth 16 (.lconst 1) 1 := by decide +kernel
theorem dX13_worth_17 : cod mX13_worth 17 (.invokestatic 122) 3 := by decide +kernel
theorem dX13_worth_20 : cod mX13_worth 20 (.ifCond .eq 25) 3 := by decide +kernel
theorem dX13_worth_23 : cod mX13_worth 23 (.iload_n 2) 1 := by decide +kernel
theorem dX13_worth_24 : cod mX13_worth 24 (.ifCond .ne 12) 3 := by decide +kernel
theorem dX13_worth_27 : cod mX13_worth 27 (.aload_n 0) 1 := by decide +kernel
theorem dX13_worth_28 : cod mX13_worth 28 (.getfield 7) 3 := by decide +kernel
theorem dX13_worth_31 : cod mX13_worth 31 (.iload_n 1) 1 := by decide +kernel
theorem dX13_worth_32 : cod mX13_worth 32 (.iaload) 1 := by decide +kernel
theorem dX13_worth_33 : cod mX13_worth 33 (.goto 13) 3 := by decide +kernel
theorem dX13_worth_36 : cod mX13_worth 36 (.aload_n 0) 1 := by decide +kernel
theorem dX13_worth_37 : cod mX13_worth 37 (.getfield 13) 3 := by decide +kernel
theorem dX13_worth_40 : cod mX13_worth 40 (.iload_n 1) 1 := by decide +kernel
theorem dX13_worth_41 : cod mX13_worth 41 (.iaload) 1 := by decide +kernel
theorem dX13_worth_42 : cod mX13_worth 42 (.goto 4) 3 := by decide +kernel
theorem dX13_worth_45 : cod mX13_worth 45 (.iconst (-1)) 1 := by decide +kernel
theorem dX13_worth_46 : cod mX13_worth 46 (.ireturn) 1 := by decide +kernel
def wp_X13_worth (p0 : Nat) (p1 : Int32) (p2 : Int32) (M : Mem) (Q : Int32 → Mem → Prop) : Prop := mK M p0 = 14 ∧ ∀ M1 : Mem, M1 = uI M p0 12 0 → wp_X13_isWorth p0 p1 M1 (fun r6 M5 => (r6 = (0 : Int32) → Q (-1) M5) ∧ (¬ r6 = (0 : Int32) → wp_X13_in p2.toInt64 0 1 M5 (fun r13 M12 => (r13 = (0 : Int32) → Q (-1) M12) ∧ (¬ r13 = (0 : Int32) → (¬ p2 = (0 : Int32) → mK M12 p0 = 14 ∧ mK M12 (mR M12 p0 2) = 20 ∧ vp_in p1 (mN M12 (mR M12 p0 2)) ∧ Q (mI M12 (mR M12 p0 2) p1.toNatClampNeg) M12) ∧ (p2 = (0 : Int32) → mK M12 p0 = 14 ∧ mK M12 (mR M12 p0 1) = 20 ∧ vp_in p1 (mN M12 (mR M12 p0 1)) ∧ Q (mI M12 (mR M12 p0 1) p1.toNatClampNeg) M12)))))
theorem T_X13_worth {G : GG} {Q : Int32 → Mem → Prop} {M : Mem} {p0 : Nat} {p1 : Int32} {p2 : Int32} (h : wp_X13_worth p0 p1 p2 M Q) : PMet G mX13_worth 2 0 0 [.ref p0, .int p1, .int p2] M (QI Q) :=
  mk_met (by decide) rfl rfl (by
    intro w hw x9 e9
    subst e9
    simp at hw) (Nat.le_of_ble_eq_true rfl) (s_pad (L1 := [some (.ref p0), some (.int p1), some (.int p2)]) 3 rfl (s_aload_n (pc := 0) dX13_worth_0 rfl (s_iconst (pc := 1) dX13_worth_1 ci_0 (s_putI (pc := 2) dX13_worth_2 f_X13_115 (Or.inl rfl) (Or.inl rfl) h.1 (nmM (fun M1 e2 => have h3 := h.2 M1 e2; s_aload_n (pc := 5) dX13_worth_5 rfl (s_iload_n (pc := 6) dX13_worth_6 rfl (s_callV (pc := 7) (As := [.int p1]) (rest := []) (d' := 1) (mc' := 0) (ms' := 0) dX13_worth_7 c_X13_193 (Nat.le_of_ble_eq_true rfl) rfl ((congrFun (congrArg mK e2) p0).trans h.1) rfl rfl (Nat.le_of_ble_eq_true rfl) (rm_ok rfl rfl) ⟨Nat.le_refl 0, Nat.le_refl 0⟩ (T_X13_isWorth h3) (kkI (fun r6 M5 h4 => s_if_eq (pc := 10) (tgt := 45) dX13_worth_10 rfl (fun c7 => have h8 := h4.1 c7; s_iconst (pc := 45) dX13_worth_45 ci_m1 (s_ireturn (pc := 46) dX13_worth_46 rfl (Nat.zero_le _) (Nat.zero_le _) ⟨_, rfl, h8⟩)) (fun c9 => have h10 := h4.2 c9; s_iload_n (pc := 13) dX13_worth_13 rfl (s_i2l (pc := 14) dX13_worth_14 (s_lconst (pc := 15) (v := 0) dX13_worth_15 rfl (s_lconst (pc := 16) (v := 1) dX13_worth_16 rfl (s_callS (pc := 17) (As := [.long p2.toInt64, .long 0, .long 1]) (rest := []) (d' := 0) (mc' := 0) (ms' := 0) dX13_worth_17 c_X13_122 rfl rfl (Nat.le_of_ble_eq_true rfl) (rm_ok rfl rfl) ⟨Nat.le_refl 0, Nat.le_refl 0⟩ (T_X13_in h10) (kkI (fun r13 M12 h11 => s_if_eq (pc := 20) (tgt := 45) dX13_worth_20 rfl (fun c14 => have h15 := h11.1 c14; s_iconst (pc := 45) dX13_worth_45 ci_m1 (s_ireturn (pc := 46) dX13_worth_46 rfl (Nat.zero_le _) (Nat.zero_le _) ⟨_, rfl, h15⟩)) (fun c16 => have h17 := h11.2 c16; s_iload_n (pc := 23) dX13_worth_23 rfl (s_if_ne (pc := 24) (tgt := 36) dX13_worth_24 rfl (fun c18 => have h19 := h17.1 c18; s_aload_n (pc := 36) dX13_worth_36 rfl (s_getR (pc := 37) dX13_worth_37 f_X13_13 rfl h19.1 (s_iload_n (pc := 40) dX13_worth_40 rfl (s_ial (pc := 41) dX13_worth_41 h19.2.1 h19.2.2.1 (s_goto (pc := 42) (tgt := 46) dX13_worth_42 rfl (s_ireturn (pc := 46) dX13_worth_46 rfl (Nat.zero_le _) (Nat.zero_le _) ⟨_, rfl, h19.2.2.2⟩)))))) (fun c20 => have h21 := h17.2 c20; s_aload_n (pc := 27) dX13_worth_27 rfl (s_getR (pc := 28) dX13_worth_28 f_X13_7 rfl h21.1 (s_iload_n (pc := 31) dX13_worth_31 rfl (s_ial (pc := 32) dX13_worth_32 h21.2.1 h21.2.2.1 (s_goto (pc := 33) (tgt := 46) dX13_worth_33 rfl (s_ireturn (pc := 46) dX13_worth_46 rfl (Nat.zero_le _) (Nat.zero_le _) ⟨_, rfl, h21.2.2.2⟩)))))))))))))))))))))))))
