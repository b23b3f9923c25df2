/-! X7_carryOut -/
theorem dX7_carryOut_0 : cod mX7_carryOut 0 (.iload_n 2) 1 := by decide +kernel
theorem dX7_carryOut_1 : cod mX7_carryOut 1 (.lookupswitch 127 #[(99, 68), (104, 115), (107, 103), (109, 91), (119, 51)]) 51 := by decide +kernel
theorem dX7_carryOut_52 : cod mX7_carryOut 52 (.aload_n 1) 1 := by decide +kernel
theorem dX7_carryOut_53 : cod mX7_carryOut 53 (.aload_n 0) 1 := by decide +kernel
theorem dX7_carryOut_54 : cod mX7_carryOut 54 (.getfield 7) 3 := by decide +kernel
theorem dX7_carryOut_57 : cod mX7_carryOut 57 (.iconst 0) 1 := by decide +kernel
theorem dX7_carryOut_58 : cod mX7_carryOut 58 (.iaload) 1 := by decide +kernel
theorem dX7_carryOut_59 : cod mX7_carryOut 59 (.aload_n 0) 1 := by decide +kernel
theorem dX7_carryOut_60 : cod mX7_carryOut 60 (.getfield 7) 3 := by decide +kernel
theorem dX7_carryOut_63 : cod mX7_carryOut 63 (.iconst 1) 1 := by decide +kernel
theorem dX7_carryOut_64 : cod mX7_carryOut 64 (.iaload) 1 := by decide +kernel
theorem dX7_carryOut_65 : cod mX7_carryOut 65 (.invokevirtual 57) 3 := by decide +kernel
theorem dX7_carryOut_68 : cod mX7_carryOut 68 (.ireturn) 1 := by decide +kernel
theorem dX7_carryOut_69 : cod mX7_carryOut 69 (.aload_n 1) 1 := by decide +kernel
theorem dX7_carryOut_70 : cod mX7_carryOut 70 (.aload_n 0) 1 := by decide +kernel
theorem dX7_carryOut_71 : cod mX7_carryOut 71 (.getfield 7) 3 := by decide +kernel
theorem dX7_carryOut_74 : cod mX7_carryOut 74 (.iconst 0) 1 := by decide +kernel
theorem dX7_carryOut_75 : cod mX7_carryOut 75 (.iaload) 1 := by decide +kernel
theorem dX7_carryOut_76 : cod mX7_carryOut 76 (.aload_n 0) 1 := by decide +kernel
theorem dX7_carryOut_77 : cod mX7_carryOut 77 (.getfield 7) 3 := by decide +kernel
theorem dX7_carryOut_80 : cod mX7_carryOut 80 (.iconst 1) 1 := by decide +kernel
theorem dX7_carryOut_81 : cod mX7_carryOut 81 (.iaload) 1 := by decide +kernel
theorem dX7_carryOut_82 : cod mX7_carryOut 82 (.aload_n 0) 1 := by decide +kernel
theorem dX7_carryOut_83 : cod mX7_carryOut 83 (.getfield 7) 3 := by decide +kernel
theorem dX7_carryOut_86 : cod mX7_carryOut 86 (.iconst 2) 1 := by decide +kernel
theorem dX7_carryOut_87 : cod mX7_carryOut 87 (.iaload) 1 := by decide +kernel
theorem dX7_carryOut_88 : cod mX7_carryOut 88 (.invokevirtual 63) 3 := by decide +kernel
theorem dX7_carryOut_91 : cod mX7_carryOut 91 (.ireturn) 1 := by decide +kernel
theorem dX7_carryOut_92 : cod mX7_carryOut 92 (.aload_n 1) 1 := by decide +kernel
theorem dX7_carryOut_93 : cod mX7_carryOut 93 (.iconst 0) 1 := by decide +kernel
theorem dX7_carryOut_94 : cod mX7_carryOut 94 (.aload_n 0) 1 := by decide +kernel
theorem dX7_carryOut_95 : cod mX7_carryOut 95 (.getfield 7) 3 := by decide +kernel
theorem dX7_carryOut_98 : cod mX7_carryOut 98 (.iconst 0) 1 := by decide +kernel
theorem dX7_carryOut_99 : cod mX7_carryOut 99 (.iaload) 1 := by decide +kernel
theorem dX7_carryOut_100 : cod mX7_carryOut 100 (.invokevirtual 67) 3 := by decide +kernel
theorem dX7_carryOut_103 : cod mX7_carryOut 103 (.ireturn) 1 := by decide +kernel
theorem dX7_carryOut_104 : cod mX7_carryOut 104 (.aload_n 1) 1 := by decide +kernel
theorem dX7_carryOut_105 : cod mX7_carryOut 105 (.iconst 1) 1 := by decide +kernel
theorem dX7_carryOut_106 : cod mX7_carryOut 106 (.aload_n 0) 1 := by decide +kernel
theorem dX7_carryOut_107 : cod mX7_carryOut 107 (.getfield 7) 3 := by decide +kernel
theorem dX7_carryOut_110 : cod mX7_carryOut 110 (.iconst 0) 1 := by decide +kernel
theorem dX7_carryOut_111 : cod mX7_carryOut 111 (.iaload) 1 := by decide +kernel
theorem dX7_carryOut_112 : cod mX7_carryOut 112 (.invokevirtual 67) 3 := by decide +kernel
theorem dX7_carryOut_115 : cod mX7_carryOut 115 (.ireturn) 1 := by decide +kernel
theorem dX7_carryOut_116 : cod mX7_carryOut 116 (.aload_n 1) 1 := by decide +kernel
theorem dX7_carryOut_117 : cod mX7_carryOut 117 (.iconst 2) 1 := by decide +kernel
theorem dX7_carryOut_118 : cod mX7_carryOut 118 (.aload_n 0) 1 := by decide +kernel
theorem dX7_carryOut_119 : cod mX7_carryOut 119 (.getfield 7) 3 := by decide +kernel
theorem dX7_carryOut_122 : cod mX7_carryOut 122 (.iconst 0) 1 := by decide +kernel
theorem dX7_carryOut_123 : cod mX7_carryOut 123 (.iaload) 1 := by decide +kernel
theorem dX7_carryOut_124 : cod mX7_carryOut 124 (.invokevirtual 67) 3 := by decide +kernel
theorem dX7_carryOut_127 : cod mX7_carryOut 127 (.ireturn) 1 := by decide +kernel
theorem dX7_carryOut_128 : cod mX7_carryOut 128 (.iconst 0) 1 := by decide +kernel
theorem dX7_carryOut_129 : cod mX7_carryOut 129 (.ireturn) 1 := by decide +kernel
def wp_X7_carryOut (p0 : Nat) (p1 : Nat) (p2 : Int32) (M : Mem) (Q : Int32 → Mem → Prop) : Prop := (p2 = 99 → mK M p0 = 8 ∧ mK M (mR M p0 3) = 20 ∧ vp_in (0 : Int32) (mN M (mR M p0 3)) ∧ vp_in (1 : Int32) (mN M (mR M p0 3)) ∧ vp_in (2 : Int32) (mN M (mR M p0 3)) ∧ mK M p1 = 7 ∧ wp_X6_addSort p1 (mI M (mR M p0 3) (0 : Int32).toNatClampNeg) (mI M (mR M p0 3) (1 : Int32).toNatClampNeg) (mI M (mR M p0 3) (2 : Int32).toNatClampNeg) M (fun r5 M4 => (r5 = 0 ∨ r5 = 1) ∧ Q r5 M4)) ∧ (p2 = 104 → mK M p0 = 8 ∧ mK M (mR M p0 3) = 20 ∧ vp_in (0 : Int32) (mN M (mR M p0 3)) ∧ mK M p1 = 7 ∧ wp_X6_change p1 2 (mI M (mR M p0 3) (0 : Int32).toNatClampNeg) M (fun r10 M9 => (r10 = 0 ∨ r10 = 1) ∧ Q r10 M9)) ∧ (p2 = 107 → mK M p0 = 8 ∧ mK M (mR M p0 3) = 20 ∧ vp_in (0 : Int32) (mN M (mR M p0 3)) ∧ mK M p1 = 7 ∧ wp_X6_change p1 1 (mI M (mR M p0 3) (0 : Int32).toNatClampNeg) M (fun r15 M14 => (r15 = 0 ∨ r15 = 1) ∧ Q r15 M14)) ∧ (p2 = 109 → mK M p0 = 8 ∧ mK M (mR M p0 3) = 20 ∧ vp_in (0 : Int32) (mN M (mR M p0 3)) ∧ mK M p1 = 7 ∧ wp_X6_change p1 0 (mI M (mR M p0 3) (0 : Int32).toNatClampNeg) M (fun r20 M19 => (r20 = 0 ∨ r20 = 1) ∧ Q r20 M19)) ∧ (p2 = 119 → mK M p0 = 8 ∧ mK M (mR M p0 3) = 20 ∧ vp_in (0 : Int32) (mN M (mR M p0 3)) ∧ vp_in (1 : Int32) (mN M (mR M p0 3)) ∧ mK M p1 = 7 ∧ wp_X6_addWorth p1 (mI M (mR M p0 3) (0 : Int32).toNatClampNeg) (mI M (mR M p0 3) (1 : Int32).toNatClampNeg) M (fun r25 M24 => (r25 = 0 ∨ r25 = 1) ∧ Q r25 M24)) ∧ (¬ p2 = 99 → ¬ p2 = 104 → ¬ p2 = 107 → ¬ p2 = 109 → ¬ p2 = 119 → Q 0 M)
theorem T_X7_carryOut {G : GG} {Q : Int32 → Mem → Prop} {M : Mem} {p0 : Nat} {p1 : Nat} {p2 : Int32} (h : wp_X7_carryOut p0 p1 p2 M Q) : PMet G mX7_carryOut 2 0 0 [.ref p0, .ref p1, .int p2] M (QI Q) :=
  mk_met (by decide) rfl rfl (by
    intro w hw x9 e9
    subst e9
    simp at hw) (Nat.le_of_ble_eq_true rfl) (s_pad (L1 := [some (.ref p0), some (.ref p1), some (.int p2)]) 3 rfl (s_iload_n (pc := 0) dX7_carryOut_0 rfl (by
      by_cases c2 : p2 = 99
      · have h1 := h.1 c2
        exact s_ls (pc := 1) (off := 68) (tgt := 69) dX7_carryOut_1 rfl (by rw [c2]; rfl) rfl (s_aload_n (pc := 69) dX7_carryOut_69 rfl (s_aload_n (pc := 70) dX7_carryOut_70 rfl (s_getR (pc := 71) dX7_carryOut_71 f_X7_7 rfl h1.1 (s_iconst (pc := 74) dX7_carryOut_74 ci_0 (s_ial (pc := 75) dX7_carryOut_75 h1.2.1 h1.2.2.1 (s_aload_n (pc := 76) dX7_carryOut_76 rfl (s_getR (pc := 77) dX7_carryOut_77 f_X7_7 rfl h1.1 (s_iconst (pc := 80) dX7_carryOut_80 ci_1 (s_ial (pc := 81) dX7_carryOut_81 h1.2.1 h1.2.2.2.1 (s_aload_n (pc := 82) dX7_carryOut_82 rfl (s_getR (pc := 83) dX7_carryOut_83 f_X7_7 rfl h1.1 (s_iconst (pc := 86) dX7_carryOut_86 ci_2 (s_ial (pc := 87) dX7_carryOut_87 h1.2.1 h1.2.2.2.2.1 (s_callV (pc := 88) (As := [.int (mI M (mR M p0 3) (0 : Int32).toNatClampNeg), .int (mI M (mR M p0 3) (1 : Int32).toNatClampNeg), .int (mI M (mR M p0 3) (2 : Int32).toNatClampNeg)]) (rest := []) (d' := 1) (mc' := 0) (ms' := 0) dX7_carryOut_88 c_X7_63 (Nat.le_of_ble_eq_true rfl) rfl h1.2.2.2.2.2.1 rfl rfl (Nat.le_of_ble_eq_true rfl) (rm_ok rfl rfl) ⟨Nat.le_refl 0, Nat.le_refl 0⟩ (T_X6_addSort h1.2.2.2.2.2.2) (kkI (fun r5 M4 h3 => s_zreturn (pc := 91) dX7_carryOut_91 rfl h3.1 (Nat.zero_le _) (Nat.zero_le _) ⟨_, rfl, h3.2⟩))))))))))))))))
      by_cases c7 : p2 = 104
      · have h6 := h.2.1 c7
        exact s_ls (pc := 1) (off := 115) (tgt := 116) dX7_carryOut_1 rfl (by rw [c7]; rfl) rfl (s_aload_n (pc := 116) dX7_carryOut_116 rfl (s_iconst (pc := 117) dX7_carryOut_117 ci_2 (s_aload_n (pc := 118) dX7_carryOut_118 rfl (s_getR (pc := 119) dX7_carryOut_119 f_X7_7 rfl h6.1 (s_iconst (pc := 122) dX7_carryOut_122 ci_0 (s_ial (pc := 123) dX7_carryOut_123 h6.2.1 h6.2.2.1 (s_callV (pc := 124) (As := [.int 2, .int (mI M (mR M p0 3) (0 : Int32).toNatClampNeg)]) (rest := []) (d' := 0) (mc' := 0) (ms' := 0) dX7_carryOut_124 c_X7_67 (Nat.le_of_ble_eq_true rfl) rfl h6.2.2.2.1 rfl rfl (Nat.le_of_ble_eq_true rfl) (rm_ok rfl rfl) ⟨Nat.le_refl 0, Nat.le_refl 0⟩ (T_X6_change h6.2.2.2.2) (kkI (fun r10 M9 h8 => s_zreturn (pc := 127) dX7_carryOut_127 rfl h8.1 (Nat.zero_le _) (Nat.zero_le _) ⟨_, rfl, h8.2⟩)))))))))
      by_cases c12 : p2 = 107
      · have h11 := h.2.2.1 c12
        exact s_ls (pc := 1) (off := 103) (tgt := 104) dX7_carryOut_1 rfl (by rw [c12]; rfl) rfl (s_aload_n (pc := 104) dX7_carryOut_104 rfl (s_iconst (pc := 105) dX7_carryOut_105 ci_1 (s_aload_n (pc := 106) dX7_carryOut_106 rfl (s_getR (pc := 107) dX7_carryOut_107 f_X7_7 rfl h11.1 (s_iconst (pc := 110) dX7_carryOut_110 ci_0 (s_ial (pc := 111) dX7_carryOut_111 h11.2.1 h11.2.2.1 (s_callV (pc := 112) (As := [.int 1, .int (mI M (mR M p0 3) (0 : Int32).toNatClampNeg)]) (rest := []) (d' := 0) (mc' := 0) (ms' := 0) dX7_carryOut_112 c_X7_67 (Nat.le_of_ble_eq_true rfl) rfl h11.2.2.2.1 rfl rfl (Nat.le_of_ble_eq_true rfl) (rm_ok rfl rfl) ⟨Nat.le_refl 0, Nat.le_refl 0⟩ (T_X6_change h11.2.2.2.2) (kkI (fun r15 M14 h13 => s_zreturn (pc := 115) dX7_carryOut_115 rfl h13.1 (Nat.zero_le _) (Nat.zero_le _) ⟨_, rfl, h13.2⟩)))))))))
      by_cases c17 : p2 = 109
      · have h16 := h.2.2.2.1 c17
        exact s_ls (pc := 1) (off := 91) (tgt := 92) dX7_carryOut_1 rfl (by rw [c17]; rfl) rfl (s_aload_n (pc := 92) dX7_carryOut_92 rfl (s_iconst (pc := 93) dX7_carryOut_93 ci_0 (s_aload_n (pc := 94) dX7_carryOut_94 rfl (s_getR (pc := 95) dX7_carryOut_95 f_X7_7 rfl h16.1 (s_iconst (pc := 98) dX7_carryOut_98 ci_0 (s_ial (pc := 99) dX7_carryOut_99 h16.2.1 h16.2.2.1 (s_callV (pc := 100) (As := [.int 0, .int (mI M (mR M p0 3) (0 : Int32).toNatClampNeg)]) (rest := []) (d' := 0) (mc' := 0) (ms' := 0) dX7_carryOut_100 c_X7_67 (Nat.le_of_ble_eq_true rfl) rfl h16.2.2.2.1 rfl rfl (Nat.le_of_ble_eq_true rfl) (rm_ok rfl rfl) ⟨Nat.le_refl 0, Nat.le_refl 0⟩ (T_X6_change h16.2.2.2.2) (kkI (fun r20 M19 h18 => s_zreturn (pc := 103) dX7_carryOut_103 rfl h18.1 (Nat.zero_le _) (Nat.zero_le _) ⟨_, rfl, h18.2⟩)))))))))
      by_cases c22 : p2 = 119
      · have h21 := h.2.2.2.2.1 c22
        exact s_ls (pc := 1) (off := 51) (tgt := 52) dX7_carryOut_1 rfl (by rw [c22]; rfl) rfl (s_aload_n (pc := 52) dX7_carryOut_52 rfl (s_aload_n (pc := 53) dX7_carryOut_53 rfl (s_getR (pc := 54) dX7_carryOut_54 f_X7_7 rfl h21.1 (s_iconst (pc := 57) dX7_carryOut_57 ci_0 (s_ial (pc := 58) dX7_carryOut_58 h21.2.1 h21.2.2.1 (s_aload_n (pc := 59) dX7_carryOut_59 rfl (s_getR (pc := 60) dX7_carryOut_60 f_X7_7 rfl h21.1 (s_iconst (pc := 63) dX7_carryOut_63 ci_1 (s_ial (pc := 64) dX7_carryOut_64 h21.2.1 h21.2.2.2.1 (s_callV (pc := 65) (As := [.int (mI M (mR M p0 3) (0 : Int32).toNatClampNeg), .int (mI M (mR M p0 3) (1 : Int32).toNatClampNeg)]) (rest := []) (d' := 1) (mc' := 0) (ms' := 0) dX7_carryOut_65 c_X7_57 (Nat.le_of_ble_eq_true rfl) rfl h21.2.2.2.2.1 rfl rfl (Nat.le_of_ble_eq_true rfl) (rm_ok rfl rfl) ⟨Nat.le_refl 0, Nat.le_refl 0⟩ (T_X6_addWorth h21.2.2.2.2.2) (kkI (fun r25 M24 h23 => s_zreturn (pc := 68) dX7_carryOut_68 rfl h23.1 (Nat.zero_le _) (Nat.zero_le _) ⟨_, rfl, h23.2⟩))))))))))))
      have h26 := h.2.2.2.2.2 c2 c7 c12 c17 c22
      exact s_ls (pc := 1) (off := 127) (tgt := 128) dX7_carryOut_1 rfl (by show Op.lookupswitch.offset [(99, 68), (104, 115), (107, 103), (109, 91), (119, 51)] 127 _ = _; rw [lv_osw (k := 99) c2 (by decide), lv_osw (k := 104) c7 (by decide), lv_osw (k := 107) c12 (by decide), lv_osw (k := 109) c17 (by decide), lv_osw (k := 119) c22 (by decide)]; rfl) rfl (s_iconst (pc := 128) dX7_carryOut_128 ci_0 (s_zreturn (pc := 129) dX7_carryOut_129 rfl (Or.inl rfl) (Nat.zero_le _) (Nat.zero_le _) ⟨_, rfl, h26⟩)))))
/-! X7_tellTo -/
theorem dX7_tellTo_0 : cod mX7_tellTo 0 (.aload_n 0) 1 := by decide +kernel
theorem dX7_tellTo_1 : cod mX7_tellTo 1 (.aload_n 2) 1 := by decide +kernel
theorem dX7_tellTo_2 : cod mX7_tellTo 2 (.invokevirtual 13) 3 := by decide +kernel
theorem dX7_tellTo_5 : cod mX7_tellTo 5 (.istore_n 3) 1 := by decide +kernel
theorem dX7_tellTo_6 : cod mX7_tellTo 6 (.iload_n 3) 1 := by decide +kernel
theorem dX7_tellTo_7 : cod mX7_tellTo 7 (.ifCond .ge 5) 3 := by decide +kernel
theorem dX7_tellTo_10 : cod mX7_tellTo 10 (.iload_n 3) 1 := by decide +kernel
theorem dX7_tellTo_11 : cod mX7_tellTo 11 (.ireturn) 1 := by decide +kernel
theorem dX7_tellTo_12 : cod mX7_tellTo 12 (.iconst 0) 1 := by decide +kernel
theorem dX7_tellTo_13 : cod mX7_tellTo 13 (.istore 4) 2 := by decide +kernel
theorem dX7_tellTo_15 : cod mX7_tellTo 15 (.iconst 0) 1 := by decide +kernel
theorem dX7_tellTo_16 : cod mX7_tellTo 16 (.istore 5) 2 := by decide +kernel
theorem dX7_tellTo_18 : cod mX7_tellTo 18 (.aload_n 0) 1 := by decide +kernel
theorem dX7_tellTo_19 : cod mX7_tellTo 19 (.iconst 0) 1 := by decide +kernel
theorem dX7_tellTo_20 : cod mX7_tellTo 20 (.putfield 17) 3 := by decide +kernel
theorem dX7_tellTo_23 : cod mX7_tellTo 23 (.iconst 0) 1 := by decide +kernel
theorem dX7_tellTo_24 : cod mX7_tellTo 24 (.istore 6) 2 := by decide +kernel
theorem dX7_tellTo_26 : cod mX7_tellTo 26 (.iload 6) 2 := by decide +kernel
theorem dX7_tellTo_28 : cod mX7_tellTo 28 (.aload_n 2) 1 := by decide +kernel
theorem dX7_tellTo_29 : cod mX7_tellTo 29 (.getfield 21) 3 := by decide +kernel
theorem dX7_tellTo_32 : cod mX7_tellTo 32 (.if_icmp .ge 59) 3 := by decide +kernel
theorem dX7_tellTo_35 : cod mX7_tellTo 35 (.aload_n 0) 1 := by decide +kernel
theorem dX7_tellTo_36 : cod mX7_tellTo 36 (.aload_n 2) 1 := by decide +kernel
theorem dX7_tellTo_37 : cod mX7_tellTo 37 (.getfield 26) 3 := by decide +kernel
theorem dX7_tellTo_40 : cod mX7_tellTo 40 (.iload 6) 2 := by decide +kernel
theorem dX7_tellTo_42 : cod mX7_tellTo 42 (.iaload) 1 := by decide +kernel
theorem dX7_tellTo_43 : cod mX7_tellTo 43 (.invokevirtual 29) 3 := by decide +kernel
theorem dX7_tellTo_46 : cod mX7_tellTo 46 (.pop) 1 := by decide +kernel
theorem dX7_tellTo_47 : cod mX7_tellTo 47 (.aload_n 0) 1 := by decide +kernel
theorem dX7_tellTo_48 : cod mX7_tellTo 48 (.getfield 17) 3 := by decide +kernel
theorem dX7_tellTo_51 : cod mX7_tellTo 51 (.ifCond .ne 34) 3 := by decide +kernel
theorem dX7_tellTo_54 : cod mX7_tellTo 54 (.aload_n 0) 1 := by decide +kernel
theorem dX7_tellTo_55 : cod mX7_tellTo 55 (.aload_n 1) 1 := by decide +kernel
theorem dX7_tellTo_56 : cod mX7_tellTo 56 (.aload_n 2) 1 := by decide +kernel
theorem dX7_tellTo_57 : cod mX7_tellTo 57 (.getfield 26) 3 := by decide +kernel
theorem dX7_tellTo_60 : cod mX7_tellTo 60 (.iload 5) 2 := by decide +kernel
theorem dX7_tellTo_62 : cod mX7_tellTo 62 (.iaload) 1 := by decide +kernel
theorem dX7_tellTo_63 : cod mX7_tellTo 63 (.invokevirtual 33) 3 := by decide +kernel
theorem dX7_tellTo_66 : cod mX7_tellTo 66 (.ifCond .ne 10) 3 := by decide +kernel
theorem dX7_tellTo_69 : cod mX7_tellTo 69 (.sipush (-2000)) 3 := by decide +kernel
theorem dX7_tellTo_72 : cod mX7_tellTo 72 (.iload 5) 2 := by decide +kernel
theorem dX7_tellTo_74 : cod mX7_tellTo 74 (.isub) 1 := by decide +kernel
theorem dX7_tellTo_75 : cod mX7_tellTo 75 (.ireturn) 1 := by decide +kernel
theorem dX7_tellTo_76 : cod mX7_tellTo 76 (.iinc 4 1) 3 := by decide +kernel
theorem dX7_tellTo_79 : cod mX7_tellTo 79 (.iload 6) 2 := by decide +kernel
theorem dX7_tellTo_81 : cod mX7_tellTo 81 (.iconst 1) 1 := by decide +kernel
theorem dX7_tellTo_82 : cod mX7_tellTo 82 (.iadd) 1 := by decide +kernel
theorem dX7_tellTo_83 : cod mX7_tellTo 83 (.istore 5) 2 := by decide +kernel
theorem dX7_tellTo_85 : cod mX7_tellTo 85 (.iinc 6 1) 3 := by decide +kernel
theorem dX7_tellTo_88 : cod mX7_tellTo 88 (.goto (-62)) 3 := by decide +kernel
theorem dX7_tellTo_91 : cod mX7_tellTo 91 (.iload 4) 2 := by decide +kernel
theorem dX7_tellTo_93 : cod mX7_tellTo 93 (.ireturn) 1 := by decide +kernel
def jn_X7_tellTo_85 (K26 : Nat → Nat → Nat → Int32 → Int32 → Int32 → Mem → Prop) (Q : Int32 → Mem → Prop) (x0 : Nat) (x1 : Nat) (x2 : Nat) (x4 : Int32) (x5 : Int32) (x6 : Int32) (M : Mem) : Prop := K26 x0 x1 x2 x4 x5 (x6 + 1) M
theorem P_jn_X7_tellTo_85 {G : GG} {K26 : Nat → Nat → Nat → Int32 → Int32 → Int32 → Mem → Prop} {Q : Int32 → Mem → Prop} (hK26 : ∀ (x0 : Nat) (x1 : Nat) (x2 : Nat) (x4 : Int32) (x5 : Int32) (x6 : Int32) (M : Mem), K26 x0 x1 x2 x4 x5 x6 M → PW G mX7_tellTo (rmD 4 0 0) (QI Q) 26 [some (.ref x0), some (.ref x1), some (.ref x2), none, some (.int x4), some (.int x5), some (.int x6)] [] M 0 0) (x0 : Nat) (x1 : Nat) (x2 : Nat) (x4 : Int32) (x5 : Int32) (x6 : Int32) (M : Mem) (h : jn_X7_tellTo_85 K26 Q x0 x1 x2 x4 x5 x6 M) : PW G mX7_tellTo (rmD 4 0 0) (QI Q) 85 [some (.ref x0), some (.ref x1), some (.ref x2), none, some (.int x4), some (.int x5), some (.int x6)] [] M 0 0 := (s_iinc (pc := 85) (L1 := [some (.ref x0), some (.ref x1), some (.ref x2), none, some (.int x4), some (.int x5), some (.int (x6 + 1))]) dX7_tellTo_85 rfl ci_1 (Nat.le_of_ble_eq_true rfl) rfl (s_goto (pc := 88) (tgt := 26) dX7_tellTo_88 rfl (s_sel (L1 := [some (.ref x0), some (.ref x1), some (.ref x2), none, some (.int x4), some (.int x5), some (.int (x6 + 1))]) [true, true, true, false, true, true, true] rfl (hK26 x0 x1 x2 x4 x5 (x6 + 1) M h))))
def lp_X7_tellTo_26 (Q : Int32 → Mem → Prop) : Nat → Nat → Nat → Nat → Int32 → Int32 → Int32 → Mem → Prop
  | 0 => fun _ _ _ _ _ _ _ => False
  | n + 1 => fun x0 x1 x2 x4 x5 x6 M => mK M x2 = 5 ∧ ((mI M x2 2) ≤ x6 → Q x4 M) ∧ (¬ (mI M x2 2) ≤ x6 → mK M (mR M x2 3) = 20 ∧ vp_in x6 (mN M (mR M x2 3)) ∧ mK M x0 = 8 ∧ wp_X7_goesOnWith x0 (mI M (mR M x2 3) x6.toNatClampNeg) M (fun r17 M16 => mK M16 x0 = 8 ∧ (¬ (mI M16 x0 0) = (0 : Int32) → jn_X7_tellTo_85 (fun fx0 fx1 fx2 fx4 fx5 fx6 fM => lp_X7_tellTo_26 Q n fx0 fx1 fx2 fx4 fx5 fx6 fM) Q x0 x1 x2 x4 x5 x6 M16) ∧ ((mI M16 x0 0) = (0 : Int32) → mK M16 x2 = 5 ∧ mK M16 (mR M16 x2 3) = 20 ∧ vp_in x5 (mN M16 (mR M16 x2 3)) ∧ wp_X7_carryOut x0 x1 (mI M16 (mR M16 x2 3) x5.toNatClampNeg) M16 (fun r24 M23 => (¬ r24 = (0 : Int32) → ∀ y29 : Int32, y29 = x6 + 1 → jn_X7_tellTo_85 (fun fx0 fx1 fx2 fx4 fx5 fx6 fM => lp_X7_tellTo_26 Q n fx0 fx1 fx2 fx4 fx5 fx6 fM) Q x0 x1 x2 (x4 + 1) y29 x6 M23) ∧ (r24 = (0 : Int32) → Q ((-2000) - x5) M23)))))
theorem P_lp_X7_tellTo_26 {G : GG} {Q : Int32 → Mem → Prop} : ∀ (n : Nat) (x0 : Nat) (x1 : Nat) (x2 : Nat) (x4 : Int32) (x5 : Int32) (x6 : Int32) (M : Mem), lp_X7_tellTo_26 Q n x0 x1 x2 x4 x5 x6 M → PW G mX7_tellTo (rmD 4 0 0) (QI Q) 26 [some (.ref x0), some (.ref x1), some (.ref x2), none, some (.int x4), some (.int x5), some (.int x6)] [] M 0 0 := by
  intro n
  induction n with
  | zero => intro x0 x1 x2 x4 x5 x6 M h; exact h.elim
  | succ n ih =>
    intro x0 x1 x2 x4 x5 x6 M h
    exact (s_iload (pc := 26) dX7_tellTo_26 rfl (s_aload_n (pc := 28) dX7_tellTo_28 rfl (s_getI (pc := 29) dX7_tellTo_29 f_X7_21 rfl h.1 (s_icmp_ge (pc := 32) (tgt := 91) dX7_tellTo_32 rfl (fun c11 => have h12 := h.2.1 c11; s_iload (pc := 91) dX7_tellTo_91 rfl (s_ireturn (pc := 93) dX7_tellTo_93 rfl (Nat.zero_le _) (Nat.zero_le _) ⟨_, rfl, h12⟩)) (fun c13 => have h14 := h.2.2 c13; s_aload_n (pc := 35) dX7_tellTo_35 rfl (s_aload_n (pc := 36) dX7_tellTo_36 rfl (s_getR (pc := 37) dX7_tellTo_37 f_X7_26 rfl h.1 (s_iload (pc := 40) dX7_tellTo_40 rfl (s_ial (pc := 42) dX7_tellTo_42 h14.1 h14.2.1 (s_callV (pc := 43) (As := [.int (mI M (mR M x2 3) x6.toNatClampNeg)]) (rest := []) (d' := 2) (mc' := 0) (ms' := 0) dX7_tellTo_43 c_X7_29 (Nat.le_of_ble_eq_true rfl) rfl h14.2.2.1 rfl rfl (Nat.le_of_ble_eq_true rfl) (rm_ok rfl rfl) ⟨Nat.le_refl 0, Nat.le_refl 0⟩ (T_X7_goesOnWith h14.2.2.2) (kkI (fun r17 M16 h15 => s_pop (pc := 46) dX7_tellTo_46 rfl (s_aload_n (pc := 47) dX7_tellTo_47 rfl (s_getI (pc := 48) dX7_tellTo_48 f_X7_17 rfl h15.1 (s_if_ne (pc := 51) (tgt := 85) dX7_tellTo_51 rfl (fun c18 => have h19 := h15.2.1 c18; s_sel (L1 := [some (.ref x0), some (.ref x1), some (.ref x2), none, some (.int x4), some (.int x5), some (.int x6)]) [true, true, true, false, true, true, true] rfl (P_jn_X7_tellTo_85 ih x0 x1 x2 x4 x5 x6 M16 h19)) (fun c20 => have h21 := h15.2.2 c20; s_aload_n (pc := 54) dX7_tellTo_54 rfl (s_aload_n (pc := 55) dX7_tellTo_55 rfl (s_aload_n (pc := 56) dX7_tellTo_56 rfl (s_getR (pc := 57) dX7_tellTo_57 f_X7_26 rfl h21.1 (s_iload (pc := 60) dX7_tellTo_60 rfl (s_ial (pc := 62) dX7_tellTo_62 h21.2.1 h21.2.2.1 (s_callV (pc := 63) (As := [.ref x1, .int (mI M16 (mR M16 x2 3) x5.toNatClampNeg)]) (rest := []) (d' := 2) (mc' := 0) (ms' := 0) dX7_tellTo_63 c_X7_33 (Nat.le_of_ble_eq_true rfl) rfl h15.1 rfl rfl (Nat.le_of_ble_eq_true rfl) (rm_ok rfl rfl) ⟨Nat.le_refl 0, Nat.le_refl 0⟩ (T_X7_carryOut h21.2.2.2) (kkI (fun r24 M23 h22 => s_if_ne (pc := 66) (tgt := 76) dX7_tellTo_66 rfl (fun c25 => have h26 := h22.1 c25; s_iinc (pc := 76) (L1 := [some (.ref x0), some (.ref x1), some (.ref x2), none, some (.int (x4 + 1)), some (.int x5), some (.int x6)]) dX7_tellTo_76 rfl ci_1 (Nat.le_of_ble_eq_true rfl) rfl (s_iload (pc := 79) dX7_tellTo_79 rfl (s_iconst (pc := 81) dX7_tellTo_81 ci_1 (s_iadd (pc := 82) dX7_tellTo_82 (nmI (fun y29 e30 => have h31 := h26 y29 e30; s_istore (pc := 83) (L1 := [some (.ref x0), some (.ref x1), some (.ref x2), none, some (.int (x4 + 1)), some (.int y29), some (.int x6)]) dX7_tellTo_83 (Nat.le_of_ble_eq_true rfl) rfl (s_sel (L1 := [some (.ref x0), some (.ref x1), some (.ref x2), none, some (.int (x4 + 1)), some (.int y29), some (.int x6)]) [true, true, true, false, true, true, true] rfl (P_jn_X7_tellTo_85 ih x0 x1 x2 (x4 + 1) y29 x6 M23 h31)))))))) (fun c27 => have h28 := h22.2 c27; s_sipush (pc := 69) dX7_tellTo_69 cs_m2000 (s_iload (pc := 72) dX7_tellTo_72 rfl (s_isub (pc := 74) dX7_tellTo_74 (s_ireturn (pc := 75) dX7_tellTo_75 rfl (Nat.zero_le _) (Nat.zero_le _) ⟨_, rfl, h28⟩))))))))))))))))))))))))))))
def wp_X7_tellTo (p0 : Nat) (p1 : Nat) (p2 : Nat) (M : Mem) (Q : Int32 → Mem → Prop) : Prop := mK M p0 = 8 ∧ wp_X7_formFault p0 p2 M (fun r3 M2 => ((0 : Int32) ≤ r3 → mK M2 p0 = 8 ∧ ∀ M8 : Mem, M8 = uI M2 p0 0 0 → ∃ n32 : Nat, lp_X7_tellTo_26 Q n32 p0 p1 p2 0 0 0 M8) ∧ (¬ (0 : Int32) ≤ r3 → Q r3 M2))
theorem T_X7_tellTo {G : GG} {Q : Int32 → Mem → Prop} {M : Mem} {p0 : Nat} {p1 : Nat} {p2 : Nat} (h : wp_X7_tellTo p0 p1 p2 M Q) : PMet G mX7_tellTo 4 0 0 [.ref p0, .ref p1, .ref p2] M (QI Q) :=
  mk_met (by decide) rfl rfl (by
    intro w hw x9 e9
    subst e9
    simp at hw) (Nat.le_of_ble_eq_true rfl) (s_pad (L1 := [some (.ref p0), some (.ref p1), some (.ref p2), none, none, none, none]) 7 rfl (s_aload_n (pc := 0) dX7_tellTo_0 rfl (s_aload_n (pc := 1) dX7_tellTo_1 rfl (s_callV (pc := 2) (As := [.ref p2]) (rest := []) (d' := 3) (mc' := 0) (ms' := 0) dX7_tellTo_2 c_X7_13 (Nat.le_of_ble_eq_true rfl) rfl h.1 rfl rfl (Nat.le_of_ble_eq_true rfl) (rm_ok rfl rfl) ⟨Nat.le_refl 0, Nat.le_refl 0⟩ (T_X7_formFault h.2) (kkI (fun r3 M2 h1 => s_istore_n (pc := 5) (L1 := [some (.ref p0), some (.ref p1), some (.ref p2), some (.int r3), none, none, none]) dX7_tellTo_5 (Nat.le_of_ble_eq_true rfl) rfl (s_iload_n (pc := 6) dX7_tellTo_6 rfl (s_if_ge (pc := 7) (tgt := 12) dX7_tellTo_7 rfl (fun c4 => have h5 := h1.1 c4; s_iconst (pc := 12) dX7_tellTo_12 ci_0 (s_istore (pc := 13) (L1 := [some (.ref p0), some (.ref p1), some (.ref p2), some (.int r3), some (.int 0), none, none]) dX7_tellTo_13 (Nat.le_of_ble_eq_true rfl) rfl (s_iconst (pc := 15) dX7_tellTo_15 ci_0 (s_istore (pc := 16) (L1 := [some (.ref p0), some (.ref p1), some (.ref p2), some (.int r3), some (.int 0), some (.int 0), none]) dX7_tellTo_16 (Nat.le_of_ble_eq_true rfl) rfl (s_aload_n (pc := 18) dX7_tellTo_18 rfl (s_iconst (pc := 19) dX7_tellTo_19 ci_0 (s_putI (pc := 20) dX7_tellTo_20 f_X7_17 (Or.inl rfl) (Or.inl rfl) h5.1 (nmM (fun M8 e9 => have h10 := h5.2 M8 e9; s_iconst (pc := 23) dX7_tellTo_23 ci_0 (s_istore (pc := 24) (L1 := [some (.ref p0), some (.ref p1), some (.ref p2), some (.int r3), some (.int 0), some (.int 0), some (.int 0)]) dX7_tellTo_24 (Nat.le_of_ble_eq_true rfl) rfl (Exists.elim h10 (fun n32 hn => s_sel (L1 := [some (.ref p0), some (.ref p1), some (.ref p2), none, some (.int 0), some (.int 0), some (.int 0)]) [true, true, true, false, true, true, true] rfl (P_lp_X7_tellTo_26 n32 p0 p1 p2 0 0 0 M8 hn))))))))))))) (fun c6 => have h7 := h1.2 c6; s_iload_n (pc := 10) dX7_tellTo_10 rfl (s_ireturn (pc := 11) dX7_tellTo_11 rfl (Nat.zero_le _) (Nat.zero_le _) ⟨_, rfl, h7⟩))))))))))
/-! X6_tally -/
theorem dX6_tally_0 : cod mX6_tally 0 (.iconst 0) 1 := by decide +kernel
theorem dX6_tally_1 : cod mX6_tally 1 (.istore_n 1) 1 := by decide +kernel
theorem dX6_tally_2 : cod mX6_tally 2 (.iload_n 1) 1 := by decide +kernel
theorem dX6_tally_3 : cod mX6_tally 3 (.aload_n 0) 1 := by decide +kernel
theorem dX6_tally_4 : cod mX6_tally 4 (.getfield 40) 3 := by decide +kernel
theorem dX6_tally_7 : cod mX6_tally 7 (.if_icmp .ge 133) 3 := by decide +kernel
theorem dX6_tally_10 : cod mX6_tally 10 (.iconst 0) 1 := by decide +kernel
theorem dX6_tally_11 : cod mX6_tally 11 (.istore_n 2) 1 := by decide +kernel
theorem dX6_tally_12 : cod mX6_tally 12 (.iload_n 2) 1 := by decide +kernel
theorem dX6_tally_13 : cod mX6_tally 13 (.bipush 101) 2 := by decide +kernel
theorem dX6_tally_15 : cod mX6_tally 15 (.if_icmp .ge 119) 3 := by decide +kernel
theorem dX6_tally_18 : cod mX6_tally 18 (.iconst 0) 1 := by decide +kernel
theorem dX6_tally_19 : cod mX6_tally 19 (.istore_n 3) 1 := by decide +kernel
theorem dX6_tally_20 : cod mX6_tally 20 (.iconst 0) 1 := by decide +kernel
theorem dX6_tally_21 : cod mX6_tally 21 (.istore 4) 2 := by decide +kernel
theorem dX6_tally_23 : cod mX6_tally 23 (.iconst 0) 1 := by decide +kernel
theorem dX6_tally_24 : cod mX6_tally 24 (.istore 5) 2 := by decide +kernel
theorem dX6_tally_26 : cod mX6_tally 26 (.iload 5) 2 := by decide +kernel
theorem dX6_tally_28 : cod mX6_tally 28 (.aload_n 0) 1 := by decide +kernel
theorem dX6_tally_29 : cod mX6_tally 29 (.getfield 43) 3 := by decide +kernel
theorem dX6_tally_32 : cod mX6_tally 32 (.if_icmp .ge 71) 3 := by decide +kernel
theorem dX6_tally_35 : cod mX6_tally 35 (.iload_n 3) 1 := by decide +kernel
theorem dX6_tally_36 : cod mX6_tally 36 (.aload_n 0) 1 := by decide +kernel
theorem dX6_tally_37 : cod mX6_tally 37 (.iload 5) 2 := by decide +kernel
theorem dX6_tally_39 : cod mX6_tally 39 (.aload_n 0) 1 := by decide +kernel
theorem dX6_tally_40 : cod mX6_tally 40 (.getfield 15) 3 := by decide +kernel
theorem dX6_tally_43 : cod mX6_tally 43 (.iload_n 1) 1 := by decide +kernel
theorem dX6_tally_44 : cod mX6_tally 44 (.iaload) 1 := by decide +kernel
theorem dX6_tally_45 : cod mX6_tally 45 (.iload_n 2) 1 := by decide +kernel
theorem dX6_tally_46 : cod mX6_tally 46 (.invokevirtual 62) 3 := by decide +kernel
theorem dX6_tally_49 : cod mX6_tally 49 (.ifCond .eq 13) 3 := by decide +kernel
theorem dX6_tally_52 : cod mX6_tally 52 (.aload_n 0) 1 := by decide +kernel
theorem dX6_tally_53 : cod mX6_tally 53 (.getfield 21) 3 := by decide +kernel
theorem dX6_tally_56 : cod mX6_tally 56 (.iload 5) 2 := by decide +kernel
theorem dX6_tally_58 : cod mX6_tally 58 (.iaload) 1 := by decide +kernel
theorem dX6_tally_59 : cod mX6_tally 59 (.goto 4) 3 := by decide +kernel
theorem dX6_tally_62 : cod mX6_tally 62 (.iconst 0) 1 := by decide +kernel
theorem dX6_tally_63 : cod mX6_tally 63 (.iadd) 1 := by decide +kernel
theorem dX6_tally_64 : cod mX6_tally 64 (.istore_n 3) 1 := by decide +kernel
theorem dX6_tally_65 : cod mX6_tally 65 (.iload 4) 2 := by decide +kernel
theorem dX6_tally_67 : cod mX6_tally 67 (.aload_n 0) 1 := by decide +kernel
theorem dX6_tally_68 : cod mX6_tally 68 (.iload 5) 2 := by decide +kernel
theorem dX6_tally_70 : cod mX6_tally 70 (.aload_n 0) 1 := by decide +kernel
theorem dX6_tally_71 : cod mX6_tally 71 (.getfield 15) 3 := by decide +kernel
theorem dX6_tally_74 : cod mX6_tally 74 (.iload_n 1) 1 := by decide +kernel
theorem dX6_tally_75 : cod mX6_tally 75 (.iaload) 1 := by decide +kernel
theorem dX6_tally_76 : cod mX6_tally 76 (.iload_n 2) 1 := by decide +kernel
theorem dX6_tally_77 : cod mX6_tally 77 (.invokevirtual 66) 3 := by decide +kernel
theorem dX6_tally_80 : cod mX6_tally 80 (.ifCond .eq 13) 3 := by decide +kernel
theorem dX6_tally_83 : cod mX6_tally 83 (.aload_n 0) 1 := by decide +kernel
theorem dX6_tally_84 : cod mX6_tally 84 (.getfield 21) 3 := by decide +kernel
theorem dX6_tally_87 : cod mX6_tally 87 (.iload 5) 2 := by decide +kernel
theorem dX6_tally_89 : cod mX6_tally 89 (.iaload) 1 := by decide +kernel
theorem dX6_tally_90 : cod mX6_tally 90 (.goto 4) 3 := by decide +kernel
theorem dX6_tally_93 : cod mX6_tally 93 (.iconst 0) 1 := by decide +kernel
theorem dX6_tally_94 : cod mX6_tally 94 (.iadd) 1 := by decide +kernel
theorem dX6_tally_95 : cod mX6_tally 95 (.istore 4) 2 := by decide +kernel
theorem dX6_tally_97 : cod mX6_tally 97 (.iinc 5 1) 3 := by decide +kernel
theorem dX6_tally_100 : cod mX6_tally 100 (.goto (-74)) 3 := by decide +kernel
theorem dX6_tally_103 : cod mX6_tally 103 (.aload_n 0) 1 := by decide +kernel
theorem dX6_tally_104 : cod mX6_tally 104 (.getfield 34) 3 := by decide +kernel
theorem dX6_tally_107 : cod mX6_tally 107 (.iload_n 1) 1 := by decide +kernel
theorem dX6_tally_108 : cod mX6_tally 108 (.bipush 101) 2 := by decide +kernel
theorem dX6_tally_110 : cod mX6_tally 110 (.imul) 1 := by decide +kernel
theorem dX6_tally_111 : cod mX6_tally 111 (.iload_n 2) 1 := by decide +kernel
theorem dX6_tally_112 : cod mX6_tally 112 (.iadd) 1 := by decide +kernel
theorem dX6_tally_113 : cod mX6_tally 113 (.iload_n 3) 1 := by decide +kernel
theorem dX6_tally_114 : cod mX6_tally 114 (.iastore) 1 := by decide +kernel
theorem dX6_tally_115 : cod mX6_tally 115 (.aload_n 0) 1 := by decide +kernel
theorem dX6_tally_116 : cod mX6_tally 116 (.getfield 37) 3 := by decide +kernel
theorem dX6_tally_119 : cod mX6_tally 119 (.iload_n 1) 1 := by decide +kernel
theorem dX6_tally_120 : cod mX6_tally 120 (.bipush 101) 2 := by decide +kernel
theorem dX6_tally_122 : cod mX6_tally 122 (.imul) 1 := by decide +kernel
theorem dX6_tally_123 : cod mX6_tally 123 (.iload_n 2) 1 := by decide +kernel
theorem dX6_tally_124 : cod mX6_tally 124 (.iadd) 1 := by decide +kernel
theorem dX6_tally_125 : cod mX6_tally 125 (.iload 4) 2 := by decide +kernel
theorem dX6_tally_127 : cod mX6_tally 127 (.iastore) 1 := by decide +kernel
theorem dX6_tally_128 : cod mX6_tally 128 (.iinc 2 1) 3 := by decide +kernel
theorem dX6_tally_131 : cod mX6_tally 131 (.goto (-119)) 3 := by decide +kernel
theorem dX6_tally_134 : cod mX6_tally 134 (.iinc 1 1) 3 := by decide +kernel
theorem dX6_tally_137 : cod mX6_tally 137 (.goto (-135)) 3 := by decide +kernel
theorem dX6_tally_140 : cod mX6_tally 140 (.return_) 1 := by decide +kernel
def jn_X6_tally_94 (K2 : Nat → Int32 → Mem → Prop) (K12 : Nat → Int32 → Int32 → Mem → Prop) (K26 : Nat → Int32 → Int32 → Int32 → Int32 → Int32 → Mem → Prop) (Q : Mem → Prop) (x0 : Nat) (x1 : Int32) (x2 : Int32) (x3 : Int32) (x5 : Int32) (s0 : Int32) (s1 : Int32) (M : Mem) : Prop := ∀ y36 : Int32, y36 = s1 + s0 → K26 x0 x1 x2 x3 y36 (x5 + 1) M
theorem P_jn_X6_tally_94 {G : GG} {K2 : Nat → Int32 → Mem → Prop} {K12 : Nat → Int32 → Int32 → Mem → Prop} {K26 : Nat → Int32 → Int32 → Int32 → Int32 → Int32 → Mem → Prop} {Q : Mem → Prop} (hK2 : ∀ (x0 : Nat) (x1 : Int32) (M : Mem), K2 x0 x1 M → PW G mX6_tally (rmD 1 0 0) (QV Q) 2 [some (.ref x0), some (.int x1), none, none, none, none] [] M 0 0) (hK12 : ∀ (x0 : Nat) (x1 : Int32) (x2 : Int32) (M : Mem), K12 x0 x1 x2 M → PW G mX6_tally (rmD 1 0 0) (QV Q) 12 [some (.ref x0), some (.int x1), some (.int x2), none, none, none] [] M 0 0) (hK26 : ∀ (x0 : Nat) (x1 : Int32) (x2 : Int32) (x3 : Int32) (x4 : Int32) (x5 : Int32) (M : Mem), K26 x0 x1 x2 x3 x4 x5 M → PW G mX6_tally (rmD 1 0 0) (QV Q) 26 [some (.ref x0), some (.int x1), some (.int x2), some (.int x3), some (.int x4), some (.int x5)] [] M 0 0) (x0 : Nat) (x1 : Int32) (x2 : Int32) (x3 : Int32) (x5 : Int32) (s0 : Int32) (s1 : Int32) (M : Mem) (h : jn_X6_tally_94 K2 K12 K26 Q x0 x1 x2 x3 x5 s0 s1 M) : PW G mX6_tally (rmD 1 0 0) (QV Q) 94 [some (.ref x0), some (.int x1), some (.int x2), some (.int x3), none, some (.int x5)] [.int s0, .int s1] M 0 0 := (s_iadd (pc := 94) dX6_tally_94 (nmI (fun y36 e37 => have h38 := h y36 e37; s_istore (pc := 95) (L1 := [some (.ref x0), some (.int x1), some (.int x2), some (.int x3), some (.int y36), some (.int x5)]) dX6_tally_95 (Nat.le_of_ble_eq_true rfl) rfl (s_iinc (pc := 97) (L1 := [some (.ref x0), some (.int x1), some (.int x2), some (.int x3), some (.int y36), some (.int (x5 + 1))]) dX6_tally_97 rfl ci_1 (Nat.le_of_ble_eq_true rfl) rfl (s_goto (pc := 100) (tgt := 26) dX6_tally_100 rfl (s_sel (L1 := [some (.ref x0), some (.int x1), some (.int x2), some (.int x3), some (.int y36), some (.int (x5 + 1))]) [true, true, true, true, true, true] rfl (hK26 x0 x1 x2 x3 y36 (x5 + 1) M h38)))))))
def jn_X6_tally_63 (K2 : Nat → Int32 → Mem → Prop) (K12 : Nat → Int32 → Int32 → Mem → Prop) (K26 : Nat → Int32 → Int32 → Int32 → Int32 → Int32 → Mem → Prop) (Q : Mem → Prop) (x0 : Nat) (x1 : Int32) (x2 : Int32) (x4 : Int32) (x5 : Int32) (s0 : Int32) (s1 : Int32) (M : Mem) : Prop := ∀ y26 : Int32, y26 = s1 + s0 → mK M x0 = 7 ∧ mK M (mR M x0 2) = 20 ∧ vp_in x1 (mN M (mR M x0 2)) ∧ wp_X6_wouldSell x0 x5 (mI M (mR M x0 2) x1.toNatClampNeg) x2 M (fun r31 M30 => (r31 = (0 : Int32) → jn_X6_tally_94 K2 K12 K26 Q x0 x1 x2 y26 x5 0 x4 M30) ∧ (¬ r31 = (0 : Int32) → mK M30 x0 = 7 ∧ mK M30 (mR M30 x0 5) = 20 ∧ vp_in x5 (mN M30 (mR M30 x0 5)) ∧ jn_X6_tally_94 K2 K12 K26 Q x0 x1 x2 y26 x5 (mI M30 (mR M30 x0 5) x5.toNatClampNeg) x4 M30))
theorem P_jn_X6_tally_63 {G : GG} {K2 : Nat → Int32 → Mem → Prop} {K12 : Nat → Int32 → Int32 → Mem → Prop} {K26 : Nat → Int32 → Int32 → Int32 → Int32 → Int32 → Mem → Prop} {Q : Mem → Prop} (hK2 : ∀ (x0 : Nat) (x1 : Int32) (M : Mem), K2 x0 x1 M → PW G mX6_tally (rmD 1 0 0) (QV Q) 2 [some (.ref x0), some (.int x1), none, none, none, none] [] M 0 0) (hK12 : ∀ (x0 : Nat) (x1 : Int32) (x2 : Int32) (M : Mem), K12 x0 x1 x2 M → PW G mX6_tally (rmD 1 0 0) (QV Q) 12 [some (.ref x0), some (.int x1), some (.int x2), none, none, none] [] M 0 0) (hK26 : ∀ (x0 : Nat) (x1 : Int32) (x2 : Int32) (x3 : Int32) (x4 : Int32) (x5 : Int32) (M : Mem), K26 x0 x1 x2 x3 x4 x5 M → PW G mX6_tally (rmD 1 0 0) (QV Q) 26 [some (.ref x0), some (.int x1), some (.int x2), some (.int x3), some (.int x4), some (.int x5)] [] M 0 0) (x0 : Nat) (x1 : Int32) (x2 : Int32) (x4 : Int32) (x5 : Int32) (s0 : Int32) (s1 : Int32) (M : Mem) (h : jn_X6_tally_63 K2 K12 K26 Q x0 x1 x2 x4 x5 s0 s1 M) : PW G mX6_tally (rmD 1 0 0) (QV Q) 63 [some (.ref x0), some (.int x1), some (.int x2), none, some (.int x4), some (.int x5)] [.int s0, .int s1] M 0 0 := (s_iadd (pc := 63) dX6_tally_63 (nmI (fun y26 e27 => have h28 := h y26 e27; s_istore_n (pc := 64) (L1 := [some (.ref x0), some (.int x1), some (.int x2), some (.int y26), some (.int x4), some (.int x5)]) dX6_tally_64 (Nat.le_of_ble_eq_true rfl) rfl (s_iload (pc := 65) dX6_tally_65 rfl (s_aload_n (pc := 67) dX6_tally_67 rfl (s_iload (pc := 68) dX6_tally_68 rfl (s_aload_n (pc := 70) dX6_tally_70 rfl (s_getR (pc := 71) dX6_tally_71 f_X6_15 rfl h28.1 (s_iload_n (pc := 74) dX6_tally_74 rfl (s_ial (pc := 75) dX6_tally_75 h28.2.1 h28.2.2.1 (s_iload_n (pc := 76) dX6_tally_76 rfl (s_callV (pc := 77) (As := [.int x5, .int (mI M (mR M x0 2) x1.toNatClampNeg), .int x2]) (rest := [.int x4]) (d' := 0) (mc' := 0) (ms' := 0) dX6_tally_77 c_X6_66 (Nat.le_of_ble_eq_true rfl) rfl h28.1 rfl rfl (Nat.le_of_ble_eq_true rfl) (rm_ok rfl rfl) ⟨Nat.le_refl 0, Nat.le_refl 0⟩ (T_X6_wouldSell h28.2.2.2) (kkI (fun r31 M30 h29 => s_if_eq (pc := 80) (tgt := 93) dX6_tally_80 rfl (fun c32 => have h33 := h29.1 c32; s_iconst (pc := 93) dX6_tally_93 ci_0 (s_sel (L1 := [some (.ref x0), some (.int x1), some (.int x2), some (.int y26), none, some (.int x5)]) [true, true, true, true, false, true] rfl (P_jn_X6_tally_94 hK2 hK12 hK26 x0 x1 x2 y26 x5 0 x4 M30 h33))) (fun c34 => have h35 := h29.2 c34; s_aload_n (pc := 83) dX6_tally_83 rfl (s_getR (pc := 84) dX6_tally_84 f_X6_21 rfl h35.1 (s_iload (pc := 87) dX6_tally_87 rfl (s_ial (pc := 89) dX6_tally_89 h35.2.1 h35.2.2.1 (s_goto (pc := 90) (tgt := 94) dX6_tally_90 rfl (s_sel (L1 := [some (.ref x0), some (.int x1), some (.int x2), some (.int y26), none, some (.int x5)]) [true, true, true, true, false, true] rfl (P_jn_X6_tally_94 hK2 hK12 hK26 x0 x1 x2 y26 x5 (mI M30 (mR M30 x0 5) x5.toNatClampNeg) x4 M30 h35.2.2.2)))))))))))))))))))))
def lp_X6_tally_26 (K2 : Nat → Int32 → Mem → Prop) (K12 : Nat → Int32 → Int32 → Mem → Prop) (Q : Mem → Prop) : Nat → Nat → Int32 → Int32 → Int32 → Int32 → Int32 → Mem → Prop
  | 0 => fun _ _ _ _ _ _ _ => False
  | n + 1 => fun x0 x1 x2 x3 x4 x5 M => mK M x0 = 7 ∧ ((mI M x0 3) ≤ x5 → mK M (mR M x0 10) = 20 ∧ vp_in ((x1 * 101) + x2) (mN M (mR M x0 10)) ∧ ∀ M13 : Mem, M13 = uI M (mR M x0 10) ((x1 * 101) + x2).toNatClampNeg x3 → mK M13 (mR M13 x0 11) = 20 ∧ vp_in ((x1 * 101) + x2) (mN M13 (mR M13 x0 11)) ∧ ∀ M16 : Mem, M16 = uI M13 (mR M13 x0 11) ((x1 * 101) + x2).toNatClampNeg x4 → K12 x0 x1 (x2 + 1) M16) ∧ (¬ (mI M x0 3) ≤ x5 → mK M (mR M x0 2) = 20 ∧ vp_in x1 (mN M (mR M x0 2)) ∧ wp_X6_wouldBuy x0 x5 (mI M (mR M x0 2) x1.toNatClampNeg) x2 M (fun r21 M20 => (r21 = (0 : Int32) → jn_X6_tally_63 K2 K12 (fun fx0 fx1 fx2 fx3 fx4 fx5 fM => lp_X6_tally_26 K2 K12 Q n fx0 fx1 fx2 fx3 fx4 fx5 fM) Q x0 x1 x2 x4 x5 0 x3 M20) ∧ (¬ r21 = (0 : Int32) → mK M20 x0 = 7 ∧ mK M20 (mR M20 x0 5) = 20 ∧ vp_in x5 (mN M20 (mR M20 x0 5)) ∧ jn_X6_tally_63 K2 K12 (fun fx0 fx1 fx2 fx3 fx4 fx5 fM => lp_X6_tally_26 K2 K12 Q n fx0 fx1 fx2 fx3 fx4 fx5 fM) Q x0 x1 x2 x4 x5 (mI M20 (mR M20 x0 5) x5.toNatClampNeg) x3 M20)))
theorem P_lp_X6_tally_26 {G : GG} {K2 : Nat → Int32 → Mem → Prop} {K12 : Nat → Int32 → Int32 → Mem → Prop} {Q : Mem → Prop} (hK2 : ∀ (x0 : Nat) (x1 : Int32) (M : Mem), K2 x0 x1 M → PW G mX6_tally (rmD 1 0 0) (QV Q) 2 [some (.ref x0), some (.int x1), none, none, none, none] [] M 0 0) (hK12 : ∀ (x0 : Nat) (x1 : Int32) (x2 : Int32) (M : Mem), K12 x0 x1 x2 M → PW G mX6_tally (rmD 1 0 0) (QV Q) 12 [some (.ref x0), some (.int x1), some (.int x2), none, none, none] [] M 0 0) : ∀ (n : Nat) (x0 : Nat) (x1 : Int32) (x2 : Int32) (x3 : Int32) (x4 : Int32) (x5 : Int32) (M : Mem), lp_X6_tally_26 K2 K12 Q n x0 x1 x2 x3 x4 x5 M → PW G mX6_tally (rmD 1 0 0) (QV Q) 26 [some (.ref x0), some (.int x1), some (.int x2), some (.int x3), some (.int x4), some (.int x5)] [] M 0 0 := by
  intro n
  induction n with
  | zero => intro x0 x1 x2 x3 x4 x5 M h; exact h.elim
  | succ n ih =>
    intro x0 x1 x2 x3 x4 x5 M h
    exact (s_iload (pc := 26) dX6_tally_26 rfl (s_aload_n (pc := 28) dX6_tally_28 rfl (s_getI (pc := 29) dX6_tally_29 f_X6_43 rfl h.1 (s_icmp_ge (pc := 32) (tgt := 103) dX6_tally_32 rfl (fun c9 => have h10 := h.2.1 c9; s_aload_n (pc := 103) dX6_tally_103 rfl (s_getR (pc := 104) dX6_tally_104 f_X6_34 rfl h.1 (s_iload_n (pc := 107) dX6_tally_107 rfl (s_bipush (pc := 108) dX6_tally_108 cb_101 (s_imul (pc := 110) dX6_tally_110 (s_iload_n (pc := 111) dX6_tally_111 rfl (s_iadd (pc := 112) dX6_tally_112 (s_iload_n (pc := 113) dX6_tally_113 rfl (s_ias (pc := 114) dX6_tally_114 h10.1 h10.2.1 (nmM (fun M13 e14 => have h15 := (h10.2.2) M13 e14; s_aload_n (pc := 115) dX6_tally_115 rfl (s_getR (pc := 116) dX6_tally_116 f_X6_37 rfl ((congrFun (congrArg mK e14) x0).trans h.1) (s_iload_n (pc := 119) dX6_tally_119 rfl (s_bipush (pc := 120) dX6_tally_120 cb_101 (s_imul (pc := 122) dX6_tally_122 (s_iload_n (pc := 123) dX6_tally_123 rfl (s_iadd (pc := 124) dX6_tally_124 (s_iload (pc := 125) dX6_tally_125 rfl (s_ias (pc := 127) dX6_tally_127 h15.1 h15.2.1 (nmM (fun M16 e17 => have h18 := (h15.2.2) M16 e17; s_iinc (pc := 128) (L1 := [some (.ref x0), some (.int x1), some (.int (x2 + 1)), some (.int x3), some (.int x4), some (.int x5)]) dX6_tally_128 rfl ci_1 (Nat.le_of_ble_eq_true rfl) rfl (s_goto (pc := 131) (tgt := 12) dX6_tally_131 rfl (s_sel (L1 := [some (.ref x0), some (.int x1), some (.int (x2 + 1)), none, none, none]) [true, true, true, false, false, false] rfl (hK12 x0 x1 (x2 + 1) M16 h18)))))))))))))))))))))))) (fun c11 => have h12 := h.2.2 c11; s_iload_n (pc := 35) dX6_tally_35 rfl (s_aload_n (pc := 36) dX6_tally_36 rfl (s_iload (pc := 37) dX6_tally_37 rfl (s_aload_n (pc := 39) dX6_tally_39 rfl (s_getR (pc := 40) dX6_tally_40 f_X6_15 rfl h.1 (s_iload_n (pc := 43) dX6_tally_43 rfl (s_ial (pc := 44) dX6_tally_44 h12.1 h12.2.1 (s_iload_n (pc := 45) dX6_tally_45 rfl (s_callV (pc := 46) (As := [.int x5, .int (mI M (mR M x0 2) x1.toNatClampNeg), .int x2]) (rest := [.int x3]) (d' := 0) (mc' := 0) (ms' := 0) dX6_tally_46 c_X6_62 (Nat.le_of_ble_eq_true rfl) rfl h.1 rfl rfl (Nat.le_of_ble_eq_true rfl) (rm_ok rfl rfl) ⟨Nat.le_refl 0, Nat.le_refl 0⟩ (T_X6_wouldBuy h12.2.2) (kkI (fun r21 M20 h19 => s_if_eq (pc := 49) (tgt := 62) dX6_tally_49 rfl (fun c22 => have h23 := h19.1 c22; s_iconst (pc := 62) dX6_tally_62 ci_0 (s_sel (L1 := [some (.ref x0), some (.int x1), some (.int x2), none, some (.int x4), some (.int x5)]) [true, true, true, false, true, true] rfl (P_jn_X6_tally_63 hK2 hK12 ih x0 x1 x2 x4 x5 0 x3 M20 h23))) (fun c24 => have h25 := h19.2 c24; s_aload_n (pc := 52) dX6_tally_52 rfl (s_getR (pc := 53) dX6_tally_53 f_X6_21 rfl h25.1 (s_iload (pc := 56) dX6_tally_56 rfl (s_ial (pc := 58) dX6_tally_58 h25.2.1 h25.2.2.1 (s_goto (pc := 59) (tgt := 63) dX6_tally_59 rfl (s_sel (L1 := [some (.ref x0), some (.int x1), some (.int x2), none, some (.int x4), some (.int x5)]) [true, true, true, false, true, true] rfl (P_jn_X6_tally_63 hK2 hK12 ih x0 x1 x2 x4 x5 (mI M20 (mR M20 x0 5) x5.toNatClampNeg) x3 M20 h25.2.2.2))))))))))))))))))))))
def lp_X6_tally_12 (K2 : Nat → Int32 → Mem → Prop) (Q : Mem → Prop) : Nat → Nat → Int32 → Int32 → Mem → Prop
  | 0 => fun _ _ _ _ => False
  | n + 1 => fun x0 x1 x2 M => ((101 : Int32) ≤ x2 → K2 x0 (x1 + 1) M) ∧ (¬ (101 : Int32) ≤ x2 → ∃ n39 : Nat, lp_X6_tally_26 K2 (fun fx0 fx1 fx2 fM => lp_X6_tally_12 K2 Q n fx0 fx1 fx2 fM) Q n39 x0 x1 x2 0 0 0 M)
theorem P_lp_X6_tally_12 {G : GG} {K2 : Nat → Int32 → Mem → Prop} {Q : Mem → Prop} (hK2 : ∀ (x0 : Nat) (x1 : Int32) (M : Mem), K2 x0 x1 M → PW G mX6_tally (rmD 1 0 0) (QV Q) 2 [some (.ref x0), some (.int x1), none, none, none, none] [] M 0 0) : ∀ (n : Nat) (x0 : Nat) (x1 : Int32) (x2 : Int32) (M : Mem), lp_X6_tally_12 K2 Q n x0 x1 x2 M → PW G mX6_tally (rmD 1 0 0) (QV Q) 12 [some (.ref x0), some (.int x1), some (.int x2), none, none, none] [] M 0 0 := by
  intro n
  induction n with
  | zero => intro x0 x1 x2 M h; exact h.elim
  | succ n ih =>
    intro x0 x1 x2 M h
    exact (s_iload_n (pc := 12) dX6_tally_12 rfl (s_bipush (pc := 13) dX6_tally_13 cb_101 (s_icmp_ge (pc := 15) (tgt := 134) dX6_tally_15 rfl (fun c5 => have h6 := h.1 c5; s_iinc (pc := 134) (L1 := [some (.ref x0), some (.int (x1 + 1)), some (.int x2), none, none, none]) dX6_tally_134 rfl ci_1 (Nat.le_of_ble_eq_true rfl) rfl (s_goto (pc := 137) (tgt := 2) dX6_tally_137 rfl (s_sel (L1 := [some (.ref x0), some (.int (x1 + 1)), none, none, none, none]) [true, true, false, false, false, false] rfl (hK2 x0 (x1 + 1) M h6)))) (fun c7 => have h8 := h.2 c7; s_iconst (pc := 18) dX6_tally_18 ci_0 (s_istore_n (pc := 19) (L1 := [some (.ref x0), some (.int x1), some (.int x2), some (.int 0), none, none]) dX6_tally_19 (Nat.le_of_ble_eq_true rfl) rfl (s_iconst (pc := 20) dX6_tally_20 ci_0 (s_istore (pc := 21) (L1 := [some (.ref x0), some (.int x1), some (.int x2), some (.int 0), some (.int 0), none]) dX6_tally_21 (Nat.le_of_ble_eq_true rfl) rfl (s_iconst (pc := 23) dX6_tally_23 ci_0 (s_istore (pc := 24) (L1 := [some (.ref x0), some (.int x1), some (.int x2), some (.int 0), some (.int 0), some (.int 0)]) dX6_tally_24 (Nat.le_of_ble_eq_true rfl) rfl (Exists.elim h8 (fun n39 hn => s_sel (L1 := [some (.ref x0), some (.int x1), some (.int x2), some (.int 0), some (.int 0), some (.int 0)]) [true, true, true, true, true, true] rfl (P_lp_X6_tally_26 hK2 ih n39 x0 x1 x2 0 0 0 M hn))))))))))))
def lp_X6_tally_2 (Q : Mem → Prop) : Nat → Nat → Int32 → Mem → Prop
  | 0 => fun _ _ _ => False
  | n + 1 => fun x0 x1 M => mK M x0 = 7 ∧ ((mI M x0 0) ≤ x1 → Q M) ∧ (¬ (mI M x0 0) ≤ x1 → ∃ n40 : Nat, lp_X6_tally_12 (fun fx0 fx1 fM => lp_X6_tally_2 Q n fx0 fx1 fM) Q n40 x0 x1 0 M)
theorem P_lp_X6_tally_2 {G : GG} {Q : Mem → Prop} : ∀ (n : Nat) (x0 : Nat) (x1 : Int32) (M : Mem), lp_X6_tally_2 Q n x0 x1 M → PW G mX6_tally (rmD 1 0 0) (QV Q) 2 [some (.ref x0), some (.int x1), none, none, none, none] [] M 0 0 := by
  intro n
  induction n with
  | zero => intro x0 x1 M h; exact h.elim
  | succ n ih =>
    intro x0 x1 M h
    exact (s_iload_n (pc := 2) dX6_tally_2 rfl (s_aload_n (pc := 3) dX6_tally_3 rfl (s_getI (pc := 4) dX6_tally_4 f_X6_40 rfl h.1 (s_icmp_ge (pc := 7) (tgt := 140) dX6_tally_7 rfl (fun c1 => have h2 := h.2.1 c1; s_return (pc := 140) dX6_tally_140 rfl (Nat.zero_le _) (Nat.zero_le _) ⟨rfl, h2⟩) (fun c3 => have h4 := h.2.2 c3; s_iconst (pc := 10) dX6_tally_10 ci_0 (s_istore_n (pc := 11) (L1 := [some (.ref x0), some (.int x1), some (.int 0), none, none, none]) dX6_tally_11 (Nat.le_of_ble_eq_true rfl) rfl (Exists.elim h4 (fun n40 hn => s_sel (L1 := [some (.ref x0), some (.int x1), some (.int 0), none, none, none]) [true, true, true, false, false, false] rfl (P_lp_X6_tally_12 ih n40 x0 x1 0 M hn)))))))))
def wp_X6_tally (p0 : Nat) (M : Mem) (Q : Mem → Prop) : Prop := ∃ n41 : Nat, lp_X6_tally_2 Q n41 p0 0 M
theorem T_X6_tally {G : GG} {Q : Mem → Prop} {M : Mem} {p0 : Nat} (h : wp_X6_tally p0 M Q) : PMet G mX6_tally 1 0 0 [.ref p0] M (QV Q) :=
  mk_met (by decide) rfl rfl (by
    intro w hw x9 e9
    subst e9
    simp at hw) (Nat.le_of_ble_eq_true rfl) (s_pad (L1 := [some (.ref p0), none, none, none, none, none]) 6 rfl (s_iconst (pc := 0) dX6_tally_0 ci_0 (s_istore_n (pc := 1) (L1 := [some (.ref p0), some (.int 0), none, none, none, none]) dX6_tally_1 (Nat.le_of_ble_eq_true rfl) rfl (Exists.elim h (fun n41 hn => s_sel (L1 := [some (.ref p0), some (.int 0), none, none, none, none]) [true, true, false, false, false, false] rfl (P_lp_X6_tally_2 n41 p0 0 M hn))))))
/-! X12_street -/
theorem dX12_street_0 : cod mX12_street 0 (.aload_n 0) 1 := by decide +kernel
theorem dX12_street_1 : cod mX12_street 1 (.iload_n 1) 1 := by decide +kernel
theorem dX12_street_2 : cod mX12_street 2 (.invokevirtual 63) 3 := by decide +kernel
theorem dX12_street_5 : cod mX12_street 5 (.astore_n 2) 1 := by decide +kernel
theorem dX12_street_6 : cod mX12_street 6 (.aload_n 2) 1 := by decide +kernel
theorem dX12_street_7 : cod mX12_street 7 (.ifnonnull 9) 3 := by decide +kernel
theorem dX12_street_10 : cod mX12_street 10 (.aload_n 0) 1 := by decide +kernel
theorem dX12_street_11 : cod mX12_street 11 (.iload_n 1) 1 := by decide +kernel
theorem dX12_street_12 : cod mX12_street 12 (.invokevirtual 67) 3 := by decide +kernel
theorem dX12_street_15 : cod mX12_street 15 (.ireturn) 1 := by decide +kernel
theorem dX12_street_16 : cod mX12_street 16 (.aload_n 0) 1 := by decide +kernel
theorem dX12_street_17 : cod mX12_street 17 (.getfield 16) 3 := by decide +kernel
theorem dX12_street_20 : cod mX12_street 20 (.aload_n 0) 1 := by decide +kernel
theorem dX12_street_21 : cod mX12_street 21 (.getfield 10) 3 := by decide +kernel
theorem dX12_street_24 : cod mX12_street 24 (.invokevirtual 71) 3 := by decide +kernel
theorem dX12_street_27 : cod mX12_street 27 (.aload_n 0) 1 := by decide +kernel
theorem dX12_street_28 : cod mX12_street 28 (.getfield 45) 3 := by decide +kernel
theorem dX12_street_31 : cod mX12_street 31 (.aload_n 0) 1 := by decide +kernel
theorem dX12_street_32 : cod mX12_street 32 (.getfield 16) 3 := by decide +kernel
theorem dX12_street_35 : cod mX12_street 35 (.aload_n 2) 1 := by decide +kernel
theorem dX12_street_36 : cod mX12_street 36 (.invokevirtual 75) 3 := by decide +kernel
theorem dX12_street_39 : cod mX12_street 39 (.istore_n 3) 1 := by decide +kernel
theorem dX12_street_40 : cod mX12_street 40 (.iload_n 3) 1 := by decide +kernel
theorem dX12_street_41 : cod mX12_street 41 (.ifCond .le 32) 3 := by decide +kernel
theorem dX12_street_44 : cod mX12_street 44 (.aload_n 0) 1 := by decide +kernel
theorem dX12_street_45 : cod mX12_street 45 (.getfield 16) 3 := by decide +kernel
theorem dX12_street_48 : cod mX12_street 48 (.invokevirtual 79) 3 := by decide +kernel
theorem dX12_street_51 : cod mX12_street 51 (.aload_n 0) 1 := by decide +kernel
theorem dX12_street_52 : cod mX12_street 52 (.getfield 10) 3 := by decide +kernel
theorem dX12_street_55 : cod mX12_street 55 (.aload_n 0) 1 := by decide +kernel
theorem dX12_street_56 : cod mX12_street 56 (.getfield 16) 3 := by decide +kernel
theorem dX12_street_59 : cod mX12_street 59 (.invokevirtual 71) 3 := by decide +kernel
theorem dX12_street_62 : cod mX12_street 62 (.aload_n 0) 1 := by decide +kernel
theorem dX12_street_63 : cod mX12_street 63 (.getfield 25) 3 := by decide +kernel
theorem dX12_street_66 : cod mX12_street 66 (.aload_n 0) 1 := by decide +kernel
theorem dX12_street_67 : cod mX12_street 67 (.getfield 10) 3 := by decide +kernel
theorem dX12_street_70 : cod mX12_street 70 (.invokevirtual 82) 3 := by decide +kernel
theorem dX12_street_73 : cod mX12_street 73 (.iload_n 3) 1 := by decide +kernel
theorem dX12_street_74 : cod mX12_street 74 (.ireturn) 1 := by decide +kernel
def wp_X12_street (p0 : Nat) (p1 : Int32) (M : Mem) (Q : Int32 → Mem → Prop) : Prop := mK M p0 = 13 ∧ wp_X12_bytesOn p0 p1 M (fun r3 M2 => (¬ r3 = 0 → mK M2 p0 = 13 ∧ mK M2 (mR M2 p0 1) = 7 ∧ wp_X6_copyFrom (mR M2 p0 1) (mR M2 p0 0) M2 (fun M9 => mK M9 p0 = 13 ∧ mK M9 (mR M9 p0 8) = 8 ∧ wp_X7_tellTo (mR M9 p0 8) (mR M9 p0 1) r3 M9 (fun r12 M11 => (r12 ≤ (0 : Int32) → Q r12 M11) ∧ (¬ r12 ≤ (0 : Int32) → mK M11 p0 = 13 ∧ mK M11 (mR M11 p0 1) = 7 ∧ wp_X6_tally (mR M11 p0 1) M11 (fun M18 => mK M18 p0 = 13 ∧ mK M18 (mR M18 p0 0) = 7 ∧ wp_X6_copyFrom (mR M18 p0 0) (mR M18 p0 1) M18 (fun M20 => mK M20 p0 = 13 ∧ mK M20 (mR M20 p0 3) = 10 ∧ wp_X9_begin (mR M20 p0 3) (mR M20 p0 0) M20 (fun M22 => Q r12 M22))))))) ∧ (r3 = 0 → mK M2 p0 = 13 ∧ wp_X12_whyNot p0 p1 M2 (fun r25 M24 => Q r25 M24)))
theorem T_X12_street {G : GG} {Q : Int32 → Mem → Prop} {M : Mem} {p0 : Nat} {p1 : Int32} (h : wp_X12_street p0 p1 M Q) : PMet G mX12_street 5 0 0 [.ref p0, .int p1] M (QI Q) :=
  mk_met (by decide) rfl rfl (by
    intro w hw x9 e9
    subst e9
    simp at hw) (Nat.le_of_ble_eq_true rfl) (s_pad (L1 := [some (.ref p0), some (.int p1), none, none]) 4 rfl (s_aload_n (pc := 0) dX12_street_0 rfl (s_iload_n (pc := 1) dX12_street_1 rfl (s_callV (pc := 2) (As := [.int p1]) (rest := []) (d' := 1) (mc' := 0) (ms' := 0) dX12_street_2 c_X12_63 (Nat.le_of_ble_eq_true rfl) rfl h.1 rfl rfl (Nat.le_of_ble_eq_true rfl) (rm_ok rfl rfl) ⟨Nat.le_refl 0, Nat.le_refl 0⟩ (T_X12_bytesOn h.2) (kkR (fun r3 M2 h1 => s_astore_n (pc := 5) (L1 := [some (.ref p0), some (.int p1), some (.ref r3), none]) dX12_street_5 (Nat.le_of_ble_eq_true rfl) rfl (s_aload_n (pc := 6) dX12_street_6 rfl (s_ifnonnull (pc := 7) (tgt := 16) dX12_street_7 rfl (fun c4 => have h5 := h1.1 c4; s_aload_n (pc := 16) dX12_street_16 rfl (s_getR (pc := 17) dX12_street_17 f_X12_16 rfl h5.1 (s_aload_n (pc := 20) dX12_street_20 rfl (s_getR (pc := 21) dX12_street_21 f_X12_10 rfl h5.1 (s_callV (pc := 24) (As := [.ref (mR M2 p0 0)]) (rest := []) (d' := 0) (mc' := 0) (ms' := 0) dX12_street_24 c_X12_71 (Nat.le_of_ble_eq_true rfl) rfl h5.2.1 rfl rfl (Nat.le_of_ble_eq_true rfl) (rm_ok rfl rfl) ⟨Nat.le_refl 0, Nat.le_refl 0⟩ (T_X6_copyFrom h5.2.2) (kkV (fun M9 h8 => s_aload_n (pc := 27) dX12_street_27 rfl (s_getR (pc := 28) dX12_street_28 f_X12_45 rfl h8.1 (s_aload_n (pc := 31) dX12_street_31 rfl (s_getR (pc := 32) dX12_street_32 f_X12_16 rfl h8.1 (s_aload_n (pc := 35) dX12_street_35 rfl (s_callV (pc := 36) (As := [.ref (mR M9 p0 1), .ref r3]) (rest := []) (d' := 4) (mc' := 0) (ms' := 0) dX12_street_36 c_X12_75 (Nat.le_of_ble_eq_true rfl) rfl h8.2.1 rfl rfl (Nat.le_of_ble_eq_true rfl) (rm_ok rfl rfl) ⟨Nat.le_refl 0, Nat.le_refl 0⟩ (T_X7_tellTo h8.2.2) (kkI (fun r12 M11 h10 => s_istore_n (pc := 39) (L1 := [some (.ref p0), some (.int p1), some (.ref r3), some (.int r12)]) dX12_street_39 (Nat.le_of_ble_eq_true rfl) rfl (s_iload_n (pc := 40) dX12_street_40 rfl (s_if_le (pc := 41) (tgt := 73) dX12_street_41 rfl (fun c13 => have h14 := h10.1 c13; s_iload_n (pc := 73) dX12_street_73 rfl (s_ireturn (pc := 74) dX12_street_74 rfl (Nat.zero_le _) (Nat.zero_le _) ⟨_, rfl, h14⟩)) (fun c15 => have h16 := h10.2 c15; s_aload_n (pc := 44) dX12_street_44 rfl (s_getR (pc := 45) dX12_street_45 f_X12_16 rfl h16.1 (s_callV (pc := 48) (As := []) (rest := []) (d' := 1) (mc' := 0) (ms' := 0) dX12_street_48 c_X12_79 (Nat.le_of_ble_eq_true rfl) rfl h16.2.1 rfl rfl (Nat.le_of_ble_eq_true rfl) (rm_ok rfl rfl) ⟨Nat.le_refl 0, Nat.le_refl 0⟩ (T_X6_tally h16.2.2) (kkV (fun M18 h17 => s_aload_n (pc := 51) dX12_street_51 rfl (s_getR (pc := 52) dX12_street_52 f_X12_10 rfl h17.1 (s_aload_n (pc := 55) dX12_street_55 rfl (s_getR (pc := 56) dX12_street_56 f_X12_16 rfl h17.1 (s_callV (pc := 59) (As := [.ref (mR M18 p0 1)]) (rest := []) (d' := 0) (mc' := 0) (ms' := 0) dX12_street_59 c_X12_71 (Nat.le_of_ble_eq_true rfl) rfl h17.2.1 rfl rfl (Nat.le_of_ble_eq_true rfl) (rm_ok rfl rfl) ⟨Nat.le_refl 0, Nat.le_refl 0⟩ (T_X6_copyFrom h17.2.2) (kkV (fun M20 h19 => s_aload_n (pc := 62) dX12_street_62 rfl (s_getR (pc := 63) dX12_street_63 f_X12_25 rfl h19.1 (s_aload_n (pc := 66) dX12_street_66 rfl (s_getR (pc := 67) dX12_street_67 f_X12_10 rfl h19.1 (s_callV (pc := 70) (As := [.ref (mR M20 p0 0)]) (rest := []) (d' := 0) (mc' := 0) (ms' := 0) dX12_street_70 c_X12_82 (Nat.le_of_ble_eq_true rfl) rfl h19.2.1 rfl rfl (Nat.le_of_ble_eq_true rfl) (rm_ok rfl rfl) ⟨Nat.le_refl 0, Nat.le_refl 0⟩ (T_X9_begin h19.2.2) (kkV (fun M22 h21 => s_iload_n (pc := 73) dX12_street_73 rfl (s_ireturn (pc := 74) dX12_street_74 rfl (Nat.zero_le _) (Nat.zero_le _) ⟨_, rfl, h21⟩)))))))))))))))))))))))))))))))))) (fun c6 => have h7 := h1.2 c6; s_aload_n (pc := 10) dX12_street_10 rfl (s_iload_n (pc := 11) dX12_street_11 rfl (s_callV (pc := 12) (As := [.int p1]) (rest := []) (d' := 1) (mc' := 0) (ms' := 0) dX12_street_12 c_X12_67 (Nat.le_of_ble_eq_true rfl) rfl h7.1 rfl rfl (Nat.le_of_ble_eq_true rfl) (rm_ok rfl rfl) ⟨Nat.le_refl 0, Nat.le_refl 0⟩ (T_X12_whyNot h7.2) (kkI (fun r25 M24 h23 => s_ireturn (pc := 15) dX12_street_15 rfl (Nat.zero_le _) (Nat.zero_le _) ⟨_, rfl, h23⟩)))))))))))))
/-! X12_streets -/
theorem dX12_streets_0 : cod mX12_streets 0 (.iload_n 1) 1 := by decide +kernel
theorem dX12_streets_1 : cod mX12_streets 1 (.iload_n 2) 1 := by decide +kernel
theorem dX12_streets_2 : cod mX12_streets 2 (.invokestatic 118) 3 := by decide +kernel
theorem dX12_streets_5 : cod mX12_streets 5 (.ifCond .eq 12) 3 := by decide +kernel
theorem dX12_streets_8 : cod mX12_streets 8 (.iload_n 3) 1 := by decide +kernel
theorem dX12_streets_9 : cod mX12_streets 9 (.iload 4) 2 := by decide +kernel
theorem dX12_streets_11 : cod mX12_streets 11 (.invokestatic 118) 3 := by decide +kernel
theorem dX12_streets_14 : cod mX12_streets 14 (.ifCond .ne 5) 3 := by decide +kernel
theorem dX12_streets_17 : cod mX12_streets 17 (.iconst (-1)) 1 := by decide +kernel
theorem dX12_streets_18 : cod mX12_streets 18 (.ireturn) 1 := by decide +kernel
theorem dX12_streets_19 : cod mX12_streets 19 (.iconst 0) 1 := by decide +kernel
theorem dX12_streets_20 : cod mX12_streets 20 (.iload_n 3) 1 := by decide +kernel
theorem dX12_streets_21 : cod mX12_streets 21 (.iload_n 2) 1 := by decide +kernel
theorem dX12_streets_22 : cod mX12_streets 22 (.isub) 1 := by decide +kernel
theorem dX12_streets_23 : cod mX12_streets 23 (.iload_n 1) 1 := by decide +kernel
theorem dX12_streets_24 : cod mX12_streets 24 (.iload 4) 2 := by decide +kernel
theorem dX12_streets_26 : cod mX12_streets 26 (.isub) 1 := by decide +kernel
theorem dX12_streets_27 : cod mX12_streets 27 (.invokestatic 257) 3 := by decide +kernel
theorem dX12_streets_30 : cod mX12_streets 30 (.invokestatic 257) 3 := by decide +kernel
theorem dX12_streets_33 : cod mX12_streets 33 (.ireturn) 1 := by decide +kernel
def wp_X12_streets (p0 : Nat) (p1 : Int32) (p2 : Int32) (p3 : Int32) (p4 : Int32) (M : Mem) (Q : Int32 → Mem → Prop) : Prop := wp_X12_isSlate p1 p2 M (fun r3 M2 => (r3 = (0 : Int32) → Q (-1) M2) ∧ (¬ r3 = (0 : Int32) → wp_X12_isSlate p3 p4 M2 (fun r10 M9 => (¬ r10 = (0 : Int32) → Q (iMax 0 (iMax (p3 - p2) (p1 - p4))) M9) ∧ (r10 = (0 : Int32) → Q (-1) M9))))
theorem T_X12_streets {G : GG} {Q : Int32 → Mem → Prop} {M : Mem} {p0 : Nat} {p1 : Int32} {p2 : Int32} {p3 : Int32} {p4 : Int32} (h : wp_X12_streets p0 p1 p2 p3 p4 M Q) : PMet G mX12_streets 1 0 0 [.ref p0, .int p1, .int p2, .int p3, .int p4] M (QI Q) :=
  mk_met (by decide) rfl rfl (by
    intro w hw x9 e9
    subst e9
    simp at hw) (Nat.le_of_ble_eq_true rfl) (s_pad (L1 := [some (.ref p0), some (.int p1), some (.int p2), some (.int p3), some (.int p4)]) 5 rfl (s_iload_n (pc := 0) dX12_streets_0 rfl (s_iload_n (pc := 1) dX12_streets_1 rfl (s_callS (pc := 2) (As := [.int p1, .int p2]) (rest := []) (d' := 0) (mc' := 0) (ms' := 0) dX12_streets_2 c_X12_118 rfl rfl (Nat.le_of_ble_eq_true rfl) (rm_ok rfl rfl) ⟨Nat.le_refl 0, Nat.le_refl 0⟩ (T_X12_isSlate h) (kkI (fun r3 M2 h1 => s_if_eq (pc := 5) (tgt := 17) dX12_streets_5 rfl (fun c4 => have h5 := h1.1 c4; s_iconst (pc := 17) dX12_streets_17 ci_m1 (s_ireturn (pc := 18) dX12_streets_18 rfl (Nat.zero_le _) (Nat.zero_le _) ⟨_, rfl, h5⟩)) (fun c6 => have h7 := h1.2 c6; s_iload_n (pc := 8) dX12_streets_8 rfl (s_iload (pc := 9) dX12_streets_9 rfl (s_callS (pc := 11) (As := [.int p3, .int p4]) (rest := []) (d' := 0) (mc' := 0) (ms' := 0) dX12_streets_11 c_X12_118 rfl rfl (Nat.le_of_ble_eq_true rfl) (rm_ok rfl rfl) ⟨Nat.le_refl 0, Nat.le_refl 0⟩ (T_X12_isSlate h7) (kkI (fun r10 M9 h8 => s_if_ne (pc := 14) (tgt := 19) dX12_streets_14 rfl (fun c11 => have h12 := h8.1 c11; s_iconst (pc := 19) dX12_streets_19 ci_0 (s_iload_n (pc := 20) dX12_streets_20 rfl (s_iload_n (pc := 21) dX12_streets_21 rfl (s_isub (pc := 22) dX12_streets_22 (s_iload_n (pc := 23) dX12_streets_23 rfl (s_iload (pc := 24) dX12_streets_24 rfl (s_isub (pc := 26) dX12_streets_26 (s_mmax (pc := 27) dX12_streets_27 c_X12_257 (Nat.le_of_ble_eq_true rfl) (Nat.le_of_ble_eq_true rfl) (Nat.le_refl 0) (Nat.le_refl 0) (s_mmax (pc := 30) dX12_streets_30 c_X12_257 (Nat.le_of_ble_eq_true rfl) (Nat.le_of_ble_eq_true rfl) (Nat.le_refl 0) (Nat.le_refl 0) (s_ireturn (pc := 33) dX12_streets_33 rfl (Nat.zero_le _) (Nat.zero_le _) ⟨_, rfl, h12⟩)))))))))) (fun c13 => have h14 := h8.2 c13; s_iconst (pc := 17) dX12_streets_17 ci_m1 (s_ireturn (pc := 18) dX12_streets_18 rfl (Nat.zero_le _) (Nat.zero_le _) ⟨_, rfl, h14⟩)))))))))))))
/-! X12_stuck -/
theorem dX12_stuck_0 : cod mX12_stuck 0 (.aload_n 0) 1 := by decide +kernel
theorem dX12_stuck_1 : cod mX12_stuck 1 (.iload_n 1) 1 := by decide +kernel
theorem dX12_stuck_2 : cod mX12_stuck 2 (.invokevirtual 175) 3 := by decide +kernel
theorem dX12_stuck_5 : cod mX12_stuck 5 (.astore_n 2) 1 := by decide +kernel
theorem dX12_stuck_6 : cod mX12_stuck 6 (.aload_n 2) 1 := by decide +kernel
theorem dX12_stuck_7 : cod mX12_stuck 7 (.ifnonnull 14) 3 := by decide +kernel
theorem dX12_stuck_10 : cod mX12_stuck 10 (.aload_n 0) 1 := by decide +kernel
theorem dX12_stuck_11 : cod mX12_stuck 11 (.iload_n 1) 1 := by decide +kernel
theorem dX12_stuck_12 : cod mX12_stuck 12 (.invokevirtual 179) 3 := by decide +kernel
theorem dX12_stuck_15 : cod mX12_stuck 15 (.i2l) 1 := by decide +kernel
theorem dX12_stuck_16 : cod mX12_stuck 16 (.ldc2_w 207) 3 := by decide +kernel
theorem dX12_stuck_19 : cod mX12_stuck 19 (.lsub) 1 := by decide +kernel
theorem dX12_stuck_20 : cod mX12_stuck 20 (.lreturn) 1 := by decide +kernel
theorem dX12_stuck_21 : cod mX12_stuck 21 (.aload_n 0) 1 := by decide +kernel
theorem dX12_stuck_22 : cod mX12_stuck 22 (.getfield 52) 3 := by decide +kernel
theorem dX12_stuck_25 : cod mX12_stuck 25 (.aload_n 0) 1 := by decide +kernel
theorem dX12_stuck_26 : cod mX12_stuck 26 (.getfield 10) 3 := by decide +kernel
theorem dX12_stuck_29 : cod mX12_stuck 29 (.aload_n 2) 1 := by decide +kernel
theorem dX12_stuck_30 : cod mX12_stuck 30 (.invokevirtual 209) 3 := by decide +kernel
theorem dX12_stuck_33 : cod mX12_stuck 33 (.aload_n 0) 1 := by decide +kernel
theorem dX12_stuck_34 : cod mX12_stuck 34 (.getfield 52) 3 := by decide +kernel
theorem dX12_stuck_37 : cod mX12_stuck 37 (.getfield 217) 3 := by decide +kernel
theorem dX12_stuck_40 : cod mX12_stuck 40 (.lreturn) 1 := by decide +kernel
def wp_X12_stuck (p0 : Nat) (p1 : Int32) (M : Mem) (Q : Int64 → Mem → Prop) : Prop := mK M p0 = 13 ∧ wp_X12_readyWayOn p0 p1 M (fun r3 M2 => (¬ r3 = 0 → mK M2 p0 = 13 ∧ mK M2 (mR M2 p0 9) = 1 ∧ wp_X0_weigh (mR M2 p0 9) (mR M2 p0 0) r3 M2 (fun M9 => mK M9 p0 = 13 ∧ mK M9 (mR M9 p0 9) = 1 ∧ Q (mJ M9 (mR M9 p0 9) 3) M9)) ∧ (r3 = 0 → mK M2 p0 = 13 ∧ wp_X12_whyNotReady p0 p1 M2 (fun r12 M11 => Q (r12.toInt64 - 4000000000000000000) M11)))
theorem T_X12_stuck {G : GG} {Q : Int64 → Mem → Prop} {M : Mem} {p0 : Nat} {p1 : Int32} (h : wp_X12_stuck p0 p1 M Q) : PMet G mX12_stuck 13 0 0 [.ref p0, .int p1] M (QJ Q) :=
  mk_met (by decide) rfl rfl (by
    intro w hw x9 e9
    subst e9
    simp at hw) (Nat.le_of_ble_eq_true rfl) (s_pad (L1 := [some (.ref p0), some (.int p1), none]) 3 rfl (s_aload_n (pc := 0) dX12_stuck_0 rfl (s_iload_n (pc := 1) dX12_stuck_1 rfl (s_callV (pc := 2) (As := [.int p1]) (rest := []) (d' := 2) (mc' := 0) (ms' := 0) dX12_stuck_2 c_X12_175 (Nat.le_of_ble_eq_true rfl) rfl h.1 rfl rfl (Nat.le_of_ble_eq_true rfl) (rm_ok rfl rfl) ⟨Nat.le_refl 0, Nat.le_refl 0⟩ (T_X12_readyWayOn h.2) (kkR (fun r3 M2 h1 => s_astore_n (pc := 5) (L1 := [some (.ref p0), some (.int p1), some (.ref r3)]) dX12_stuck_5 (Nat.le_of_ble_eq_true rfl) rfl (s_aload_n (pc := 6) dX12_stuck_6 rfl (s_ifnonnull (pc := 7) (tgt := 21) dX12_stuck_7 rfl (fun c4 => have h5 := h1.1 c4; s_aload_n (pc := 21) dX12_stuck_21 rfl (s_getR (pc := 22) dX12_stuck_22 f_X12_52 rfl h5.1 (s_aload_n (pc := 25) dX12_stuck_25 rfl (s_getR (pc := 26) dX12_stuck_26 f_X12_10 rfl h5.1 (s_aload_n (pc := 29) dX12_stuck_29 rfl (s_callV (pc := 30) (As := [.ref (mR M2 p0 0), .ref r3]) (rest := []) (d' := 12) (mc' := 0) (ms' := 0) dX12_stuck_30 c_X12_209 (Nat.le_of_ble_eq_true rfl) rfl h5.2.1 rfl rfl (Nat.le_of_ble_eq_true rfl) (rm_ok rfl rfl) ⟨Nat.le_refl 0, Nat.le_refl 0⟩ (T_X0_weigh h5.2.2) (kkV (fun M9 h8 => s_aload_n (pc := 33) dX12_stuck_33 rfl (s_getR (pc := 34) dX12_stuck_34 f_X12_52 rfl h8.1 (s_getJ (pc := 37) dX12_stuck_37 f_X12_217 rfl h8.2.1 (s_lreturn (pc := 40) dX12_stuck_40 rfl (Nat.zero_le _) (Nat.zero_le _) ⟨_, rfl, h8.2.2⟩))))))))))) (fun c6 => have h7 := h1.2 c6; s_aload_n (pc := 10) dX12_stuck_10 rfl (s_iload_n (pc := 11) dX12_stuck_11 rfl (s_callV (pc := 12) (As := [.int p1]) (rest := []) (d' := 2) (mc' := 0) (ms' := 0) dX12_stuck_12 c_X12_179 (Nat.le_of_ble_eq_true rfl) rfl h7.1 rfl rfl (Nat.le_of_ble_eq_true rfl) (rm_ok rfl rfl) ⟨Nat.le_refl 0, Nat.le_refl 0⟩ (T_X12_whyNotReady h7.2) (kkI (fun r12 M11 h10 => s_i2l (pc := 15) dX12_stuck_15 (s_ldc2 (pc := 16) dX12_stuck_16 k_X12_207 (s_lsub (pc := 19) dX12_stuck_19 (s_lreturn (pc := 20) dX12_stuck_20 rfl (Nat.zero_le _) (Nat.zero_le _) ⟨_, rfl, h10⟩))))))))))))))))
/-! X12_think -/
theorem dX12_think_0 : cod mX12_think 0 (.aload_n 0) 1 := by decide +kernel
theorem dX12_think_1 : cod mX12_think 1 (.iload_n 1) 1 := by decide +kernel
theorem dX12_think_2 : cod mX12_think 2 (.invokevirtual 85) 3 := by decide +kernel
theorem dX12_think_5 : cod mX12_think 5 (.ifCond .eq 10) 3 := by decide +kernel
theorem dX12_think_8 : cod mX12_think 8 (.iload_n 2) 1 := by decide +kernel
theorem dX12_think_9 : cod mX12_think 9 (.invokestatic 89) 3 := by decide +kernel
theorem dX12_think_12 : cod mX12_think 12 (.ifCond .ne 7) 3 := by decide +kernel
theorem dX12_think_15 : cod mX12_think 15 (.ldc2_w 147) 3 := by decide +kernel
theorem dX12_think_18 : cod mX12_think 18 (.lreturn) 1 := by decide +kernel
theorem dX12_think_19 : cod mX12_think 19 (.aload_n 0) 1 := by decide +kernel
theorem dX12_think_20 : cod mX12_think 20 (.getfield 10) 3 := by decide +kernel
theorem dX12_think_23 : cod mX12_think 23 (.invokevirtual 132) 3 := by decide +kernel
theorem dX12_think_26 : cod mX12_think 26 (.ifCond .ne 7) 3 := by decide +kernel
theorem dX12_think_29 : cod mX12_think 29 (.ldc2_w 149) 3 := by decide +kernel
theorem dX12_think_32 : cod mX12_think 32 (.lreturn) 1 := by decide +kernel
theorem dX12_think_33 : cod mX12_think 33 (.aload_n 0) 1 := by decide +kernel
theorem dX12_think_34 : cod mX12_think 34 (.getfield 25) 3 := by decide +kernel
theorem dX12_think_37 : cod mX12_think 37 (.getfield 151) 3 := by decide +kernel
theorem dX12_think_40 : cod mX12_think 40 (.iload_n 1) 1 := by decide +kernel
theorem dX12_think_41 : cod mX12_think 41 (.laload) 1 := by decide +kernel
theorem dX12_think_42 : cod mX12_think 42 (.aload_n 0) 1 := by decide +kernel
theorem dX12_think_43 : cod mX12_think 43 (.getfield 25) 3 := by decide +kernel
theorem dX12_think_46 : cod mX12_think 46 (.aload_n 0) 1 := by decide +kernel
theorem dX12_think_47 : cod mX12_think 47 (.getfield 10) 3 := by decide +kernel
theorem dX12_think_50 : cod mX12_think 50 (.invokevirtual 155) 3 := by decide +kernel
theorem dX12_think_53 : cod mX12_think 53 (.iload_n 2) 1 := by decide +kernel
theorem dX12_think_54 : cod mX12_think 54 (.invokestatic 159) 3 := by decide +kernel
theorem dX12_think_57 : cod mX12_think 57 (.lreturn) 1 := by decide +kernel
def wp_X12_think (p0 : Nat) (p1 : Int32) (p2 : Int32) (M : Mem) (Q : Int64 → Mem → Prop) : Prop := mK M p0 = 13 ∧ wp_X12_isWorth p0 p1 M (fun r3 M2 => (r3 = (0 : Int32) → Q (-4000000000000000001) M2) ∧ (¬ r3 = (0 : Int32) → wp_X12_isPart p2 M2 (fun r10 M9 => (¬ r10 = (0 : Int32) → mK M9 p0 = 13 ∧ mK M9 (mR M9 p0 0) = 7 ∧ wp_X6_isReady (mR M9 p0 0) M9 (fun r17 M16 => (¬ r17 = (0 : Int32) → mK M16 p0 = 13 ∧ mK M16 (mR M16 p0 3) = 10 ∧ mK M16 (mR M16 (mR M16 p0 3) 0) = 21 ∧ vp_in p1 (mN M16 (mR M16 (mR M16 p0 3) 0)) ∧ wp_X9_allWeights (mR M16 p0 3) (mR M16 p0 0) M16 (fun r24 M23 => wp_X12_inLeastTerms (mJ M16 (mR M16 (mR M16 p0 3) 0) p1.toNatClampNeg) r24 p2 M23 (fun r27 M26 => Q r27 M26))) ∧ (r17 = (0 : Int32) → Q (-4000000000000000003) M16))) ∧ (r10 = (0 : Int32) → Q (-4000000000000000001) M9))))
theorem T_X12_think {G : GG} {Q : Int64 → Mem → Prop} {M : Mem} {p0 : Nat} {p1 : Int32} {p2 : Int32} (h : wp_X12_think p0 p1 p2 M Q) : PMet G mX12_think 2 0 0 [.ref p0, .int p1, .int p2] M (QJ Q) :=
  mk_met (by decide) rfl rfl (by
    intro w hw x9 e9
    subst e9
    simp at hw) (Nat.le_of_ble_eq_true rfl) (s_pad (L1 := [some (.ref p0), some (.int p1), some (.int p2)]) 3 rfl (s_aload_n (pc := 0) dX12_think_0 rfl (s_iload_n (pc := 1) dX12_think_1 rfl (s_callV (pc := 2) (As := [.int p1]) (rest := []) (d' := 0) (mc' := 0) (ms' := 0) dX12_think_2 c_X12_85 (Nat.le_of_ble_eq_true rfl) rfl h.1 rfl rfl (Nat.le_of_ble_eq_true rfl) (rm_ok rfl rfl) ⟨Nat.le_refl 0, Nat.le_refl 0⟩ (T_X12_isWorth h.2) (kkI (fun r3 M2 h1 => s_if_eq (pc := 5) (tgt := 15) dX12_think_5 rfl (fun c4 => have h5 := h1.1 c4; s_ldc2 (pc := 15) dX12_think_15 k_X12_147 (s_lreturn (pc := 18) dX12_think_18 rfl (Nat.zero_le _) (Nat.zero_le _) ⟨_, rfl, h5⟩)) (fun c6 => have h7 := h1.2 c6; s_iload_n (pc := 8) dX12_think_8 rfl (s_callS (pc := 9) (As := [.int p2]) (rest := []) (d' := 0) (mc' := 0) (ms' := 0) dX12_think_9 c_X12_89 rfl rfl (Nat.le_of_ble_eq_true rfl) (rm_ok rfl rfl) ⟨Nat.le_refl 0, Nat.le_refl 0⟩ (T_X12_isPart h7) (kkI (fun r10 M9 h8 => s_if_ne (pc := 12) (tgt := 19) dX12_think_12 rfl (fun c11 => have h12 := h8.1 c11; s_aload_n (pc := 19) dX12_think_19 rfl (s_getR (pc := 20) dX12_think_20 f_X12_10 rfl h12.1 (s_callV (pc := 23) (As := []) (rest := []) (d' := 1) (mc' := 0) (ms' := 0) dX12_think_23 c_X12_132 (Nat.le_of_ble_eq_true rfl) rfl h12.2.1 rfl rfl (Nat.le_of_ble_eq_true rfl) (rm_ok rfl rfl) ⟨Nat.le_refl 0, Nat.le_refl 0⟩ (T_X6_isReady h12.2.2) (kkI (fun r17 M16 h15 => s_if_ne (pc := 26) (tgt := 33) dX12_think_26 rfl (fun c18 => have h19 := h15.1 c18; s_aload_n (pc := 33) dX12_think_33 rfl (s_getR (pc := 34) dX12_think_34 f_X12_25 rfl h19.1 (s_getR (pc := 37) dX12_think_37 f_X12_151 rfl h19.2.1 (s_iload_n (pc := 40) dX12_think_40 rfl (s_lal (pc := 41) dX12_think_41 h19.2.2.1 h19.2.2.2.1 (s_aload_n (pc := 42) dX12_think_42 rfl (s_getR (pc := 43) dX12_think_43 f_X12_25 rfl h19.1 (s_aload_n (pc := 46) dX12_think_46 rfl (s_getR (pc := 47) dX12_think_47 f_X12_10 rfl h19.1 (s_callV (pc := 50) (As := [.ref (mR M16 p0 0)]) (rest := [.long (mJ M16 (mR M16 (mR M16 p0 3) 0) p1.toNatClampNeg)]) (d' := 0) (mc' := 0) (ms' := 0) dX12_think_50 c_X12_155 (Nat.le_of_ble_eq_true rfl) rfl h19.2.1 rfl rfl (Nat.le_of_ble_eq_true rfl) (rm_ok rfl rfl) ⟨Nat.le_refl 0, Nat.le_refl 0⟩ (T_X9_allWeights h19.2.2.2.2) (kkJ (fun r24 M23 h22 => s_iload_n (pc := 53) dX12_think_53 rfl (s_callS (pc := 54) (As := [.long (mJ M16 (mR M16 (mR M16 p0 3) 0) p1.toNatClampNeg), .long r24, .int p2]) (rest := []) (d' := 1) (mc' := 0) (ms' := 0) dX12_think_54 c_X12_159 rfl rfl (Nat.le_of_ble_eq_true rfl) (rm_ok rfl rfl) ⟨Nat.le_refl 0, Nat.le_refl 0⟩ (T_X12_inLeastTerms h22) (kkJ (fun r27 M26 h25 => s_lreturn (pc := 57) dX12_think_57 rfl (Nat.zero_le _) (Nat.zero_le _) ⟨_, rfl, h25⟩))))))))))))))) (fun c20 => have h21 := h15.2 c20; s_ldc2 (pc := 29) dX12_think_29 k_X12_149 (s_lreturn (pc := 32) dX12_think_32 rfl (Nat.zero_le _) (Nat.zero_le _) ⟨_, rfl, h21⟩))))))) (fun c13 => have h14 := h8.2 c13; s_ldc2 (pc := 15) dX12_think_15 k_X12_147 (s_lreturn (pc := 18) dX12_think_18 rfl (Nat.zero_le _) (Nat.zero_le _) ⟨_, rfl, h14⟩))))))))))))
/-! X1_failureNumber -/
theorem dX1_failureNumber_0 : cod mX1_failureNumber 0 (.sipush 200) 3 := by decide +kernel
theorem dX1_failureNumber_3 : cod mX1_failureNumber 3 (.aload_n 0) 1 := by decide +kernel
theorem dX1_failureNumber_4 : cod mX1_failureNumber 4 (.invokevirtual 28) 3 := by decide +kernel
theorem dX1_failureNumber_7 : cod mX1_failureNumber 7 (.iadd) 1 := by decide +kernel
theorem dX1_failureNumber_8 : cod mX1_failureNumber 8 (.ireturn) 1 := by decide +kernel
def wp_X1_failureNumber (p0 : Nat) (M : Mem) (Q : Int32 → Mem → Prop) : Prop := mK M p0 = 2 ∧ wp_X1_width p0 M (fun r3 M2 => Q (200 + r3) M2)
theorem T_X1_failureNumber {G : GG} {Q : Int32 → Mem → Prop} {M : Mem} {p0 : Nat} (h : wp_X1_failureNumber p0 M Q) : PMet G mX1_failureNumber 3 0 0 [.ref p0] M (QI Q) :=
  mk_met (by decide) rfl rfl (by
    intro w hw x9 e9
    subst e9
    simp at hw) (Nat.le_of_ble_eq_true rfl) (s_pad (L1 := [some (.ref p0)]) 1 rfl (s_sipush (pc := 0) dX1_failureNumber_0 cs_200 (s_aload_n (pc := 3) dX1_failureNumber_3 rfl (s_callV (pc := 4) (As := []) (rest := [.int 200]) (d' := 2) (mc' := 0) (ms' := 0) dX1_failureNumber_4 c_X1_28 (Nat.le_of_ble_eq_true rfl) rfl h.1 rfl rfl (Nat.le_of_ble_eq_true rfl) (rm_ok rfl rfl) ⟨Nat.le_refl 0, Nat.le_refl 0⟩ (T_X1_width h.2) (kkI (fun r3 M2 h1 => s_iadd (pc := 7) dX1_failureNumber_7 (s_ireturn (pc := 8) dX1_failureNumber_8 rfl (Nat.zero_le _) (Nat.zero_le _) ⟨_, rfl, h1⟩)))))))
/-! X12_worth -/
theorem dX12_worth_0 : cod mX12_worth 0 (.aload_n 0) 1 := by decide +kernel
theorem dX12_worth_1 : cod mX12_worth 1 (.iload_n 1) 1 := by decide +kernel
theorem dX12_worth_2 : cod mX12_worth 2 (.invokevirtual 85) 3 := by decide +kernel
theorem dX12_worth_5 : cod mX12_worth 5 (.ifCond .eq 10) 3 := by decide +kernel
theorem dX12_worth_8 : cod mX12_worth 8 (.iload_n 2) 1 := by decide +kernel
theorem dX12_worth_9 : cod mX12_worth 9 (.invokestatic 89) 3 := by decide +kernel
theorem dX12_worth_12 : cod mX12_worth 12 (.ifCond .ne 5) 3 := by decide +kernel
theorem dX12_worth_15 : cod mX12_worth 15 (.iconst (-1)) 1 := by decide +kernel
theorem dX12_worth_16 : cod mX12_worth 16 (.ireturn) 1 := by decide +kernel
theorem dX12_worth_17 : cod mX12_worth 17 (.iload_n 2) 1 := by decide +kernel
theorem dX12_worth_18 : cod mX12_worth 18 (.ifCond .ne 15) 3 := by decide +kernel
theorem dX12_worth_21 : cod mX12_worth 21 (.aload_n 0) 1 := by decide +kernel
theorem dX12_worth_22 : cod mX12_worth 22 (.getfield 10) 3 := by decide +kernel
theorem dX12_worth_25 : cod mX12_worth 25 (.getfield 92) 3 := by decide +kernel
theorem dX12_worth_28 : cod mX12_worth 28 (.iload_n 1) 1 := by decide +kernel
theorem dX12_worth_29 : cod mX12_worth 29 (.iaload) 1 := by decide +kernel
theorem dX12_worth_30 : cod mX12_worth 30 (.goto 12) 3 := by decide +kernel
theorem dX12_worth_33 : cod mX12_worth 33 (.aload_n 0) 1 := by decide +kernel
theorem dX12_worth_34 : cod mX12_worth 34 (.getfield 10) 3 := by decide +kernel
theorem dX12_worth_37 : cod mX12_worth 37 (.getfield 96) 3 := by decide +kernel
theorem dX12_worth_40 : cod mX12_worth 40 (.iload_n 1) 1 := by decide +kernel
theorem dX12_worth_41 : cod mX12_worth 41 (.iaload) 1 := by decide +kernel
theorem dX12_worth_42 : cod mX12_worth 42 (.ireturn) 1 := by decide +kernel
def wp_X12_worth (p0 : Nat) (p1 : Int32) (p2 : Int32) (M : Mem) (Q : Int32 → Mem → Prop) : Prop := mK M p0 = 13 ∧ wp_X12_isWorth p0 p1 M (fun r3 M2 => (r3 = (0 : Int32) → Q (-1) M2) ∧ (¬ r3 = (0 : Int32) → wp_X12_isPart p2 M2 (fun r10 M9 => (¬ r10 = (0 : Int32) → (¬ p2 = (0 : Int32) → mK M9 p0 = 13 ∧ mK M9 (mR M9 p0 0) = 7 ∧ mK M9 (mR M9 (mR M9 p0 0) 2) = 20 ∧ vp_in p1 (mN M9 (mR M9 (mR M9 p0 0) 2)) ∧ Q (mI M9 (mR M9 (mR M9 p0 0) 2) p1.toNatClampNeg) M9) ∧ (p2 = (0 : Int32) → mK M9 p0 = 13 ∧ mK M9 (mR M9 p0 0) = 7 ∧ mK M9 (mR M9 (mR M9 p0 0) 1) = 20 ∧ vp_in p1 (mN M9 (mR M9 (mR M9 p0 0) 1)) ∧ Q (mI M9 (mR M9 (mR M9 p0 0) 1) p1.toNatClampNeg) M9)) ∧ (r10 = (0 : Int32) → Q (-1) M9))))
theorem T_X12_worth {G : GG} {Q : Int32 → Mem → Prop} {M : Mem} {p0 : Nat} {p1 : Int32} {p2 : Int32} (h : wp_X12_worth p0 p1 p2 M Q) : PMet G mX12_worth 1 0 0 [.ref p0, .int p1, .int p2] M (QI Q) :=
  mk_met (by decide) rfl rfl (by
    intro w hw x9 e9
    subst e9
    simp at hw) (Nat.le_of_ble_eq_true rfl) (s_pad (L1 := [some (.ref p0), some (.int p1), some (.int p2)]) 3 rfl (s_aload_n (pc := 0) dX12_worth_0 rfl (s_iload_n (pc := 1) dX12_worth_1 rfl (s_callV (pc := 2) (As := [.int p1]) (rest := []) (d' := 0) (mc' := 0) (ms' := 0) dX12_worth_2 c_X12_85 (Nat.le_of_ble_eq_true rfl) rfl h.1 rfl rfl (Nat.le_of_ble_eq_true rfl) (rm_ok rfl rfl) ⟨Nat.le_refl 0, Nat.le_refl 0⟩ (T_X12_isWorth h.2) (kkI (fun r3 M2 h1 => s_if_eq (pc := 5) (tgt := 15) dX12_worth_5 rfl (fun c4 => have h5 := h1.1 c4; s_iconst (pc := 15) dX12_worth_15 ci_m1 (s_ireturn (pc := 16) dX12_worth_16 rfl (Nat.zero_le _) (Nat.zero_le _) ⟨_, rfl, h5⟩)) (fun c6 => have h7 := h1.2 c6; s_iload_n (pc := 8) dX12_worth_8 rfl (s_callS (pc := 9) (As := [.int p2]) (rest := []) (d' := 0) (mc' := 0) (ms' := 0) dX12_worth_9 c_X12_89 rfl rfl (Nat.le_of_ble_eq_true rfl) (rm_ok rfl rfl) ⟨Nat.le_refl 0, Nat.le_refl 0⟩ (T_X12_isPart h7) (kkI (fun r10 M9 h8 => s_if_ne (pc := 12) (tgt := 17) dX12_worth_12 rfl (fun c11 => have h12 := h8.1 c11; s_iload_n (pc := 17) dX12_worth_17 rfl (s_if_ne (pc := 18) (tgt := 33) dX12_worth_18 rfl (fun c15 => have h16 := h12.1 c15; s_aload_n (pc := 33) dX12_worth_33 rfl (s_getR (pc := 34) dX12_worth_34 f_X12_10 rfl h16.1 (s_getR (pc := 37) dX12_worth_37 f_X12_96 rfl h16.2.1 (s_iload_n (pc := 40) dX12_worth_40 rfl (s_ial (pc := 41) dX12_worth_41 h16.2.2.1 h16.2.2.2.1 (s_ireturn (pc := 42) dX12_worth_42 rfl (Nat.zero_le _) (Nat.zero_le _) ⟨_, rfl, h16.2.2.2.2⟩)))))) (fun c17 => have h18 := h12.2 c17; s_aload_n (pc := 21) dX12_worth_21 rfl (s_getR (pc := 22) dX12_worth_22 f_X12_10 rfl h18.1 (s_getR (pc := 25) dX12_worth_25 f_X12_92 rfl h18.2.1 (s_iload_n (pc := 28) dX12_worth_28 rfl (s_ial (pc := 29) dX12_worth_29 h18.2.2.1 h18.2.2.2.1 (s_goto (pc := 30) (tgt := 42) dX12_worth_30 rfl (s_ireturn (pc := 42) dX12_worth_42 rfl (Nat.zero_le _) (Nat.zero_le _) ⟨_, rfl, h18.2.2.2.2⟩))))))))) (fun c13 => have h14 := h8.2 c13; s_iconst (pc := 15) dX12_worth_15 ci_m1 (s_ireturn (pc := 16) dX12_worth_16 rfl (Nat.zero_le _) (Nat.zero_le _) ⟨_, rfl, h14⟩))))))))))))
/-! X13_allowed -/
theorem dX13_allowed_0 : cod mX13_allowed 0 (.iload_n 1) 1 := by decide +kernel
theorem dX13_allowed_1 : cod mX13_allowed 1 (.iconst 1) 1 := by decide +kernel
theorem dX13_allowed_2 : cod mX13_allowed 2 (.if_icmp .ne 12) 3 := by decide +kernel
theorem dX13_allowed_5 : cod mX13_allowed 5 (.iload_n 2) 1 := by decide +kernel
theorem dX13_allowed_6 : cod mX13_allowed 6 (.aload_n 0) 1 := by decide +kernel
theorem dX13_allowed_7 : cod mX13_allowed 7 (.getfield 25) 3 := by decide +kernel
theorem dX13_allowed_10 : cod mX13_allowed 10 (.ineg) 1 := by decide +kernel
theorem dX13_allowed_11 : cod mX13_allowed 11 (.if_icmp .le 16) 3 := by decide +kernel
theorem dX13_allowed_14 : cod mX13_allowed 14 (.iload_n 1) 1 := by decide +kernel
theorem dX13_allowed_15 : cod mX13_allowed 15 (.iconst 2) 1 := by decide +kernel
theorem dX13_allowed_16 : cod mX13_allowed 16 (.if_icmp .ne 15) 3 := by decide +kernel
theorem dX13_allowed_19 : cod mX13_allowed 19 (.iload_n 2) 1 := by decide +kernel
theorem dX13_allowed_20 : cod mX13_allowed 20 (.aload_n 0) 1 := by decide +kernel
theorem dX13_allowed_21 : cod mX13_allowed 21 (.getfield 25) 3 := by decide +kernel
theorem dX13_allowed_24 : cod mX13_allowed 24 (.if_icmp .lt 7) 3 := by decide +kernel
theorem dX13_allowed_27 : cod mX13_allowed 27 (.iconst 0) 1 := by decide +kernel
theorem dX13_allowed_28 : cod mX13_allowed 28 (.goto 4) 3 := by decide +kernel
theorem dX13_allowed_31 : cod mX13_allowed 31 (.iload_n 1) 1 := by decide +kernel
theorem dX13_allowed_32 : cod mX13_allowed 32 (.ireturn) 1 := by decide +kernel
def jn_X13_allowed_14 (Q : Int32 → Mem → Prop) (x0 : Nat) (x1 : Int32) (x2 : Int32) (M : Mem) : Prop := (¬ x1 = (2 : Int32) → Q x1 M) ∧ (x1 = (2 : Int32) → mK M x0 = 14 ∧ (x2 < (mI M x0 7) → Q x1 M) ∧ (¬ x2 < (mI M x0 7) → Q 0 M))
theorem P_jn_X13_allowed_14 {G : GG} {Q : Int32 → Mem → Prop} (x0 : Nat) (x1 : Int32) (x2 : Int32) (M : Mem) (h : jn_X13_allowed_14 Q x0 x1 x2 M) : PW G mX13_allowed (rmD 0 0 0) (QI Q) 14 [some (.ref x0), some (.int x1), some (.int x2)] [] M 0 0 := (s_iload_n (pc := 14) dX13_allowed_14 rfl (s_iconst (pc := 15) dX13_allowed_15 ci_2 (s_icmp_ne (pc := 16) (tgt := 31) dX13_allowed_16 rfl (fun c5 => have h6 := h.1 c5; s_iload_n (pc := 31) dX13_allowed_31 rfl (s_ireturn (pc := 32) dX13_allowed_32 rfl (Nat.zero_le _) (Nat.zero_le _) ⟨_, rfl, h6⟩)) (fun c7 => have h8 := h.2 c7; s_iload_n (pc := 19) dX13_allowed_19 rfl (s_aload_n (pc := 20) dX13_allowed_20 rfl (s_getI (pc := 21) dX13_allowed_21 f_X13_25 rfl h8.1 (s_icmp_lt (pc := 24) (tgt := 31) dX13_allowed_24 rfl (fun c9 => have h10 := h8.2.1 c9; s_iload_n (pc := 31) dX13_allowed_31 rfl (s_ireturn (pc := 32) dX13_allowed_32 rfl (Nat.zero_le _) (Nat.zero_le _) ⟨_, rfl, h10⟩)) (fun c11 => have h12 := h8.2.2 c11; s_iconst (pc := 27) dX13_allowed_27 ci_0 (s_goto (pc := 28) (tgt := 32) dX13_allowed_28 rfl (s_ireturn (pc := 32) dX13_allowed_32 rfl (Nat.zero_le _) (Nat.zero_le _) ⟨_, rfl, h12⟩))))))))))
def wp_X13_allowed (p0 : Nat) (p1 : Int32) (p2 : Int32) (M : Mem) (Q : Int32 → Mem → Prop) : Prop := (¬ p1 = (1 : Int32) → jn_X13_allowed_14 Q p0 p1 p2 M) ∧ (p1 = (1 : Int32) → mK M p0 = 14 ∧ (p2 ≤ (-(mI M p0 7)) → Q 0 M) ∧ (¬ p2 ≤ (-(mI M p0 7)) → jn_X13_allowed_14 Q p0 p1 p2 M))
theorem T_X13_allowed {G : GG} {Q : Int32 → Mem → Prop} {M : Mem} {p0 : Nat} {p1 : Int32} {p2 : Int32} (h : wp_X13_allowed p0 p1 p2 M Q) : PMet G mX13_allowed 0 0 0 [.ref p0, .int p1, .int p2] M (QI Q) :=
  mk_met (by decide) rfl rfl (by
    intro w hw x9 e9
    subst e9
    simp at hw) (Nat.le_of_ble_eq_true rfl) (s_pad (L1 := [some (.ref p0), some (.int p1), some (.int p2)]) 3 rfl (s_iload_n (pc := 0) dX13_allowed_0 rfl (s_iconst (pc := 1) dX13_allowed_1 ci_1 (s_icmp_ne (pc := 2) (tgt := 14) dX13_allowed_2 rfl (fun c1 => have h2 := h.1 c1; s_sel (L1 := [some (.ref p0), some (.int p1), some (.int p2)]) [true, true, true] rfl (P_jn_X13_allowed_14 p0 p1 p2 M h2)) (fun c3 => have h4 := h.2 c3; s_iload_n (pc := 5) dX13_allowed_5 rfl (s_aload_n (pc := 6) dX13_allowed_6 rfl (s_getI (pc := 7) dX13_allowed_7 f_X13_25 rfl h4.1 (s_ineg (pc := 10) dX13_allowed_10 (s_icmp_le (pc := 11) (tgt := 27) dX13_allowed_11 rfl (fun c13 => have h14 := h4.2.1 c13; s_iconst (pc := 27) dX13_allowed_27 ci_0 (s_goto (pc := 28) (tgt := 32) dX13_allowed_28 rfl (s_ireturn (pc := 32) dX13_allowed_32 rfl (Nat.zero_le _) (Nat.zero_le _) ⟨_, rfl, h14⟩))) (fun c15 => have h16 := h4.2.2 c15; s_sel (L1 := [some (.ref p0), some (.int p1), some (.int p2)]) [true, true, true] rfl (P_jn_X13_allowed_14 p0 p1 p2 M h16)))))))))))
/-! X13_chancesTogether -/
theorem dX13_chancesTogether_0 : cod mX13_chancesTogether 0 (.iconst 0) 1 := by decide +kernel
theorem dX13_chancesTogether_1 : cod mX13_chancesTogether 1 (.istore_n 1) 1 := by decide +kernel
theorem dX13_chancesTogether_2 : cod mX13_chancesTogether 2 (.iconst 0) 1 := by decide +kernel
theorem dX13_chancesTogether_3 : cod mX13_chancesTogether 3 (.istore_n 2) 1 := by decide +kernel
theorem dX13_chancesTogether_4 : cod mX13_chancesTogether 4 (.iload_n 2) 1 := by decide +kernel
theorem dX13_chancesTogether_5 : cod mX13_chancesTogether 5 (.aload_n 0) 1 := by decide +kernel
theorem dX13_chancesTogether_6 : cod mX13_chancesTogether 6 (.getfield 119) 3 := by decide +kernel
theorem dX13_chancesTogether_9 : cod mX13_chancesTogether 9 (.if_icmp .ge 18) 3 := by decide +kernel
theorem dX13_chancesTogether_12 : cod mX13_chancesTogether 12 (.iload_n 1) 1 := by decide +kernel
theorem dX13_chancesTogether_13 : cod mX13_chancesTogether 13 (.aload_n 0) 1 := by decide +kernel
theorem dX13_chancesTogether_14 : cod mX13_chancesTogether 14 (.getfield 7) 3 := by decide +kernel
theorem dX13_chancesTogether_17 : cod mX13_chancesTogether 17 (.iload_n 2) 1 := by decide +kernel
theorem dX13_chancesTogether_18 : cod mX13_chancesTogether 18 (.iaload) 1 := by decide +kernel
theorem dX13_chancesTogether_19 : cod mX13_chancesTogether 19 (.iadd) 1 := by decide +kernel
theorem dX13_chancesTogether_20 : cod mX13_chancesTogether 20 (.istore_n 1) 1 := by decide +kernel
theorem dX13_chancesTogether_21 : cod mX13_chancesTogether 21 (.iinc 2 1) 3 := by decide +kernel
theorem dX13_chancesTogether_24 : cod mX13_chancesTogether 24 (.goto (-20)) 3 := by decide +kernel
theorem dX13_chancesTogether_27 : cod mX13_chancesTogether 27 (.iload_n 1) 1 := by decide +kernel
theorem dX13_chancesTogether_28 : cod mX13_chancesTogether 28 (.ireturn) 1 := by decide +kernel
def lp_X13_chancesTogether_4 (Q : Int32 → Mem → Prop) : Nat → Nat → Int32 → Int32 → Mem → Prop
  | 0 => fun _ _ _ _ => False
  | n + 1 => fun x0 x1 x2 M => mK M x0 = 14 ∧ ((mI M x0 0) ≤ x2 → Q x1 M) ∧ (¬ (mI M x0 0) ≤ x2 → mK M (mR M x0 1) = 20 ∧ vp_in x2 (mN M (mR M x0 1)) ∧ ∀ y5 : Int32, y5 = x1 + (mI M (mR M x0 1) x2.toNatClampNeg) → (lp_X13_chancesTogether_4 Q n) x0 y5 (x2 + 1) M)
theorem P_lp_X13_chancesTogether_4 {G : GG} {Q : Int32 → Mem → Prop} : ∀ (n : Nat) (x0 : Nat) (x1 : Int32) (x2 : Int32) (M : Mem), lp_X13_chancesTogether_4 Q n x0 x1 x2 M → PW G mX13_chancesTogether (rmD 0 0 0) (QI Q) 4 [some (.ref x0), some (.int x1), some (.int x2)] [] M 0 0 := by
  intro n
  induction n with
  | zero => intro x0 x1 x2 M h; exact h.elim
  | succ n ih =>
    intro x0 x1 x2 M h
    exact (s_iload_n (pc := 4) dX13_chancesTogether_4 rfl (s_aload_n (pc := 5) dX13_chancesTogether_5 rfl (s_getI (pc := 6) dX13_chancesTogether_6 f_X13_119 rfl h.1 (s_icmp_ge (pc := 9) (tgt := 27) dX13_chancesTogether_9 rfl (fun c1 => have h2 := h.2.1 c1; s_iload_n (pc := 27) dX13_chancesTogether_27 rfl (s_ireturn (pc := 28) dX13_chancesTogether_28 rfl (Nat.zero_le _) (Nat.zero_le _) ⟨_, rfl, h2⟩)) (fun c3 => have h4 := h.2.2 c3; s_iload_n (pc := 12) dX13_chancesTogether_12 rfl (s_aload_n (pc := 13) dX13_chancesTogether_13 rfl (s_getR (pc := 14) dX13_chancesTogether_14 f_X13_7 rfl h.1 (s_iload_n (pc := 17) dX13_chancesTogether_17 rfl (s_ial (pc := 18) dX13_chancesTogether_18 h4.1 h4.2.1 (s_iadd (pc := 19) dX13_chancesTogether_19 (nmI (fun y5 e6 => have h7 := h4.2.2 y5 e6; s_istore_n (pc := 20) (L1 := [some (.ref x0), some (.int y5), some (.int x2)]) dX13_chancesTogether_20 (Nat.le_of_ble_eq_true rfl) rfl (s_iinc (pc := 21) (L1 := [some (.ref x0), some (.int y5), some (.int (x2 + 1))]) dX13_chancesTogether_21 rfl ci_1 (Nat.le_of_ble_eq_true rfl) rfl (s_goto (pc := 24) (tgt := 4) dX13_chancesTogether_24 rfl (s_sel (L1 := [some (.ref x0), some (.int y5), some (.int (x2 + 1))]) [true, true, true] rfl (ih x0 y5 (x2 + 1) M h7))))))))))))))))
def wp_X13_chancesTogether (p0 : Nat) (M : Mem) (Q : Int32 → Mem → Prop) : Prop := ∃ n8 : Nat, lp_X13_chancesTogether_4 Q n8 p0 0 0 M
theorem T_X13_chancesTogether {G : GG} {Q : Int32 → Mem → Prop} {M : Mem} {p0 : Nat} (h : wp_X13_chancesTogether p0 M Q) : PMet G mX13_chancesTogether 0 0 0 [.ref p0] M (QI Q) :=
  mk_met (by decide) rfl rfl (by
    intro w hw x9 e9
    subst e9
    simp at hw) (Nat.le_of_ble_eq_true rfl) (s_pad (L1 := [some (.ref p0), none, none]) 3 rfl (s_iconst (pc := 0) dX13_chancesTogether_0 ci_0 (s_istore_n (pc := 1) (L1 := [some (.ref p0), some (.int 0), none]) dX13_chancesTogether_1 (Nat.le_of_ble_eq_true rfl) rfl (s_iconst (pc := 2) dX13_chancesTogether_2 ci_0 (s_istore_n (pc := 3) (L1 := [some (.ref p0), some (.int 0), some (.int 0)]) dX13_chancesTogether_3 (Nat.le_of_ble_eq_true rfl) rfl (Exists.elim h (fun n8 hn => s_sel (L1 := [some (.ref p0), some (.int 0), some (.int 0)]) [true, true, true] rfl (P_lp_X13_chancesTogether_4 n8 p0 0 0 M hn))))))))
/-! X13_isReady -/
theorem dX13_isReady_0 : cod mX13_isReady 0 (.aload_n 0) 1 := by decide +kernel
theorem dX13_isReady_1 : cod mX13_isReady 1 (.invokevirtual 131) 3 := by decide +kernel
theorem dX13_isReady_4 : cod mX13_isReady 4 (.bipush 100) 2 := by decide +kernel
theorem dX13_isReady_6 : cod mX13_isReady 6 (.if_icmp .ne 7) 3 := by decide +kernel
theorem dX13_isReady_9 : cod mX13_isReady 9 (.iconst 1) 1 := by decide +kernel
theorem dX13_isReady_10 : cod mX13_isReady 10 (.goto 4) 3 := by decide +kernel
theorem dX13_isReady_13 : cod mX13_isReady 13 (.iconst 0) 1 := by decide +kernel
theorem dX13_isReady_14 : cod mX13_isReady 14 (.ireturn) 1 := by decide +kernel
def wp_X13_isReady (p0 : Nat) (M : Mem) (Q : Int32 → Mem → Prop) : Prop := mK M p0 = 14 ∧ wp_X13_chancesTogether p0 M (fun r3 M2 => (¬ r3 = (100 : Int32) → Q 0 M2) ∧ (r3 = (100 : Int32) → Q 1 M2))
theorem T_X13_isReady {G : GG} {Q : Int32 → Mem → Prop} {M : Mem} {p0 : Nat} (h : wp_X13_isReady p0 M Q) : PMet G mX13_isReady 1 0 0 [.ref p0] M (QI Q) :=
  mk_met (by decide) rfl rfl (by
    intro w hw x9 e9
    subst e9
    simp at hw) (Nat.le_of_ble_eq_true rfl) (s_pad (L1 := [some (.ref p0)]) 1 rfl (s_aload_n (pc := 0) dX13_isReady_0 rfl (s_callV (pc := 1) (As := []) (rest := []) (d' := 0) (mc' := 0) (ms' := 0) dX13_isReady_1 c_X13_131 (Nat.le_of_ble_eq_true rfl) rfl h.1 rfl rfl (Nat.le_of_ble_eq_true rfl) (rm_ok rfl rfl) ⟨Nat.le_refl 0, Nat.le_refl 0⟩ (T_X13_chancesTogether h.2) (kkI (fun r3 M2 h1 => s_bipush (pc := 4) dX13_isReady_4 cb_100 (s_icmp_ne (pc := 6) (tgt := 13) dX13_isReady_6 rfl (fun c4 => have h5 := h1.1 c4; s_iconst (pc := 13) dX13_isReady_13 ci_0 (s_zreturn (pc := 14) dX13_isReady_14 rfl (Or.inl rfl) (Nat.zero_le _) (Nat.zero_le _) ⟨_, rfl, h5⟩)) (fun c6 => have h7 := h1.2 c6; s_iconst (pc := 9) dX13_isReady_9 ci_1 (s_goto (pc := 10) (tgt := 14) dX13_isReady_10 rfl (s_zreturn (pc := 14) dX13_isReady_14 rfl (Or.inr rfl) (Nat.zero_le _) (Nat.zero_le _) ⟨_, rfl, h7⟩)))))))))
/-! X13_thinkAnew -/
theorem dX13_thinkAnew_0 : cod mX13_thinkAnew 0 (.iconst 0) 1 := by decide +kernel
theorem dX13_thinkAnew_1 : cod mX13_thinkAnew 1 (.istore_n 1) 1 := by decide +kernel
theorem dX13_thinkAnew_2 : cod mX13_thinkAnew 2 (.iload_n 1) 1 := by decide +kernel
theorem dX13_thinkAnew_3 : cod mX13_thinkAnew 3 (.aload_n 0) 1 := by decide +kernel
theorem dX13_thinkAnew_4 : cod mX13_thinkAnew 4 (.getfield 119) 3 := by decide +kernel
theorem dX13_thinkAnew_7 : cod mX13_thinkAnew 7 (.if_icmp .ge 22) 3 := by decide +kernel
theorem dX13_thinkAnew_10 : cod mX13_thinkAnew 10 (.aload_n 0) 1 := by decide +kernel
theorem dX13_thinkAnew_11 : cod mX13_thinkAnew 11 (.getfield 32) 3 := by decide +kernel
theorem dX13_thinkAnew_14 : cod mX13_thinkAnew 14 (.iload_n 1) 1 := by decide +kernel
theorem dX13_thinkAnew_15 : cod mX13_thinkAnew 15 (.aload_n 0) 1 := by decide +kernel
theorem dX13_thinkAnew_16 : cod mX13_thinkAnew 16 (.getfield 7) 3 := by decide +kernel
theorem dX13_thinkAnew_19 : cod mX13_thinkAnew 19 (.iload_n 1) 1 := by decide +kernel
theorem dX13_thinkAnew_20 : cod mX13_thinkAnew 20 (.iaload) 1 := by decide +kernel
theorem dX13_thinkAnew_21 : cod mX13_thinkAnew 21 (.i2l) 1 := by decide +kernel
theorem dX13_thinkAnew_22 : cod mX13_thinkAnew 22 (.lastore) 1 := by decide +kernel
theorem dX13_thinkAnew_23 : cod mX13_thinkAnew 23 (.iinc 1 1) 3 := by decide +kernel
theorem dX13_thinkAnew_26 : cod mX13_thinkAnew 26 (.goto (-24)) 3 := by decide +kernel
theorem dX13_thinkAnew_29 : cod mX13_thinkAnew 29 (.aload_n 0) 1 := by decide +kernel
theorem dX13_thinkAnew_30 : cod mX13_thinkAnew 30 (.iconst 0) 1 := by decide +kernel
theorem dX13_thinkAnew_31 : cod mX13_thinkAnew 31 (.putfield 190) 3 := by decide +kernel
theorem dX13_thinkAnew_34 : cod mX13_thinkAnew 34 (.return_) 1 := by decide +kernel
def lp_X13_thinkAnew_2 (Q : Mem → Prop) : Nat → Nat → Int32 → Mem → Prop
  | 0 => fun _ _ _ => False
  | n + 1 => fun x0 x1 M => mK M x0 = 14 ∧ ((mI M x0 0) ≤ x1 → ∀ M5 : Mem, M5 = uI M x0 11 0 → Q M5) ∧ (¬ (mI M x0 0) ≤ x1 → mK M (mR M x0 1) = 20 ∧ vp_in x1 (mN M (mR M x0 1)) ∧ mK M (mR M x0 10) = 21 ∧ vp_in x1 (mN M (mR M x0 10)) ∧ ∀ M8 : Mem, M8 = uJ M (mR M x0 10) x1.toNatClampNeg ((mI M (mR M x0 1) x1.toNatClampNeg).toInt64) → (lp_X13_thinkAnew_2 Q n) x0 (x1 + 1) M8)
theorem P_lp_X13_thinkAnew_2 {G : GG} {Q : Mem → Prop} : ∀ (n : Nat) (x0 : Nat) (x1 : Int32) (M : Mem), lp_X13_thinkAnew_2 Q n x0 x1 M → PW G mX13_thinkAnew (rmD 0 0 0) (QV Q) 2 [some (.ref x0), some (.int x1)] [] M 0 0 := by
  intro n
  induction n with
  | zero => intro x0 x1 M h; exact h.elim
  | succ n ih =>
    intro x0 x1 M h
    exact (s_iload_n (pc := 2) dX13_thinkAnew_2 rfl (s_aload_n (pc := 3) dX13_thinkAnew_3 rfl (s_getI (pc := 4) dX13_thinkAnew_4 f_X13_119 rfl h.1 (s_icmp_ge (pc := 7) (tgt := 29) dX13_thinkAnew_7 rfl (fun c1 => have h2 := h.2.1 c1; s_aload_n (pc := 29) dX13_thinkAnew_29 rfl (s_iconst (pc := 30) dX13_thinkAnew_30 ci_0 (s_putI (pc := 31) dX13_thinkAnew_31 f_X13_190 (Or.inl rfl) (Or.inl rfl) h.1 (nmM (fun M5 e6 => have h7 := h2 M5 e6; s_return (pc := 34) dX13_thinkAnew_34 rfl (Nat.zero_le _) (Nat.zero_le _) ⟨rfl, h7⟩))))) (fun c3 => have h4 := h.2.2 c3; s_aload_n (pc := 10) dX13_thinkAnew_10 rfl (s_getR (pc := 11) dX13_thinkAnew_11 f_X13_32 rfl h.1 (s_iload_n (pc := 14) dX13_thinkAnew_14 rfl (s_aload_n (pc := 15) dX13_thinkAnew_15 rfl (s_getR (pc := 16) dX13_thinkAnew_16 f_X13_7 rfl h.1 (s_iload_n (pc := 19) dX13_thinkAnew_19 rfl (s_ial (pc := 20) dX13_thinkAnew_20 h4.1 h4.2.1 (s_i2l (pc := 21) dX13_thinkAnew_21 (s_las (pc := 22) dX13_thinkAnew_22 h4.2.2.1 h4.2.2.2.1 (nmM (fun M8 e9 => have h10 := (h4.2.2.2.2) M8 e9; s_iinc (pc := 23) (L1 := [some (.ref x0), some (.int (x1 + 1))]) dX13_thinkAnew_23 rfl ci_1 (Nat.le_of_ble_eq_true rfl) rfl (s_goto (pc := 26) (tgt := 2) dX13_thinkAnew_26 rfl (s_sel (L1 := [some (.ref x0), some (.int (x1 + 1))]) [true, true] rfl (ih x0 (x1 + 1) M8 h10))))))))))))))))))
def wp_X13_thinkAnew (p0 : Nat) (M : Mem) (Q : Mem → Prop) : Prop := ∃ n11 : Nat, lp_X13_thinkAnew_2 Q n11 p0 0 M
theorem T_X13_thinkAnew {G : GG} {Q : Mem → Prop} {M : Mem} {p0 : Nat} (h : wp_X13_thinkAnew p0 M Q) : PMet G mX13_thinkAnew 0 0 0 [.ref p0] M (QV Q) :=
  mk_met (by decide) rfl rfl (by
    intro w hw x9 e9
    subst e9
    simp at hw) (Nat.le_of_ble_eq_true rfl) (s_pad (L1 := [some (.ref p0), none]) 2 rfl (s_iconst (pc := 0) dX13_thinkAnew_0 ci_0 (s_istore_n (pc := 1) (L1 := [some (.ref p0), some (.int 0)]) dX13_thinkAnew_1 (Nat.le_of_ble_eq_true rfl) rfl (Exists.elim h (fun n11 hn => s_sel (L1 := [some (.ref p0), some (.int 0)]) [true, true] rfl (P_lp_X13_thinkAnew_2 n11 p0 0 M hn))))))
/-! X13_setMind -/
theorem dX13_setMind_0 : cod mX13_setMind 0 (.iconst 0) 1 := by decide +kernel
theorem dX13_setMind_1 : cod mX13_setMind 1 (.istore_n 1) 1 := by decide +kernel
theorem dX13_setMind_2 : cod mX13_setMind 2 (.iload_n 1) 1 := by decide +kernel
theorem dX13_setMind_3 : cod mX13_setMind 3 (.aload_n 0) 1 := by decide +kernel
theorem dX13_setMind_4 : cod mX13_setMind 4 (.getfield 119) 3 := by decide +kernel
theorem dX13_setMind_7 : cod mX13_setMind 7 (.if_icmp .ge 21) 3 := by decide +kernel
theorem dX13_setMind_10 : cod mX13_setMind 10 (.aload_n 0) 1 := by decide +kernel
theorem dX13_setMind_11 : cod mX13_setMind 11 (.getfield 51) 3 := by decide +kernel
theorem dX13_setMind_14 : cod mX13_setMind 14 (.iload_n 1) 1 := by decide +kernel
theorem dX13_setMind_15 : cod mX13_setMind 15 (.aload_n 0) 1 := by decide +kernel
theorem dX13_setMind_16 : cod mX13_setMind 16 (.getfield 32) 3 := by decide +kernel
theorem dX13_setMind_19 : cod mX13_setMind 19 (.iload_n 1) 1 := by decide +kernel
theorem dX13_setMind_20 : cod mX13_setMind 20 (.laload) 1 := by decide +kernel
theorem dX13_setMind_21 : cod mX13_setMind 21 (.lastore) 1 := by decide +kernel
theorem dX13_setMind_22 : cod mX13_setMind 22 (.iinc 1 1) 3 := by decide +kernel
theorem dX13_setMind_25 : cod mX13_setMind 25 (.goto (-23)) 3 := by decide +kernel
theorem dX13_setMind_28 : cod mX13_setMind 28 (.return_) 1 := by decide +kernel
def lp_X13_setMind_2 (Q : Mem → Prop) : Nat → Nat → Int32 → Mem → Prop
  | 0 => fun _ _ _ => False
  | n + 1 => fun x0 x1 M => mK M x0 = 14 ∧ ((mI M x0 0) ≤ x1 → Q M) ∧ (¬ (mI M x0 0) ≤ x1 → mK M (mR M x0 10) = 21 ∧ vp_in x1 (mN M (mR M x0 10)) ∧ mK M (mR M x0 23) = 21 ∧ vp_in x1 (mN M (mR M x0 23)) ∧ ∀ M5 : Mem, M5 = uJ M (mR M x0 23) x1.toNatClampNeg (mJ M (mR M x0 10) x1.toNatClampNeg) → (lp_X13_setMind_2 Q n) x0 (x1 + 1) M5)
theorem P_lp_X13_setMind_2 {G : GG} {Q : Mem → Prop} : ∀ (n : Nat) (x0 : Nat) (x1 : Int32) (M : Mem), lp_X13_setMind_2 Q n x0 x1 M → PW G mX13_setMind (rmD 0 0 0) (QV Q) 2 [some (.ref x0), some (.int x1)] [] M 0 0 := by
  intro n
  induction n with
  | zero => intro x0 x1 M h; exact h.elim
  | succ n ih =>
    intro x0 x1 M h
    exact (s_iload_n (pc := 2) dX13_setMind_2 rfl (s_aload_n (pc := 3) dX13_setMind_3 rfl (s_getI (pc := 4) dX13_setMind_4 f_X13_119 rfl h.1 (s_icmp_ge (pc := 7) (tgt := 28) dX13_setMind_7 rfl (fun c1 => have h2 := h.2.1 c1; s_return (pc := 28) dX13_setMind_28 rfl (Nat.zero_le _) (Nat.zero_le _) ⟨rfl, h2⟩) (fun c3 => have h4 := h.2.2 c3; s_aload_n (pc := 10) dX13_setMind_10 rfl (s_getR (pc := 11) dX13_setMind_11 f_X13_51 rfl h.1 (s_iload_n (pc := 14) dX13_setMind_14 rfl (s_aload_n (pc := 15) dX13_setMind_15 rfl (s_getR (pc := 16) dX13_setMind_16 f_X13_32 rfl h.1 (s_iload_n (pc := 19) dX13_setMind_19 rfl (s_lal (pc := 20) dX13_setMind_20 h4.1 h4.2.1 (s_las (pc := 21) dX13_setMind_21 h4.2.2.1 h4.2.2.2.1 (nmM (fun M5 e6 => have h7 := (h4.2.2.2.2) M5 e6; s_iinc (pc := 22) (L1 := [some (.ref x0), some (.int (x1 + 1))]) dX13_setMind_22 rfl ci_1 (Nat.le_of_ble_eq_true rfl) rfl (s_goto (pc := 25) (tgt := 2) dX13_setMind_25 rfl (s_sel (L1 := [some (.ref x0), some (.int (x1 + 1))]) [true, true] rfl (ih x0 (x1 + 1) M5 h7)))))))))))))))))
def wp_X13_setMind (p0 : Nat) (M : Mem) (Q : Mem → Prop) : Prop := ∃ n8 : Nat, lp_X13_setMind_2 Q n8 p0 0 M
theorem T_X13_setMind {G : GG} {Q : Mem → Prop} {M : Mem} {p0 : Nat} (h : wp_X13_setMind p0 M Q) : PMet G mX13_setMind 0 0 0 [.ref p0] M (QV Q) :=
  mk_met (by decide) rfl rfl (by
    intro w hw x9 e9
    subst e9
    simp at hw) (Nat.le_of_ble_eq_true rfl) (s_pad (L1 := [some (.ref p0), none]) 2 rfl (s_iconst (pc := 0) dX13_setMind_0 ci_0 (s_istore_n (pc := 1) (L1 := [some (.ref p0), some (.int 0)]) dX13_setMind_1 (Nat.le_of_ble_eq_true rfl) rfl (Exists.elim h (fun n8 hn => s_sel (L1 := [some (.ref p0), some (.int 0)]) [true, true] rfl (P_lp_X13_setMind_2 n8 p0 0 M hn))))))
/-! X13_meanInMind -/
theorem dX13_meanInMind_0 : cod mX13_meanInMind 0 (.lconst 0) 1 := by decide +kernel
theorem dX13_meanInMind_1 : cod mX13_meanInMind 1 (.lstore_n 1) 1 := by decide +kernel
theorem dX13_meanInMind_2 : cod mX13_meanInMind 2 (.lconst 0) 1 := by decide +kernel
theorem dX13_meanInMind_3 : cod mX13_meanInMind 3 (.lstore_n 3) 1 := by decide +kernel
theorem dX13_meanInMind_4 : cod mX13_meanInMind 4 (.iconst 0) 1 := by decide +kernel
theorem dX13_meanInMind_5 : cod mX13_meanInMind 5 (.istore 5) 2 := by decide +kernel
theorem dX13_meanInMind_7 : cod mX13_meanInMind 7 (.iload 5) 2 := by decide +kernel
theorem dX13_meanInMind_9 : cod mX13_meanInMind 9 (.aload_n 0) 1 := by decide +kernel
theorem dX13_meanInMind_10 : cod mX13_meanInMind 10 (.getfield 119) 3 := by decide +kernel
theorem dX13_meanInMind_13 : cod mX13_meanInMind 13 (.if_icmp .ge 38) 3 := by decide +kernel
theorem dX13_meanInMind_16 : cod mX13_meanInMind 16 (.lload_n 1) 1 := by decide +kernel
theorem dX13_meanInMind_17 : cod mX13_meanInMind 17 (.aload_n 0) 1 := by decide +kernel
theorem dX13_meanInMind_18 : cod mX13_meanInMind 18 (.getfield 51) 3 := by decide +kernel
theorem dX13_meanInMind_21 : cod mX13_meanInMind 21 (.iload 5) 2 := by decide +kernel
theorem dX13_meanInMind_23 : cod mX13_meanInMind 23 (.laload) 1 := by decide +kernel
theorem dX13_meanInMind_24 : cod mX13_meanInMind 24 (.aload_n 0) 1 := by decide +kernel
theorem dX13_meanInMind_25 : cod mX13_meanInMind 25 (.getfield 13) 3 := by decide +kernel
theorem dX13_meanInMind_28 : cod mX13_meanInMind 28 (.iload 5) 2 := by decide +kernel
theorem dX13_meanInMind_30 : cod mX13_meanInMind 30 (.iaload) 1 := by decide +kernel
theorem dX13_meanInMind_31 : cod mX13_meanInMind 31 (.i2l) 1 := by decide +kernel
theorem dX13_meanInMind_32 : cod mX13_meanInMind 32 (.lmul) 1 := by decide +kernel
theorem dX13_meanInMind_33 : cod mX13_meanInMind 33 (.ladd) 1 := by decide +kernel
theorem dX13_meanInMind_34 : cod mX13_meanInMind 34 (.lstore_n 1) 1 := by decide +kernel
theorem dX13_meanInMind_35 : cod mX13_meanInMind 35 (.lload_n 3) 1 := by decide +kernel
theorem dX13_meanInMind_36 : cod mX13_meanInMind 36 (.aload_n 0) 1 := by decide +kernel
theorem dX13_meanInMind_37 : cod mX13_meanInMind 37 (.getfield 51) 3 := by decide +kernel
theorem dX13_meanInMind_40 : cod mX13_meanInMind 40 (.iload 5) 2 := by decide +kernel
theorem dX13_meanInMind_42 : cod mX13_meanInMind 42 (.laload) 1 := by decide +kernel
theorem dX13_meanInMind_43 : cod mX13_meanInMind 43 (.ladd) 1 := by decide +kernel
theorem dX13_meanInMind_44 : cod mX13_meanInMind 44 (.lstore_n 3) 1 := by decide +kernel
theorem dX13_meanInMind_45 : cod mX13_meanInMind 45 (.iinc 5 1) 3 := by decide +kernel
theorem dX13_meanInMind_48 : cod mX13_meanInMind 48 (.goto (-41)) 3 := by decide +kernel
theorem dX13_meanInMind_51 : cod mX13_meanInMind 51 (.lload_n 1) 1 := by decide +kernel
theorem dX13_meanInMind_52 : cod mX13_meanInMind 52 (.lload_n 3) 1 := by decide +kernel
theorem dX13_meanInMind_53 : cod mX13_meanInMind 53 (.ldiv) 1 := by decide +kernel
theorem dX13_meanInMind_54 : cod mX13_meanInMind 54 (.l2i) 1 := by decide +kernel
theorem dX13_meanInMind_55 : cod mX13_meanInMind 55 (.ireturn) 1 := by decide +kernel
def lp_X13_meanInMind_7 (Q : Int32 → Mem → Prop) : Nat → Nat → Int64 → Int64 → Int32 → Mem → Prop
  | 0 => fun _ _ _ _ _ => False
  | n + 1 => fun x0 x1 x3 x5 M => mK M x0 = 14 ∧ ((mI M x0 0) ≤ x5 → ¬ x3 = 0 ∧ Q ((x1 / x3).toInt32) M) ∧ (¬ (mI M x0 0) ≤ x5 → mK M (mR M x0 23) = 21 ∧ vp_in x5 (mN M (mR M x0 23)) ∧ mK M (mR M x0 2) = 20 ∧ vp_in x5 (mN M (mR M x0 2)) ∧ ∀ y5 : Int64, y5 = x1 + ((mJ M (mR M x0 23) x5.toNatClampNeg) * ((mI M (mR M x0 2) x5.toNatClampNeg).toInt64)) → vp_in x5 (mN M (mR M x0 23)) ∧ ∀ y8 : Int64, y8 = x3 + (mJ M (mR M x0 23) x5.toNatClampNeg) → (lp_X13_meanInMind_7 Q n) x0 y5 y8 (x5 + 1) M)
theorem P_lp_X13_meanInMind_7 {G : GG} {Q : Int32 → Mem → Prop} : ∀ (n : Nat) (x0 : Nat) (x1 : Int64) (x3 : Int64) (x5 : Int32) (M : Mem), lp_X13_meanInMind_7 Q n x0 x1 x3 x5 M → PW G mX13_meanInMind (rmD 0 0 0) (QI Q) 7 [some (.ref x0), some (.long x1), none, some (.long x3), none, some (.int x5)] [] M 0 0 := by
  intro n
  induction n with
  | zero => intro x0 x1 x3 x5 M h; exact h.elim
  | succ n ih =>
    intro x0 x1 x3 x5 M h
    exact (s_iload (pc := 7) dX13_meanInMind_7 rfl (s_aload_n (pc := 9) dX13_meanInMind_9 rfl (s_getI (pc := 10) dX13_meanInMind_10 f_X13_119 rfl h.1 (s_icmp_ge (pc := 13) (tgt := 51) dX13_meanInMind_13 rfl (fun c1 => have h2 := h.2.1 c1; s_lload_n (pc := 51) dX13_meanInMind_51 rfl (s_lload_n (pc := 52) dX13_meanInMind_52 rfl (s_ldiv (pc := 53) dX13_meanInMind_53 h2.1 (s_l2i (pc := 54) dX13_meanInMind_54 (s_ireturn (pc := 55) dX13_meanInMind_55 rfl (Nat.zero_le _) (Nat.zero_le _) ⟨_, rfl, h2.2⟩))))) (fun c3 => have h4 := h.2.2 c3; s_lload_n (pc := 16) dX13_meanInMind_16 rfl (s_aload_n (pc := 17) dX13_meanInMind_17 rfl (s_getR (pc := 18) dX13_meanInMind_18 f_X13_51 rfl h.1 (s_iload (pc := 21) dX13_meanInMind_21 rfl (s_lal (pc := 23) dX13_meanInMind_23 h4.1 h4.2.1 (s_aload_n (pc := 24) dX13_meanInMind_24 rfl (s_getR (pc := 25) dX13_meanInMind_25 f_X13_13 rfl h.1 (s_iload (pc := 28) dX13_meanInMind_28 rfl (s_ial (pc := 30) dX13_meanInMind_30 h4.2.2.1 h4.2.2.2.1 (s_i2l (pc := 31) dX13_meanInMind_31 (s_lmul (pc := 32) dX13_meanInMind_32 (s_ladd (pc := 33) dX13_meanInMind_33 (nmJ (fun y5 e6 => have h7 := h4.2.2.2.2 y5 e6; s_lstore_n (pc := 34) (L1 := [some (.ref x0), some (.long y5), none, some (.long x3), none, some (.int x5)]) dX13_meanInMind_34 (Nat.le_of_ble_eq_true rfl) rfl (s_lload_n (pc := 35) dX13_meanInMind_35 rfl (s_aload_n (pc := 36) dX13_meanInMind_36 rfl (s_getR (pc := 37) dX13_meanInMind_37 f_X13_51 rfl h.1 (s_iload (pc := 40) dX13_meanInMind_40 rfl (s_lal (pc := 42) dX13_meanInMind_42 h4.1 h7.1 (s_ladd (pc := 43) dX13_meanInMind_43 (nmJ (fun y8 e9 => have h10 := h7.2 y8 e9; s_lstore_n (pc := 44) (L1 := [some (.ref x0), some (.long y5), none, some (.long y8), none, some (.int x5)]) dX13_meanInMind_44 (Nat.le_of_ble_eq_true rfl) rfl (s_iinc (pc := 45) (L1 := [some (.ref x0), some (.long y5), none, some (.long y8), none, some (.int (x5 + 1))]) dX13_meanInMind_45 rfl ci_1 (Nat.le_of_ble_eq_true rfl) rfl (s_goto (pc := 48) (tgt := 7) dX13_meanInMind_48 rfl (s_sel (L1 := [some (.ref x0), some (.long y5), none, some (.long y8), none, some (.int (x5 + 1))]) [true, true, false, true, false, true] rfl (ih x0 y5 y8 (x5 + 1) M h10))))))))))))))))))))))))))))))
def wp_X13_meanInMind (p0 : Nat) (M : Mem) (Q : Int32 → Mem → Prop) : Prop := ∃ n11 : Nat, lp_X13_meanInMind_7 Q n11 p0 0 0 0 M
theorem T_X13_meanInMind {G : GG} {Q : Int32 → Mem → Prop} {M : Mem} {p0 : Nat} (h : wp_X13_meanInMind p0 M Q) : PMet G mX13_meanInMind 0 0 0 [.ref p0] M (QI Q) :=
  mk_met (by decide) rfl rfl (by
    intro w hw x9 e9
    subst e9
    simp at hw) (Nat.le_of_ble_eq_true rfl) (s_pad (L1 := [some (.ref p0), none, none, none, none, none]) 6 rfl (s_lconst (pc := 0) (v := 0) dX13_meanInMind_0 rfl (s_lstore_n (pc := 1) (L1 := [some (.ref p0), some (.long 0), none, none, none, none]) dX13_meanInMind_1 (Nat.le_of_ble_eq_true rfl) rfl (s_lconst (pc := 2) (v := 0) dX13_meanInMind_2 rfl (s_lstore_n (pc := 3) (L1 := [some (.ref p0), some (.long 0), none, some (.long 0), none, none]) dX13_meanInMind_3 (Nat.le_of_ble_eq_true rfl) rfl (s_iconst (pc := 4) dX13_meanInMind_4 ci_0 (s_istore (pc := 5) (L1 := [some (.ref p0), some (.long 0), none, some (.long 0), none, some (.int 0)]) dX13_meanInMind_5 (Nat.le_of_ble_eq_true rfl) rfl (Exists.elim h (fun n11 hn => s_sel (L1 := [some (.ref p0), some (.long 0), none, some (.long 0), none, some (.int 0)]) [true, true, false, true, false, true] rfl (P_lp_X13_meanInMind_7 n11 p0 0 0 0 M hn))))))))))
/-! X13_anew -/
theorem dX13_anew_0 : cod mX13_anew 0 (.aload_n 0) 1 := by decide +kernel
theorem dX13_anew_1 : cod mX13_anew 1 (.iconst 0) 1 := by decide +kernel
theorem dX13_anew_2 : cod mX13_anew 2 (.putfield 115) 3 := by decide +kernel
theorem dX13_anew_5 : cod mX13_anew 5 (.aload_n 0) 1 := by decide +kernel
theorem dX13_anew_6 : cod mX13_anew 6 (.invokevirtual 228) 3 := by decide +kernel
theorem dX13_anew_9 : cod mX13_anew 9 (.ifCond .ne 6) 3 := by decide +kernel
theorem dX13_anew_12 : cod mX13_anew 12 (.bipush (-3)) 2 := by decide +kernel
theorem dX13_anew_14 : cod mX13_anew 14 (.ireturn) 1 := by decide +kernel
theorem dX13_anew_15 : cod mX13_anew 15 (.aload_n 0) 1 := by decide +kernel
theorem dX13_anew_16 : cod mX13_anew 16 (.invokevirtual 187) 3 := by decide +kernel
theorem dX13_anew_19 : cod mX13_anew 19 (.aload_n 0) 1 := by decide +kernel
theorem dX13_anew_20 : cod mX13_anew 20 (.invokevirtual 231) 3 := by decide +kernel
theorem dX13_anew_23 : cod mX13_anew 23 (.aload_n 0) 1 := by decide +kernel
theorem dX13_anew_24 : cod mX13_anew 24 (.invokevirtual 234) 3 := by decide +kernel
theorem dX13_anew_27 : cod mX13_anew 27 (.ireturn) 1 := by decide +kernel
def wp_X13_anew (p0 : Nat) (M : Mem) (Q : Int32 → Mem → Prop) : Prop := mK M p0 = 14 ∧ ∀ M1 : Mem, M1 = uI M p0 12 0 → wp_X13_isReady p0 M1 (fun r6 M5 => (¬ r6 = (0 : Int32) → mK M5 p0 = 14 ∧ wp_X13_thinkAnew p0 M5 (fun M12 => mK M12 p0 = 14 ∧ wp_X13_setMind p0 M12 (fun M14 => mK M14 p0 = 14 ∧ wp_X13_meanInMind p0 M14 (fun r17 M16 => Q r17 M16)))) ∧ (r6 = (0 : Int32) → Q (-3) M5))
theorem T_X13_anew {G : GG} {Q : Int32 → Mem → Prop} {M : Mem} {p0 : Nat} (h : wp_X13_anew p0 M Q) : PMet G mX13_anew 2 0 0 [.ref p0] M (QI Q) :=
  mk_met (by decide) rfl rfl (by
    intro w hw x9 e9
    subst e9
    simp at hw) (Nat.le_of_ble_eq_true rfl) (s_pad (L1 := [some (.ref p0)]) 1 rfl (s_aload_n (pc := 0) dX13_anew_0 rfl (s_iconst (pc := 1) dX13_anew_1 ci_0 (s_putI (pc := 2) dX13_anew_2 f_X13_115 (Or.inl rfl) (Or.inl rfl) h.1 (nmM (fun M1 e2 => have h3 := h.2 M1 e2; s_aload_n (pc := 5) dX13_anew_5 rfl (s_callV (pc := 6) (As := []) (rest := []) (d' := 1) (mc' := 0) (ms' := 0) dX13_anew_6 c_X13_228 (Nat.le_of_ble_eq_true rfl) rfl ((congrFun (congrArg mK e2) p0).trans h.1) rfl rfl (Nat.le_of_ble_eq_true rfl) (rm_ok rfl rfl) ⟨Nat.le_refl 0, Nat.le_refl 0⟩ (T_X13_isReady h3) (kkI (fun r6 M5 h4 => s_if_ne (pc := 9) (tgt := 15) dX13_anew_9 rfl (fun c7 => have h8 := h4.1 c7; s_aload_n (pc := 15) dX13_anew_15 rfl (s_callV (pc := 16) (As := []) (rest := []) (d' := 0) (mc' := 0) (ms' := 0) dX13_anew_16 c_X13_187 (Nat.le_of_ble_eq_true rfl) rfl h8.1 rfl rfl (Nat.le_of_ble_eq_true rfl) (rm_ok rfl rfl) ⟨Nat.le_refl 0, Nat.le_refl 0⟩ (T_X13_thinkAnew h8.2) (kkV (fun M12 h11 => s_aload_n (pc := 19) dX13_anew_19 rfl (s_callV (pc := 20) (As := []) (rest := []) (d' := 0) (mc' := 0) (ms' := 0) dX13_anew_20 c_X13_231 (Nat.le_of_ble_eq_true rfl) rfl h11.1 rfl rfl (Nat.le_of_ble_eq_true rfl) (rm_ok rfl rfl) ⟨Nat.le_refl 0, Nat.le_refl 0⟩ (T_X13_setMind h11.2) (kkV (fun M14 h13 => s_aload_n (pc := 23) dX13_anew_23 rfl (s_callV (pc := 24) (As := []) (rest := []) (d' := 0) (mc' := 0) (ms' := 0) dX13_anew_24 c_X13_234 (Nat.le_of_ble_eq_true rfl) rfl h13.1 rfl rfl (Nat.le_of_ble_eq_true rfl) (rm_ok rfl rfl) ⟨Nat.le_refl 0, Nat.le_refl 0⟩ (T_X13_meanInMind h13.2) (kkI (fun r17 M16 h15 => s_ireturn (pc := 27) dX13_anew_27 rfl (Nat.zero_le _) (Nat.zero_le _) ⟨_, rfl, h15⟩)))))))))) (fun c9 => have h10 := h4.2 c9; s_bipush (pc := 12) dX13_anew_12 cb_m3 (s_ireturn (pc := 14) dX13_anew_14 rfl (Nat.zero_le _) (Nat.zero_le _) ⟨_, rfl, h10⟩)))))))))))
/-! X13_far -/
theorem dX13_far_0 : cod mX13_far 0 (.iload_n 0) 1 := by decide +kernel
theorem dX13_far_1 : cod mX13_far 1 (.ldc 118) 2 := by decide +kernel
theorem dX13_far_3 : cod mX13_far 3 (.isub) 1 := by decide +kernel
theorem dX13_far_4 : cod mX13_far 4 (.ireturn) 1 := by decide +kernel
def wp_X13_far (p0 : Int32) (M : Mem) (Q : Int32 → Mem → Prop) : Prop := Q (p0 - 1000000000) M
theorem T_X13_far {G : GG} {Q : Int32 → Mem → Prop} {M : Mem} {p0 : Int32} (h : wp_X13_far p0 M Q) : PMet G mX13_far 0 0 0 [.int p0] M (QI Q) :=
  mk_met (by decide) rfl rfl (by
    intro w hw x9 e9
    subst e9
    simp at hw) (Nat.le_of_ble_eq_true rfl) (s_pad (L1 := [some (.int p0)]) 1 rfl (s_iload_n (pc := 0) dX13_far_0 rfl (s_ldc (pc := 1) dX13_far_1 k_X13_118 (s_isub (pc := 3) dX13_far_3 (s_ireturn (pc := 4) dX13_far_4 rfl (Nat.zero_le _) (Nat.zero_le _) ⟨_, rfl, h⟩)))))
/-! X13_dealt -/
theorem dX13_dealt_0 : cod mX13_dealt 0 (.aload_n 0) 1 := by decide +kernel
theorem dX13_dealt_1 : cod mX13_dealt 1 (.getfield 22) 3 := by decide +kernel
theorem dX13_dealt_4 : cod mX13_dealt 4 (.iload_n 1) 1 := by decide +kernel
theorem dX13_dealt_5 : cod mX13_dealt 5 (.iaload) 1 := by decide +kernel
theorem dX13_dealt_6 : cod mX13_dealt 6 (.istore 5) 2 := by decide +kernel
theorem dX13_dealt_8 : cod mX13_dealt 8 (.aload_n 0) 1 := by decide +kernel
theorem dX13_dealt_9 : cod mX13_dealt 9 (.getfield 16) 3 := by decide +kernel
theorem dX13_dealt_12 : cod mX13_dealt 12 (.iload_n 1) 1 := by decide +kernel
theorem dX13_dealt_13 : cod mX13_dealt 13 (.iaload) 1 := by decide +kernel
theorem dX13_dealt_14 : cod mX13_dealt 14 (.tableswitch 103 0 3 #[30, 43, 55, 76]) 30 := by decide +kernel
theorem dX13_dealt_44 : cod mX13_dealt 44 (.iload 4) 2 := by decide +kernel
theorem dX13_dealt_46 : cod mX13_dealt 46 (.iload 5) 2 := by decide +kernel
theorem dX13_dealt_48 : cod mX13_dealt 48 (.if_icmp .gt 7) 3 := by decide +kernel
theorem dX13_dealt_51 : cod mX13_dealt 51 (.iconst 1) 1 := by decide +kernel
theorem dX13_dealt_52 : cod mX13_dealt 52 (.goto 4) 3 := by decide +kernel
theorem dX13_dealt_55 : cod mX13_dealt 55 (.iconst 0) 1 := by decide +kernel
theorem dX13_dealt_56 : cod mX13_dealt 56 (.ireturn) 1 := by decide +kernel
theorem dX13_dealt_57 : cod mX13_dealt 57 (.iload_n 3) 1 := by decide +kernel
theorem dX13_dealt_58 : cod mX13_dealt 58 (.iload 5) 2 := by decide +kernel
theorem dX13_dealt_60 : cod mX13_dealt 60 (.if_icmp .lt 7) 3 := by decide +kernel
theorem dX13_dealt_63 : cod mX13_dealt 63 (.iconst 2) 1 := by decide +kernel
theorem dX13_dealt_64 : cod mX13_dealt 64 (.goto 4) 3 := by decide +kernel
theorem dX13_dealt_67 : cod mX13_dealt 67 (.iconst 0) 1 := by decide +kernel
theorem dX13_dealt_68 : cod mX13_dealt 68 (.ireturn) 1 := by decide +kernel
theorem dX13_dealt_69 : cod mX13_dealt 69 (.iload_n 2) 1 := by decide +kernel
theorem dX13_dealt_70 : cod mX13_dealt 70 (.iload 4) 2 := by decide +kernel
theorem dX13_dealt_72 : cod mX13_dealt 72 (.if_icmp .le 7) 3 := by decide +kernel
theorem dX13_dealt_75 : cod mX13_dealt 75 (.iconst 1) 1 := by decide +kernel
theorem dX13_dealt_76 : cod mX13_dealt 76 (.goto 13) 3 := by decide +kernel
theorem dX13_dealt_79 : cod mX13_dealt 79 (.iload_n 2) 1 := by decide +kernel
theorem dX13_dealt_80 : cod mX13_dealt 80 (.iload_n 3) 1 := by decide +kernel
theorem dX13_dealt_81 : cod mX13_dealt 81 (.if_icmp .ge 7) 3 := by decide +kernel
theorem dX13_dealt_84 : cod mX13_dealt 84 (.iconst 2) 1 := by decide +kernel
theorem dX13_dealt_85 : cod mX13_dealt 85 (.goto 4) 3 := by decide +kernel
theorem dX13_dealt_88 : cod mX13_dealt 88 (.iconst 0) 1 := by decide +kernel
theorem dX13_dealt_89 : cod mX13_dealt 89 (.ireturn) 1 := by decide +kernel
theorem dX13_dealt_90 : cod mX13_dealt 90 (.iload_n 2) 1 := by decide +kernel
theorem dX13_dealt_91 : cod mX13_dealt 91 (.iload 4) 2 := by decide +kernel
theorem dX13_dealt_93 : cod mX13_dealt 93 (.iload 5) 2 := by decide +kernel
theorem dX13_dealt_95 : cod mX13_dealt 95 (.iadd) 1 := by decide +kernel
theorem dX13_dealt_96 : cod mX13_dealt 96 (.if_icmp .le 7) 3 := by decide +kernel
theorem dX13_dealt_99 : cod mX13_dealt 99 (.iconst 1) 1 := by decide +kernel
theorem dX13_dealt_100 : cod mX13_dealt 100 (.goto 16) 3 := by decide +kernel
theorem dX13_dealt_103 : cod mX13_dealt 103 (.iload_n 2) 1 := by decide +kernel
theorem dX13_dealt_104 : cod mX13_dealt 104 (.iload_n 3) 1 := by decide +kernel
theorem dX13_dealt_105 : cod mX13_dealt 105 (.iload 5) 2 := by decide +kernel
theorem dX13_dealt_107 : cod mX13_dealt 107 (.isub) 1 := by decide +kernel
theorem dX13_dealt_108 : cod mX13_dealt 108 (.if_icmp .ge 7) 3 := by decide +kernel
theorem dX13_dealt_111 : cod mX13_dealt 111 (.iconst 2) 1 := by decide +kernel
theorem dX13_dealt_112 : cod mX13_dealt 112 (.goto 4) 3 := by decide +kernel
theorem dX13_dealt_115 : cod mX13_dealt 115 (.iconst 0) 1 := by decide +kernel
theorem dX13_dealt_116 : cod mX13_dealt 116 (.ireturn) 1 := by decide +kernel
theorem dX13_dealt_117 : cod mX13_dealt 117 (.iconst 0) 1 := by decide +kernel
theorem dX13_dealt_118 : cod mX13_dealt 118 (.ireturn) 1 := by decide +kernel
def wp_X13_dealt (p0 : Nat) (p1 : Int32) (p2 : Int32) (p3 : Int32) (p4 : Int32) (M : Mem) (Q : Int32 → Mem → Prop) : Prop := mK M p0 = 14 ∧ mK M (mR M p0 6) = 20 ∧ vp_in p1 (mN M (mR M p0 6)) ∧ ∀ y1 : Int32, y1 = mI M (mR M p0 6) p1.toNatClampNeg → mK M (mR M p0 4) = 20 ∧ vp_in p1 (mN M (mR M p0 4)) ∧ (((mI M (mR M p0 4) p1.toNatClampNeg).toInt < 0 ∨ 3 < (mI M (mR M p0 4) p1.toNatClampNeg).toInt) → Q 0 M) ∧ ((mI M (mR M p0 4) p1.toNatClampNeg) = 0 → (y1 < p4 → Q 0 M) ∧ (¬ y1 < p4 → Q 1 M)) ∧ ((mI M (mR M p0 4) p1.toNatClampNeg) = 1 → (p3 < y1 → Q 0 M) ∧ (¬ p3 < y1 → Q 2 M)) ∧ ((mI M (mR M p0 4) p1.toNatClampNeg) = 2 → (p2 ≤ p4 → (p3 ≤ p2 → Q 0 M) ∧ (¬ p3 ≤ p2 → Q 2 M)) ∧ (¬ p2 ≤ p4 → Q 1 M)) ∧ ((mI M (mR M p0 4) p1.toNatClampNeg) = 3 → (p2 ≤ (p4 + y1) → ((p3 - y1) ≤ p2 → Q 0 M) ∧ (¬ (p3 - y1) ≤ p2 → Q 2 M)) ∧ (¬ p2 ≤ (p4 + y1) → Q 1 M))
theorem T_X13_dealt {G : GG} {Q : Int32 → Mem → Prop} {M : Mem} {p0 : Nat} {p1 : Int32} {p2 : Int32} {p3 : Int32} {p4 : Int32} (h : wp_X13_dealt p0 p1 p2 p3 p4 M Q) : PMet G mX13_dealt 0 0 0 [.ref p0, .int p1, .int p2, .int p3, .int p4] M (QI Q) :=
  mk_met (by decide) rfl rfl (by
    intro w hw x9 e9
    subst e9
    simp at hw) (Nat.le_of_ble_eq_true rfl) (s_pad (L1 := [some (.ref p0), some (.int p1), some (.int p2), some (.int p3), some (.int p4), none]) 6 rfl (s_aload_n (pc := 0) dX13_dealt_0 rfl (s_getR (pc := 1) dX13_dealt_1 f_X13_22 rfl h.1 (s_iload_n (pc := 4) dX13_dealt_4 rfl (s_ial (pc := 5) dX13_dealt_5 h.2.1 h.2.2.1 (nmI (fun y1 e2 => have h3 := h.2.2.2 y1 e2; s_istore (pc := 6) (L1 := [some (.ref p0), some (.int p1), some (.int p2), some (.int p3), some (.int p4), some (.int y1)]) dX13_dealt_6 (Nat.le_of_ble_eq_true rfl) rfl (s_aload_n (pc := 8) dX13_dealt_8 rfl (s_getR (pc := 9) dX13_dealt_9 f_X13_16 rfl h.1 (s_iload_n (pc := 12) dX13_dealt_12 rfl (s_ial (pc := 13) dX13_dealt_13 h3.1 h3.2.1 (s_ts (pc := 14) (tgt := 117) dX13_dealt_14 rfl (fun c5 => have h4 := h3.2.2.1 c5; s_iconst (pc := 117) dX13_dealt_117 ci_0 (s_ireturn (pc := 118) dX13_dealt_118 rfl (Nat.zero_le _) (Nat.zero_le _) ⟨_, rfl, h4⟩)) (by
      intro j hx hle
      match j, hx, hle with
      | 0, hx, _ => exact ⟨30, 44, rfl, rfl, have c7 : (mI M (mR M p0 4) p1.toNatClampNeg) = 0 := eqI hx (by decide); have h6 := h3.2.2.2.1 c7; s_iload (pc := 44) dX13_dealt_44 rfl (s_iload (pc := 46) dX13_dealt_46 rfl (s_icmp_gt (pc := 48) (tgt := 55) dX13_dealt_48 rfl (fun c8 => have h9 := h6.1 c8; s_iconst (pc := 55) dX13_dealt_55 ci_0 (s_ireturn (pc := 56) dX13_dealt_56 rfl (Nat.zero_le _) (Nat.zero_le _) ⟨_, rfl, h9⟩)) (fun c10 => have h11 := h6.2 c10; s_iconst (pc := 51) dX13_dealt_51 ci_1 (s_goto (pc := 52) (tgt := 56) dX13_dealt_52 rfl (s_ireturn (pc := 56) dX13_dealt_56 rfl (Nat.zero_le _) (Nat.zero_le _) ⟨_, rfl, h11⟩)))))⟩
      | 1, hx, _ => exact ⟨43, 57, rfl, rfl, have c13 : (mI M (mR M p0 4) p1.toNatClampNeg) = 1 := eqI hx (by decide); have h12 := h3.2.2.2.2.1 c13; s_iload_n (pc := 57) dX13_dealt_57 rfl (s_iload (pc := 58) dX13_dealt_58 rfl (s_icmp_lt (pc := 60) (tgt := 67) dX13_dealt_60 rfl (fun c14 => have h15 := h12.1 c14; s_iconst (pc := 67) dX13_dealt_67 ci_0 (s_ireturn (pc := 68) dX13_dealt_68 rfl (Nat.zero_le _) (Nat.zero_le _) ⟨_, rfl, h15⟩)) (fun c16 => have h17 := h12.2 c16; s_iconst (pc := 63) dX13_dealt_63 ci_2 (s_goto (pc := 64) (tgt := 68) dX13_dealt_64 rfl (s_ireturn (pc := 68) dX13_dealt_68 rfl (Nat.zero_le _) (Nat.zero_le _) ⟨_, rfl, h17⟩)))))⟩
      | 2, hx, _ => exact ⟨55, 69, rfl, rfl, have c19 : (mI M (mR M p0 4) p1.toNatClampNeg) = 2 := eqI hx (by decide); have h18 := h3.2.2.2.2.2.1 c19; s_iload_n (pc := 69) dX13_dealt_69 rfl (s_iload (pc := 70) dX13_dealt_70 rfl (s_icmp_le (pc := 72) (tgt := 79) dX13_dealt_72 rfl (fun c20 => have h21 := h18.1 c20; s_iload_n (pc := 79) dX13_dealt_79 rfl (s_iload_n (pc := 80) dX13_dealt_80 rfl (s_icmp_ge (pc := 81) (tgt := 88) dX13_dealt_81 rfl (fun c24 => have h25 := h21.1 c24; s_iconst (pc := 88) dX13_dealt_88 ci_0 (s_ireturn (pc := 89) dX13_dealt_89 rfl (Nat.zero_le _) (Nat.zero_le _) ⟨_, rfl, h25⟩)) (fun c26 => have h27 := h21.2 c26; s_iconst (pc := 84) dX13_dealt_84 ci_2 (s_goto (pc := 85) (tgt := 89) dX13_dealt_85 rfl (s_ireturn (pc := 89) dX13_dealt_89 rfl (Nat.zero_le _) (Nat.zero_le _) ⟨_, rfl, h27⟩)))))) (fun c22 => have h23 := h18.2 c22; s_iconst (pc := 75) dX13_dealt_75 ci_1 (s_goto (pc := 76) (tgt := 89) dX13_dealt_76 rfl (s_ireturn (pc := 89) dX13_dealt_89 rfl (Nat.zero_le _) (Nat.zero_le _) ⟨_, rfl, h23⟩)))))⟩
      | 3, hx, _ => exact ⟨76, 90, rfl, rfl, have c29 : (mI M (mR M p0 4) p1.toNatClampNeg) = 3 := eqI hx (by decide); have h28 := h3.2.2.2.2.2.2 c29; s_iload_n (pc := 90) dX13_dealt_90 rfl (s_iload (pc := 91) dX13_dealt_91 rfl (s_iload (pc := 93) dX13_dealt_93 rfl (s_iadd (pc := 95) dX13_dealt_95 (s_icmp_le (pc := 96) (tgt := 103) dX13_dealt_96 rfl (fun c30 => have h31 := h28.1 c30; s_iload_n (pc := 103) dX13_dealt_103 rfl (s_iload_n (pc := 104) dX13_dealt_104 rfl (s_iload (pc := 105) dX13_dealt_105 rfl (s_isub (pc := 107) dX13_dealt_107 (s_icmp_ge (pc := 108) (tgt := 115) dX13_dealt_108 rfl (fun c34 => have h35 := h31.1 c34; s_iconst (pc := 115) dX13_dealt_115 ci_0 (s_ireturn (pc := 116) dX13_dealt_116 rfl (Nat.zero_le _) (Nat.zero_le _) ⟨_, rfl, h35⟩)) (fun c36 => have h37 := h31.2 c36; s_iconst (pc := 111) dX13_dealt_111 ci_2 (s_goto (pc := 112) (tgt := 116) dX13_dealt_112 rfl (s_ireturn (pc := 116) dX13_dealt_116 rfl (Nat.zero_le _) (Nat.zero_le _) ⟨_, rfl, h37⟩)))))))) (fun c32 => have h33 := h28.2 c32; s_iconst (pc := 99) dX13_dealt_99 ci_1 (s_goto (pc := 100) (tgt := 116) dX13_dealt_100 rfl (s_ireturn (pc := 116) dX13_dealt_116 rfl (Nat.zero_le _) (Nat.zero_le _) ⟨_, rfl, h33⟩)))))))⟩
      | jj + 4, hx, hle => exact absurd hle (by omega))))))))))))))
/-! X13_isFair -/
theorem dX13_isFair_0 : cod mX13_isFair 0 (.lconst 0) 1 := by decide +kernel
theorem dX13_isFair_1 : cod mX13_isFair 1 (.lstore_n 3) 1 := by decide +kernel
theorem dX13_isFair_2 : cod mX13_isFair 2 (.lconst 0) 1 := by decide +kernel
theorem dX13_isFair_3 : cod mX13_isFair 3 (.lstore 5) 2 := by decide +kernel
theorem dX13_isFair_5 : cod mX13_isFair 5 (.iconst 0) 1 := by decide +kernel
theorem dX13_isFair_6 : cod mX13_isFair 6 (.istore 7) 2 := by decide +kernel
theorem dX13_isFair_8 : cod mX13_isFair 8 (.iload 7) 2 := by decide +kernel
theorem dX13_isFair_10 : cod mX13_isFair 10 (.aload_n 0) 1 := by decide +kernel
theorem dX13_isFair_11 : cod mX13_isFair 11 (.getfield 119) 3 := by decide +kernel
theorem dX13_isFair_14 : cod mX13_isFair 14 (.if_icmp .ge 138) 3 := by decide +kernel
theorem dX13_isFair_17 : cod mX13_isFair 17 (.lconst 0) 1 := by decide +kernel
theorem dX13_isFair_18 : cod mX13_isFair 18 (.lstore 8) 2 := by decide +kernel
theorem dX13_isFair_20 : cod mX13_isFair 20 (.iconst 0) 1 := by decide +kernel
theorem dX13_isFair_21 : cod mX13_isFair 21 (.istore 10) 2 := by decide +kernel
theorem dX13_isFair_23 : cod mX13_isFair 23 (.iload 10) 2 := by decide +kernel
theorem dX13_isFair_25 : cod mX13_isFair 25 (.aload_n 0) 1 := by decide +kernel
theorem dX13_isFair_26 : cod mX13_isFair 26 (.getfield 128) 3 := by decide +kernel
theorem dX13_isFair_29 : cod mX13_isFair 29 (.if_icmp .ge 80) 3 := by decide +kernel
theorem dX13_isFair_32 : cod mX13_isFair 32 (.iload_n 2) 1 := by decide +kernel
theorem dX13_isFair_33 : cod mX13_isFair 33 (.ifCond .eq 21) 3 := by decide +kernel
theorem dX13_isFair_36 : cod mX13_isFair 36 (.aload_n 0) 1 := by decide +kernel
theorem dX13_isFair_37 : cod mX13_isFair 37 (.iload 10) 2 := by decide +kernel
theorem dX13_isFair_39 : cod mX13_isFair 39 (.aload_n 0) 1 := by decide +kernel
theorem dX13_isFair_40 : cod mX13_isFair 40 (.getfield 13) 3 := by decide +kernel
theorem dX13_isFair_43 : cod mX13_isFair 43 (.iload 7) 2 := by decide +kernel
theorem dX13_isFair_45 : cod mX13_isFair 45 (.iaload) 1 := by decide +kernel
theorem dX13_isFair_46 : cod mX13_isFair 46 (.iconst 0) 1 := by decide +kernel
theorem dX13_isFair_47 : cod mX13_isFair 47 (.iload_n 1) 1 := by decide +kernel
theorem dX13_isFair_48 : cod mX13_isFair 48 (.invokevirtual 206) 3 := by decide +kernel
theorem dX13_isFair_51 : cod mX13_isFair 51 (.goto 19) 3 := by decide +kernel
theorem dX13_isFair_54 : cod mX13_isFair 54 (.aload_n 0) 1 := by decide +kernel
theorem dX13_isFair_55 : cod mX13_isFair 55 (.iload 10) 2 := by decide +kernel
theorem dX13_isFair_57 : cod mX13_isFair 57 (.aload_n 0) 1 := by decide +kernel
theorem dX13_isFair_58 : cod mX13_isFair 58 (.getfield 13) 3 := by decide +kernel
theorem dX13_isFair_61 : cod mX13_isFair 61 (.iload 7) 2 := by decide +kernel
theorem dX13_isFair_63 : cod mX13_isFair 63 (.iaload) 1 := by decide +kernel
theorem dX13_isFair_64 : cod mX13_isFair 64 (.iload_n 1) 1 := by decide +kernel
theorem dX13_isFair_65 : cod mX13_isFair 65 (.bipush 100) 2 := by decide +kernel
theorem dX13_isFair_67 : cod mX13_isFair 67 (.invokevirtual 206) 3 := by decide +kernel
theorem dX13_isFair_70 : cod mX13_isFair 70 (.istore 11) 2 := by decide +kernel
theorem dX13_isFair_72 : cod mX13_isFair 72 (.lload 8) 2 := by decide +kernel
theorem dX13_isFair_74 : cod mX13_isFair 74 (.iload 11) 2 := by decide +kernel
theorem dX13_isFair_76 : cod mX13_isFair 76 (.iload_n 2) 1 := by decide +kernel
theorem dX13_isFair_77 : cod mX13_isFair 77 (.ifCond .eq 7) 3 := by decide +kernel
theorem dX13_isFair_80 : cod mX13_isFair 80 (.iconst 1) 1 := by decide +kernel
theorem dX13_isFair_81 : cod mX13_isFair 81 (.goto 4) 3 := by decide +kernel
theorem dX13_isFair_84 : cod mX13_isFair 84 (.iconst 2) 1 := by decide +kernel
theorem dX13_isFair_85 : cod mX13_isFair 85 (.if_icmp .ne 14) 3 := by decide +kernel
theorem dX13_isFair_88 : cod mX13_isFair 88 (.aload_n 0) 1 := by decide +kernel
theorem dX13_isFair_89 : cod mX13_isFair 89 (.getfield 19) 3 := by decide +kernel
theorem dX13_isFair_92 : cod mX13_isFair 92 (.iload 10) 2 := by decide +kernel
theorem dX13_isFair_94 : cod mX13_isFair 94 (.iaload) 1 := by decide +kernel
theorem dX13_isFair_95 : cod mX13_isFair 95 (.i2l) 1 := by decide +kernel
theorem dX13_isFair_96 : cod mX13_isFair 96 (.goto 4) 3 := by decide +kernel
theorem dX13_isFair_99 : cod mX13_isFair 99 (.lconst 0) 1 := by decide +kernel
theorem dX13_isFair_100 : cod mX13_isFair 100 (.ladd) 1 := by decide +kernel
theorem dX13_isFair_101 : cod mX13_isFair 101 (.lstore 8) 2 := by decide +kernel
theorem dX13_isFair_103 : cod mX13_isFair 103 (.iinc 10 1) 3 := by decide +kernel
theorem dX13_isFair_106 : cod mX13_isFair 106 (.goto (-83)) 3 := by decide +kernel
theorem dX13_isFair_109 : cod mX13_isFair 109 (.lload_n 3) 1 := by decide +kernel
theorem dX13_isFair_110 : cod mX13_isFair 110 (.aload_n 0) 1 := by decide +kernel
theorem dX13_isFair_111 : cod mX13_isFair 111 (.getfield 51) 3 := by decide +kernel
theorem dX13_isFair_114 : cod mX13_isFair 114 (.iload 7) 2 := by decide +kernel
theorem dX13_isFair_116 : cod mX13_isFair 116 (.laload) 1 := by decide +kernel
theorem dX13_isFair_117 : cod mX13_isFair 117 (.lload 8) 2 := by decide +kernel
theorem dX13_isFair_119 : cod mX13_isFair 119 (.lmul) 1 := by decide +kernel
theorem dX13_isFair_120 : cod mX13_isFair 120 (.aload_n 0) 1 := by decide +kernel
theorem dX13_isFair_121 : cod mX13_isFair 121 (.getfield 13) 3 := by decide +kernel
theorem dX13_isFair_124 : cod mX13_isFair 124 (.iload 7) 2 := by decide +kernel
theorem dX13_isFair_126 : cod mX13_isFair 126 (.iaload) 1 := by decide +kernel
theorem dX13_isFair_127 : cod mX13_isFair 127 (.i2l) 1 := by decide +kernel
theorem dX13_isFair_128 : cod mX13_isFair 128 (.lmul) 1 := by decide +kernel
theorem dX13_isFair_129 : cod mX13_isFair 129 (.ladd) 1 := by decide +kernel
theorem dX13_isFair_130 : cod mX13_isFair 130 (.lstore_n 3) 1 := by decide +kernel
theorem dX13_isFair_131 : cod mX13_isFair 131 (.lload 5) 2 := by decide +kernel
theorem dX13_isFair_133 : cod mX13_isFair 133 (.aload_n 0) 1 := by decide +kernel
theorem dX13_isFair_134 : cod mX13_isFair 134 (.getfield 51) 3 := by decide +kernel
theorem dX13_isFair_137 : cod mX13_isFair 137 (.iload 7) 2 := by decide +kernel
theorem dX13_isFair_139 : cod mX13_isFair 139 (.laload) 1 := by decide +kernel
theorem dX13_isFair_140 : cod mX13_isFair 140 (.lload 8) 2 := by decide +kernel
theorem dX13_isFair_142 : cod mX13_isFair 142 (.lmul) 1 := by decide +kernel
theorem dX13_isFair_143 : cod mX13_isFair 143 (.ladd) 1 := by decide +kernel
theorem dX13_isFair_144 : cod mX13_isFair 144 (.lstore 5) 2 := by decide +kernel
theorem dX13_isFair_146 : cod mX13_isFair 146 (.iinc 7 1) 3 := by decide +kernel
theorem dX13_isFair_149 : cod mX13_isFair 149 (.goto (-141)) 3 := by decide +kernel
theorem dX13_isFair_152 : cod mX13_isFair 152 (.lload 5) 2 := by decide +kernel
theorem dX13_isFair_154 : cod mX13_isFair 154 (.lconst 0) 1 := by decide +kernel
theorem dX13_isFair_155 : cod mX13_isFair 155 (.lcmp) 1 := by decide +kernel
theorem dX13_isFair_156 : cod mX13_isFair 156 (.ifCond .le 34) 3 := by decide +kernel
theorem dX13_isFair_159 : cod mX13_isFair 159 (.iload_n 2) 1 := by decide +kernel
theorem dX13_isFair_160 : cod mX13_isFair 160 (.ifCond .eq 16) 3 := by decide +kernel
theorem dX13_isFair_163 : cod mX13_isFair 163 (.iload_n 1) 1 := by decide +kernel
theorem dX13_isFair_164 : cod mX13_isFair 164 (.i2l) 1 := by decide +kernel
theorem dX13_isFair_165 : cod mX13_isFair 165 (.lload 5) 2 := by decide +kernel
theorem dX13_isFair_167 : cod mX13_isFair 167 (.lmul) 1 := by decide +kernel
theorem dX13_isFair_168 : cod mX13_isFair 168 (.lload_n 3) 1 := by decide +kernel
theorem dX13_isFair_169 : cod mX13_isFair 169 (.lcmp) 1 := by decide +kernel
theorem dX13_isFair_170 : cod mX13_isFair 170 (.ifCond .lt 20) 3 := by decide +kernel
theorem dX13_isFair_173 : cod mX13_isFair 173 (.goto 13) 3 := by decide +kernel
theorem dX13_isFair_176 : cod mX13_isFair 176 (.iload_n 1) 1 := by decide +kernel
theorem dX13_isFair_177 : cod mX13_isFair 177 (.i2l) 1 := by decide +kernel
theorem dX13_isFair_178 : cod mX13_isFair 178 (.lload 5) 2 := by decide +kernel
theorem dX13_isFair_180 : cod mX13_isFair 180 (.lmul) 1 := by decide +kernel
theorem dX13_isFair_181 : cod mX13_isFair 181 (.lload_n 3) 1 := by decide +kernel
theorem dX13_isFair_182 : cod mX13_isFair 182 (.lcmp) 1 := by decide +kernel
theorem dX13_isFair_183 : cod mX13_isFair 183 (.ifCond .gt 7) 3 := by decide +kernel
theorem dX13_isFair_186 : cod mX13_isFair 186 (.iconst 1) 1 := by decide +kernel
theorem dX13_isFair_187 : cod mX13_isFair 187 (.goto 4) 3 := by decide +kernel
theorem dX13_isFair_190 : cod mX13_isFair 190 (.iconst 0) 1 := by decide +kernel
theorem dX13_isFair_191 : cod mX13_isFair 191 (.ireturn) 1 := by decide +kernel
def jn_X13_isFair_100 (K8 : Nat → Int32 → Int32 → Int64 → Int64 → Int32 → Mem → Prop) (K23 : Nat → Int32 → Int32 → Int64 → Int64 → Int32 → Int64 → Int32 → Mem → Prop) (Q : Int32 → Mem → Prop) (x0 : Nat) (x1 : Int32) (x2 : Int32) (x3 : Int64) (x5 : Int64) (x7 : Int32) (x10 : Int32) (s0 : Int64) (s1 : Int64) (M : Mem) : Prop := ∀ y46 : Int64, y46 = s1 + s0 → K23 x0 x1 x2 x3 x5 x7 y46 (x10 + 1) M
theorem P_jn_X13_isFair_100 {G : GG} {K8 : Nat → Int32 → Int32 → Int64 → Int64 → Int32 → Mem → Prop} {K23 : Nat → Int32 → Int32 → Int64 → Int64 → Int32 → Int64 → Int32 → Mem → Prop} {Q : Int32 → Mem → Prop} (hK8 : ∀ (x0 : Nat) (x1 : Int32) (x2 : Int32) (x3 : Int64) (x5 : Int64) (x7 : Int32) (M : Mem), K8 x0 x1 x2 x3 x5 x7 M → PW G mX13_isFair (rmD 1 0 0) (QI Q) 8 [some (.ref x0), some (.int x1), some (.int x2), some (.long x3), none, some (.long x5), none, some (.int x7), none, none, none, none] [] M 0 0) (hK23 : ∀ (x0 : Nat) (x1 : Int32) (x2 : Int32) (x3 : Int64) (x5 : Int64) (x7 : Int32) (x8 : Int64) (x10 : Int32) (M : Mem), K23 x0 x1 x2 x3 x5 x7 x8 x10 M → PW G mX13_isFair (rmD 1 0 0) (QI Q) 23 [some (.ref x0), some (.int x1), some (.int x2), some (.long x3), none, some (.long x5), none, some (.int x7), some (.long x8), none, some (.int x10), none] [] M 0 0) (x0 : Nat) (x1 : Int32) (x2 : Int32) (x3 : Int64) (x5 : Int64) (x7 : Int32) (x10 : Int32) (s0 : Int64) (s1 : Int64) (M : Mem) (h : jn_X13_isFair_100 K8 K23 Q x0 x1 x2 x3 x5 x7 x10 s0 s1 M) : PW G mX13_isFair (rmD 1 0 0) (QI Q) 100 [some (.ref x0), some (.int x1), some (.int x2), some (.long x3), none, some (.long x5), none, some (.int x7), none, none, some (.int x10), none] [.long s0, .long s1] M 0 0 := (s_ladd (pc := 100) dX13_isFair_100 (nmJ (fun y46 e47 => have h48 := h y46 e47; s_lstore (pc := 101) (L1 := [some (.ref x0), some (.int x1), some (.int x2), some (.long x3), none, some (.long x5), none, some (.int x7), some (.long y46), none, some (.int x10), none]) dX13_isFair_101 (Nat.le_of_ble_eq_true rfl) rfl (s_iinc (pc := 103) (L1 := [some (.ref x0), some (.int x1), some (.int x2), some (.long x3), none, some (.long x5), none, some (.int x7), some (.long y46), none, some (.int (x10 + 1)), none]) dX13_isFair_103 rfl ci_1 (Nat.le_of_ble_eq_true rfl) rfl (s_goto (pc := 106) (tgt := 23) dX13_isFair_106 rfl (s_sel (L1 := [some (.ref x0), some (.int x1), some (.int x2), some (.long x3), none, some (.long x5), none, some (.int x7), some (.long y46), none, some (.int (x10 + 1)), none]) [true, true, true, true, false, true, false, true, true, false, true, false] rfl (hK23 x0 x1 x2 x3 x5 x7 y46 (x10 + 1) M h48)))))))
def jn_X13_isFair_85 (K8 : Nat → Int32 → Int32 → Int64 → Int64 → Int32 → Mem → Prop) (K23 : Nat → Int32 → Int32 → Int64 → Int64 → Int32 → Int64 → Int32 → Mem → Prop) (Q : Int32 → Mem → Prop) (x0 : Nat) (x1 : Int32) (x2 : Int32) (x3 : Int64) (x5 : Int64) (x7 : Int32) (x10 : Int32) (s0 : Int32) (s1 : Int32) (s2 : Int64) (M : Mem) : Prop := (¬ s1 = s0 → jn_X13_isFair_100 K8 K23 Q x0 x1 x2 x3 x5 x7 x10 0 s2 M) ∧ (s1 = s0 → mK M x0 = 14 ∧ mK M (mR M x0 5) = 20 ∧ vp_in x10 (mN M (mR M x0 5)) ∧ jn_X13_isFair_100 K8 K23 Q x0 x1 x2 x3 x5 x7 x10 ((mI M (mR M x0 5) x10.toNatClampNeg).toInt64) s2 M)
theorem P_jn_X13_isFair_85 {G : GG} {K8 : Nat → Int32 → Int32 → Int64 → Int64 → Int32 → Mem → Prop} {K23 : Nat → Int32 → Int32 → Int64 → Int64 → Int32 → Int64 → Int32 → Mem → Prop} {Q : Int32 → Mem → Prop} (hK8 : ∀ (x0 : Nat) (x1 : Int32) (x2 : Int32) (x3 : Int64) (x5 : Int64) (x7 : Int32) (M : Mem), K8 x0 x1 x2 x3 x5 x7 M → PW G mX13_isFair (rmD 1 0 0) (QI Q) 8 [some (.ref x0), some (.int x1), some (.int x2), some (.long x3), none, some (.long x5), none, some (.int x7), none, none, none, none] [] M 0 0) (hK23 : ∀ (x0 : Nat) (x1 : Int32) (x2 : Int32) (x3 : Int64) (x5 : Int64) (x7 : Int32) (x8 : Int64) (x10 : Int32) (M : Mem), K23 x0 x1 x2 x3 x5 x7 x8 x10 M → PW G mX13_isFair (rmD 1 0 0) (QI Q) 23 [some (.ref x0), some (.int x1), some (.int x2), some (.long x3), none, some (.long x5), none, some (.int x7), some (.long x8), none, some (.int x10), none] [] M 0 0) (x0 : Nat) (x1 : Int32) (x2 : Int32) (x3 : Int64) (x5 : Int64) (x7 : Int32) (x10 : Int32) (s0 : Int32) (s1 : Int32) (s2 : Int64) (M : Mem) (h : jn_X13_isFair_85 K8 K23 Q x0 x1 x2 x3 x5 x7 x10 s0 s1 s2 M) : PW G mX13_isFair (rmD 1 0 0) (QI Q) 85 [some (.ref x0), some (.int x1), some (.int x2), some (.long x3), none, some (.long x5), none, some (.int x7), none, none, some (.int x10), none] [.int s0, .int s1, .long s2] M 0 0 := (s_icmp_ne (pc := 85) (tgt := 99) dX13_isFair_85 rfl (fun c42 => have h43 := h.1 c42; s_lconst (pc := 99) (v := 0) dX13_isFair_99 rfl (s_sel (L1 := [some (.ref x0), some (.int x1), some (.int x2), some (.long x3), none, some (.long x5), none, some (.int x7), none, none, some (.int x10), none]) [true, true, true, true, false, true, false, true, false, false, true, false] rfl (P_jn_X13_isFair_100 hK8 hK23 x0 x1 x2 x3 x5 x7 x10 0 s2 M h43))) (fun c44 => have h45 := h.2 c44; s_aload_n (pc := 88) dX13_isFair_88 rfl (s_getR (pc := 89) dX13_isFair_89 f_X13_19 rfl h45.1 (s_iload (pc := 92) dX13_isFair_92 rfl (s_ial (pc := 94) dX13_isFair_94 h45.2.1 h45.2.2.1 (s_i2l (pc := 95) dX13_isFair_95 (s_goto (pc := 96) (tgt := 100) dX13_isFair_96 rfl (s_sel (L1 := [some (.ref x0), some (.int x1), some (.int x2), some (.long x3), none, some (.long x5), none, some (.int x7), none, none, some (.int x10), none]) [true, true, true, true, false, true, false, true, false, false, true, false] rfl (P_jn_X13_isFair_100 hK8 hK23 x0 x1 x2 x3 x5 x7 x10 ((mI M (mR M x0 5) x10.toNatClampNeg).toInt64) s2 M h45.2.2.2)))))))))
def jn_X13_isFair_70 (K8 : Nat → Int32 → Int32 → Int64 → Int64 → Int32 → Mem → Prop) (K23 : Nat → Int32 → Int32 → Int64 → Int64 → Int32 → Int64 → Int32 → Mem → Prop) (Q : Int32 → Mem → Prop) (x0 : Nat) (x1 : Int32) (x2 : Int32) (x3 : Int64) (x5 : Int64) (x7 : Int32) (x8 : Int64) (x10 : Int32) (s0 : Int32) (M : Mem) : Prop := (x2 = (0 : Int32) → jn_X13_isFair_85 K8 K23 Q x0 x1 x2 x3 x5 x7 x10 2 s0 x8 M) ∧ (¬ x2 = (0 : Int32) → jn_X13_isFair_85 K8 K23 Q x0 x1 x2 x3 x5 x7 x10 1 s0 x8 M)
theorem P_jn_X13_isFair_70 {G : GG} {K8 : Nat → Int32 → Int32 → Int64 → Int64 → Int32 → Mem → Prop} {K23 : Nat → Int32 → Int32 → Int64 → Int64 → Int32 → Int64 → Int32 → Mem → Prop} {Q : Int32 → Mem → Prop} (hK8 : ∀ (x0 : Nat) (x1 : Int32) (x2 : Int32) (x3 : Int64) (x5 : Int64) (x7 : Int32) (M : Mem), K8 x0 x1 x2 x3 x5 x7 M → PW G mX13_isFair (rmD 1 0 0) (QI Q) 8 [some (.ref x0), some (.int x1), some (.int x2), some (.long x3), none, some (.long x5), none, some (.int x7), none, none, none, none] [] M 0 0) (hK23 : ∀ (x0 : Nat) (x1 : Int32) (x2 : Int32) (x3 : Int64) (x5 : Int64) (x7 : Int32) (x8 : Int64) (x10 : Int32) (M : Mem), K23 x0 x1 x2 x3 x5 x7 x8 x10 M → PW G mX13_isFair (rmD 1 0 0) (QI Q) 23 [some (.ref x0), some (.int x1), some (.int x2), some (.long x3), none, some (.long x5), none, some (.int x7), some (.long x8), none, some (.int x10), none] [] M 0 0) (x0 : Nat) (x1 : Int32) (x2 : Int32) (x3 : Int64) (x5 : Int64) (x7 : Int32) (x8 : Int64) (x10 : Int32) (s0 : Int32) (M : Mem) (h : jn_X13_isFair_70 K8 K23 Q x0 x1 x2 x3 x5 x7 x8 x10 s0 M) : PW G mX13_isFair (rmD 1 0 0) (QI Q) 70 [some (.ref x0), some (.int x1), some (.int x2), some (.long x3), none, some (.long x5), none, some (.int x7), some (.long x8), none, some (.int x10), none] [.int s0] M 0 0 := (s_istore (pc := 70) (L1 := [some (.ref x0), some (.int x1), some (.int x2), some (.long x3), none, some (.long x5), none, some (.int x7), some (.long x8), none, some (.int x10), some (.int s0)]) dX13_isFair_70 (Nat.le_of_ble_eq_true rfl) rfl (s_lload (pc := 72) dX13_isFair_72 rfl (s_iload (pc := 74) dX13_isFair_74 rfl (s_iload_n (pc := 76) dX13_isFair_76 rfl (s_if_eq (pc := 77) (tgt := 84) dX13_isFair_77 rfl (fun c38 => have h39 := h.1 c38; s_iconst (pc := 84) dX13_isFair_84 ci_2 (s_sel (L1 := [some (.ref x0), some (.int x1), some (.int x2), some (.long x3), none, some (.long x5), none, some (.int x7), none, none, some (.int x10), none]) [true, true, true, true, false, true, false, true, false, false, true, false] rfl (P_jn_X13_isFair_85 hK8 hK23 x0 x1 x2 x3 x5 x7 x10 2 s0 x8 M h39))) (fun c40 => have h41 := h.2 c40; s_iconst (pc := 80) dX13_isFair_80 ci_1 (s_goto (pc := 81) (tgt := 85) dX13_isFair_81 rfl (s_sel (L1 := [some (.ref x0), some (.int x1), some (.int x2), some (.long x3), none, some (.long x5), none, some (.int x7), none, none, some (.int x10), none]) [true, true, true, true, false, true, false, true, false, false, true, false] rfl (P_jn_X13_isFair_85 hK8 hK23 x0 x1 x2 x3 x5 x7 x10 1 s0 x8 M h41)))))))))
def lp_X13_isFair_23 (K8 : Nat → Int32 → Int32 → Int64 → Int64 → Int32 → Mem → Prop) (Q : Int32 → Mem → Prop) : Nat → Nat → Int32 → Int32 → Int64 → Int64 → Int32 → Int64 → Int32 → Mem → Prop
  | 0 => fun _ _ _ _ _ _ _ _ _ => False
  | n + 1 => fun x0 x1 x2 x3 x5 x7 x8 x10 M => mK M x0 = 14 ∧ ((mI M x0 3) ≤ x10 → mK M (mR M x0 23) = 21 ∧ vp_in x7 (mN M (mR M x0 23)) ∧ mK M (mR M x0 2) = 20 ∧ vp_in x7 (mN M (mR M x0 2)) ∧ ∀ y25 : Int64, y25 = x3 + (((mJ M (mR M x0 23) x7.toNatClampNeg) * x8) * ((mI M (mR M x0 2) x7.toNatClampNeg).toInt64)) → vp_in x7 (mN M (mR M x0 23)) ∧ ∀ y28 : Int64, y28 = x5 + ((mJ M (mR M x0 23) x7.toNatClampNeg) * x8) → K8 x0 x1 x2 y25 y28 (x7 + 1) M) ∧ (¬ (mI M x0 3) ≤ x10 → (x2 = (0 : Int32) → mK M (mR M x0 2) = 20 ∧ vp_in x7 (mN M (mR M x0 2)) ∧ wp_X13_dealt x0 x10 (mI M (mR M x0 2) x7.toNatClampNeg) x1 100 M (fun r37 M36 => jn_X13_isFair_70 K8 (fun fx0 fx1 fx2 fx3 fx5 fx7 fx8 fx10 fM => lp_X13_isFair_23 K8 Q n fx0 fx1 fx2 fx3 fx5 fx7 fx8 fx10 fM) Q x0 x1 x2 x3 x5 x7 x8 x10 r37 M36)) ∧ (¬ x2 = (0 : Int32) → mK M (mR M x0 2) = 20 ∧ vp_in x7 (mN M (mR M x0 2)) ∧ wp_X13_dealt x0 x10 (mI M (mR M x0 2) x7.toNatClampNeg) 0 x1 M (fun r51 M50 => jn_X13_isFair_70 K8 (fun fx0 fx1 fx2 fx3 fx5 fx7 fx8 fx10 fM => lp_X13_isFair_23 K8 Q n fx0 fx1 fx2 fx3 fx5 fx7 fx8 fx10 fM) Q x0 x1 x2 x3 x5 x7 x8 x10 r51 M50)))
theorem P_lp_X13_isFair_23 {G : GG} {K8 : Nat → Int32 → Int32 → Int64 → Int64 → Int32 → Mem → Prop} {Q : Int32 → Mem → Prop} (hK8 : ∀ (x0 : Nat) (x1 : Int32) (x2 : Int32) (x3 : Int64) (x5 : Int64) (x7 : Int32) (M : Mem), K8 x0 x1 x2 x3 x5 x7 M → PW G mX13_isFair (rmD 1 0 0) (QI Q) 8 [some (.ref x0), some (.int x1), some (.int x2), some (.long x3), none, some (.long x5), none, some (.int x7), none, none, none, none] [] M 0 0) : ∀ (n : Nat) (x0 : Nat) (x1 : Int32) (x2 : Int32) (x3 : Int64) (x5 : Int64) (x7 : Int32) (x8 : Int64) (x10 : Int32) (M : Mem), lp_X13_isFair_23 K8 Q n x0 x1 x2 x3 x5 x7 x8 x10 M → PW G mX13_isFair (rmD 1 0 0) (QI Q) 23 [some (.ref x0), some (.int x1), some (.int x2), some (.long x3), none, some (.long x5), none, some (.int x7), some (.long x8), none, some (.int x10), none] [] M 0 0 := by
  intro n
  induction n with
  | zero => intro x0 x1 x2 x3 x5 x7 x8 x10 M h; exact h.elim
  | succ n ih =>
    intro x0 x1 x2 x3 x5 x7 x8 x10 M h
    exact (s_iload (pc := 23) dX13_isFair_23 rfl (s_aload_n (pc := 25) dX13_isFair_25 rfl (s_getI (pc := 26) dX13_isFair_26 f_X13_128 rfl h.1 (s_icmp_ge (pc := 29) (tgt := 109) dX13_isFair_29 rfl (fun c21 => have h22 := h.2.1 c21; s_lload_n (pc := 109) dX13_isFair_109 rfl (s_aload_n (pc := 110) dX13_isFair_110 rfl (s_getR (pc := 111) dX13_isFair_111 f_X13_51 rfl h.1 (s_iload (pc := 114) dX13_isFair_114 rfl (s_lal (pc := 116) dX13_isFair_116 h22.1 h22.2.1 (s_lload (pc := 117) dX13_isFair_117 rfl (s_lmul (pc := 119) dX13_isFair_119 (s_aload_n (pc := 120) dX13_isFair_120 rfl (s_getR (pc := 121) dX13_isFair_121 f_X13_13 rfl h.1 (s_iload (pc := 124) dX13_isFair_124 rfl (s_ial (pc := 126) dX13_isFair_126 h22.2.2.1 h22.2.2.2.1 (s_i2l (pc := 127) dX13_isFair_127 (s_lmul (pc := 128) dX13_isFair_128 (s_ladd (pc := 129) dX13_isFair_129 (nmJ (fun y25 e26 => have h27 := h22.2.2.2.2 y25 e26; s_lstore_n (pc := 130) (L1 := [some (.ref x0), some (.int x1), some (.int x2), some (.long y25), none, some (.long x5), none, some (.int x7), some (.long x8), none, some (.int x10), none]) dX13_isFair_130 (Nat.le_of_ble_eq_true rfl) rfl (s_lload (pc := 131) dX13_isFair_131 rfl (s_aload_n (pc := 133) dX13_isFair_133 rfl (s_getR (pc := 134) dX13_isFair_134 f_X13_51 rfl h.1 (s_iload (pc := 137) dX13_isFair_137 rfl (s_lal (pc := 139) dX13_isFair_139 h22.1 h27.1 (s_lload (pc := 140) dX13_isFair_140 rfl (s_lmul (pc := 142) dX13_isFair_142 (s_ladd (pc := 143) dX13_isFair_143 (nmJ (fun y28 e29 => have h30 := h27.2 y28 e29; s_lstore (pc := 144) (L1 := [some (.ref x0), some (.int x1), some (.int x2), some (.long y25), none, some (.long y28), none, some (.int x7), some (.long x8), none, some (.int x10), none]) dX13_isFair_144 (Nat.le_of_ble_eq_true rfl) rfl (s_iinc (pc := 146) (L1 := [some (.ref x0), some (.int x1), some (.int x2), some (.long y25), none, some (.long y28), none, some (.int (x7 + 1)), some (.long x8), none, some (.int x10), none]) dX13_isFair_146 rfl ci_1 (Nat.le_of_ble_eq_true rfl) rfl (s_goto (pc := 149) (tgt := 8) dX13_isFair_149 rfl (s_sel (L1 := [some (.ref x0), some (.int x1), some (.int x2), some (.long y25), none, some (.long y28), none, some (.int (x7 + 1)), none, none, none, none]) [true, true, true, true, false, true, false, true, false, false, false, false] rfl (hK8 x0 x1 x2 y25 y28 (x7 + 1) M h30)))))))))))))))))))))))))))))) (fun c23 => have h24 := h.2.2 c23; s_iload_n (pc := 32) dX13_isFair_32 rfl (s_if_eq (pc := 33) (tgt := 54) dX13_isFair_33 rfl (fun c31 => have h32 := h24.1 c31; s_aload_n (pc := 54) dX13_isFair_54 rfl (s_iload (pc := 55) dX13_isFair_55 rfl (s_aload_n (pc := 57) dX13_isFair_57 rfl (s_getR (pc := 58) dX13_isFair_58 f_X13_13 rfl h.1 (s_iload (pc := 61) dX13_isFair_61 rfl (s_ial (pc := 63) dX13_isFair_63 h32.1 h32.2.1 (s_iload_n (pc := 64) dX13_isFair_64 rfl (s_bipush (pc := 65) dX13_isFair_65 cb_100 (s_callV (pc := 67) (As := [.int x10, .int (mI M (mR M x0 2) x7.toNatClampNeg), .int x1, .int 100]) (rest := []) (d' := 0) (mc' := 0) (ms' := 0) dX13_isFair_67 c_X13_206 (Nat.le_of_ble_eq_true rfl) rfl h.1 rfl rfl (Nat.le_of_ble_eq_true rfl) (rm_ok rfl rfl) ⟨Nat.le_refl 0, Nat.le_refl 0⟩ (T_X13_dealt h32.2.2) (kkI (fun r37 M36 h35 => s_sel (L1 := [some (.ref x0), some (.int x1), some (.int x2), some (.long x3), none, some (.long x5), none, some (.int x7), some (.long x8), none, some (.int x10), none]) [true, true, true, true, false, true, false, true, true, false, true, false] rfl (P_jn_X13_isFair_70 hK8 ih x0 x1 x2 x3 x5 x7 x8 x10 r37 M36 h35)))))))))))) (fun c33 => have h34 := h24.2 c33; s_aload_n (pc := 36) dX13_isFair_36 rfl (s_iload (pc := 37) dX13_isFair_37 rfl (s_aload_n (pc := 39) dX13_isFair_39 rfl (s_getR (pc := 40) dX13_isFair_40 f_X13_13 rfl h.1 (s_iload (pc := 43) dX13_isFair_43 rfl (s_ial (pc := 45) dX13_isFair_45 h34.1 h34.2.1 (s_iconst (pc := 46) dX13_isFair_46 ci_0 (s_iload_n (pc := 47) dX13_isFair_47 rfl (s_callV (pc := 48) (As := [.int x10, .int (mI M (mR M x0 2) x7.toNatClampNeg), .int 0, .int x1]) (rest := []) (d' := 0) (mc' := 0) (ms' := 0) dX13_isFair_48 c_X13_206 (Nat.le_of_ble_eq_true rfl) rfl h.1 rfl rfl (Nat.le_of_ble_eq_true rfl) (rm_ok rfl rfl) ⟨Nat.le_refl 0, Nat.le_refl 0⟩ (T_X13_dealt h34.2.2) (kkI (fun r51 M50 h49 => s_goto (pc := 51) (tgt := 70) dX13_isFair_51 rfl (s_sel (L1 := [some (.ref x0), some (.int x1), some (.int x2), some (.long x3), none, some (.long x5), none, some (.int x7), some (.long x8), none, some (.int x10), none]) [true, true, true, true, false, true, false, true, true, false, true, false] rfl (P_jn_X13_isFair_70 hK8 ih x0 x1 x2 x3 x5 x7 x8 x10 r51 M50 h49)))))))))))))))))))
def lp_X13_isFair_8 (Q : Int32 → Mem → Prop) : Nat → Nat → Int32 → Int32 → Int64 → Int64 → Int32 → Mem → Prop
  | 0 => fun _ _ _ _ _ _ _ => False
  | n + 1 => fun x0 x1 x2 x3 x5 x7 M => mK M x0 = 14 ∧ ((mI M x0 0) ≤ x7 → (x5 ≤ (0 : Int64) → Q 0 M) ∧ (¬ x5 ≤ (0 : Int64) → (x2 = (0 : Int32) → (x3 < (x1.toInt64 * x5) → Q 0 M) ∧ (¬ x3 < (x1.toInt64 * x5) → Q 1 M)) ∧ (¬ x2 = (0 : Int32) → ((x1.toInt64 * x5) < x3 → Q 0 M) ∧ (¬ (x1.toInt64 * x5) < x3 → Q 1 M)))) ∧ (¬ (mI M x0 0) ≤ x7 → ∃ n52 : Nat, lp_X13_isFair_23 (fun fx0 fx1 fx2 fx3 fx5 fx7 fM => lp_X13_isFair_8 Q n fx0 fx1 fx2 fx3 fx5 fx7 fM) Q n52 x0 x1 x2 x3 x5 x7 0 0 M)
theorem P_lp_X13_isFair_8 {G : GG} {Q : Int32 → Mem → Prop} : ∀ (n : Nat) (x0 : Nat) (x1 : Int32) (x2 : Int32) (x3 : Int64) (x5 : Int64) (x7 : Int32) (M : Mem), lp_X13_isFair_8 Q n x0 x1 x2 x3 x5 x7 M → PW G mX13_isFair (rmD 1 0 0) (QI Q) 8 [some (.ref x0), some (.int x1), some (.int x2), some (.long x3), none, some (.long x5), none, some (.int x7), none, none, none, none] [] M 0 0 := by
  intro n
  induction n with
  | zero => intro x0 x1 x2 x3 x5 x7 M h; exact h.elim
  | succ n ih =>
    intro x0 x1 x2 x3 x5 x7 M h
    exact (s_iload (pc := 8) dX13_isFair_8 rfl (s_aload_n (pc := 10) dX13_isFair_10 rfl (s_getI (pc := 11) dX13_isFair_11 f_X13_119 rfl h.1 (s_icmp_ge (pc := 14) (tgt := 152) dX13_isFair_14 rfl (fun c1 => have h2 := h.2.1 c1; s_lload (pc := 152) dX13_isFair_152 rfl (s_lconst (pc := 154) (v := 0) dX13_isFair_154 rfl (s_lif_le (pc := 155) (tgt := 190) dX13_isFair_155 dX13_isFair_156 rfl (fun c5 => have h6 := h2.1 c5; s_iconst (pc := 190) dX13_isFair_190 ci_0 (s_zreturn (pc := 191) dX13_isFair_191 rfl (Or.inl rfl) (Nat.zero_le _) (Nat.zero_le _) ⟨_, rfl, h6⟩)) (fun c7 => have h8 := h2.2 c7; s_iload_n (pc := 159) dX13_isFair_159 rfl (s_if_eq (pc := 160) (tgt := 176) dX13_isFair_160 rfl (fun c9 => have h10 := h8.1 c9; s_iload_n (pc := 176) dX13_isFair_176 rfl (s_i2l (pc := 177) dX13_isFair_177 (s_lload (pc := 178) dX13_isFair_178 rfl (s_lmul (pc := 180) dX13_isFair_180 (s_lload_n (pc := 181) dX13_isFair_181 rfl (s_lif_gt (pc := 182) (tgt := 190) dX13_isFair_182 dX13_isFair_183 rfl (fun c13 => have h14 := h10.1 c13; s_iconst (pc := 190) dX13_isFair_190 ci_0 (s_zreturn (pc := 191) dX13_isFair_191 rfl (Or.inl rfl) (Nat.zero_le _) (Nat.zero_le _) ⟨_, rfl, h14⟩)) (fun c15 => have h16 := h10.2 c15; s_iconst (pc := 186) dX13_isFair_186 ci_1 (s_goto (pc := 187) (tgt := 191) dX13_isFair_187 rfl (s_zreturn (pc := 191) dX13_isFair_191 rfl (Or.inr rfl) (Nat.zero_le _) (Nat.zero_le _) ⟨_, rfl, h16⟩))))))))) (fun c11 => have h12 := h8.2 c11; s_iload_n (pc := 163) dX13_isFair_163 rfl (s_i2l (pc := 164) dX13_isFair_164 (s_lload (pc := 165) dX13_isFair_165 rfl (s_lmul (pc := 167) dX13_isFair_167 (s_lload_n (pc := 168) dX13_isFair_168 rfl (s_lif_lt (pc := 169) (tgt := 190) dX13_isFair_169 dX13_isFair_170 rfl (fun c17 => have h18 := h12.1 c17; s_iconst (pc := 190) dX13_isFair_190 ci_0 (s_zreturn (pc := 191) dX13_isFair_191 rfl (Or.inl rfl) (Nat.zero_le _) (Nat.zero_le _) ⟨_, rfl, h18⟩)) (fun c19 => have h20 := h12.2 c19; s_goto (pc := 173) (tgt := 186) dX13_isFair_173 rfl (s_iconst (pc := 186) dX13_isFair_186 ci_1 (s_goto (pc := 187) (tgt := 191) dX13_isFair_187 rfl (s_zreturn (pc := 191) dX13_isFair_191 rfl (Or.inr rfl) (Nat.zero_le _) (Nat.zero_le _) ⟨_, rfl, h20⟩))))))))))))))) (fun c3 => have h4 := h.2.2 c3; s_lconst (pc := 17) (v := 0) dX13_isFair_17 rfl (s_lstore (pc := 18) (L1 := [some (.ref x0), some (.int x1), some (.int x2), some (.long x3), none, some (.long x5), none, some (.int x7), some (.long 0), none, none, none]) dX13_isFair_18 (Nat.le_of_ble_eq_true rfl) rfl (s_iconst (pc := 20) dX13_isFair_20 ci_0 (s_istore (pc := 21) (L1 := [some (.ref x0), some (.int x1), some (.int x2), some (.long x3), none, some (.long x5), none, some (.int x7), some (.long 0), none, some (.int 0), none]) dX13_isFair_21 (Nat.le_of_ble_eq_true rfl) rfl (Exists.elim h4 (fun n52 hn => s_sel (L1 := [some (.ref x0), some (.int x1), some (.int x2), some (.long x3), none, some (.long x5), none, some (.int x7), some (.long 0), none, some (.int 0), none]) [true, true, true, true, false, true, false, true, true, false, true, false] rfl (P_lp_X13_isFair_23 ih n52 x0 x1 x2 x3 x5 x7 0 0 M hn)))))))))))
def wp_X13_isFair (p0 : Nat) (p1 : Int32) (p2 : Int32) (M : Mem) (Q : Int32 → Mem → Prop) : Prop := ∃ n53 : Nat, lp_X13_isFair_8 Q n53 p0 p1 p2 0 0 0 M
theorem T_X13_isFair {G : GG} {Q : Int32 → Mem → Prop} {M : Mem} {p0 : Nat} {p1 : Int32} {p2 : Int32} (h : wp_X13_isFair p0 p1 p2 M Q) : PMet G mX13_isFair 1 0 0 [.ref p0, .int p1, .int p2] M (QI Q) :=
  mk_met (by decide) rfl rfl (by
    intro w hw x9 e9
    subst e9
    simp at hw) (Nat.le_of_ble_eq_true rfl) (s_pad (L1 := [some (.ref p0), some (.int p1), some (.int p2), none, none, none, none, none, none, none, none, none]) 12 rfl (s_lconst (pc := 0) (v := 0) dX13_isFair_0 rfl (s_lstore_n (pc := 1) (L1 := [some (.ref p0), some (.int p1), some (.int p2), some (.long 0), none, none, none, none, none, none, none, none]) dX13_isFair_1 (Nat.le_of_ble_eq_true rfl) rfl (s_lconst (pc := 2) (v := 0) dX13_isFair_2 rfl (s_lstore (pc := 3) (L1 := [some (.ref p0), some (.int p1), some (.int p2), some (.long 0), none, some (.long 0), none, none, none, none, none, none]) dX13_isFair_3 (Nat.le_of_ble_eq_true rfl) rfl (s_iconst (pc := 5) dX13_isFair_5 ci_0 (s_istore (pc := 6) (L1 := [some (.ref p0), some (.int p1), some (.int p2), some (.long 0), none, some (.long 0), none, some (.int 0), none, none, none, none]) dX13_isFair_6 (Nat.le_of_ble_eq_true rfl) rfl (Exists.elim h (fun n53 hn => s_sel (L1 := [some (.ref p0), some (.int p1), some (.int p2), some (.long 0), none, some (.long 0), none, some (.int 0), none, none, none, none]) [true, true, true, true, false, true, false, true, false, false, false, false] rfl (P_lp_X13_isFair_8 n53 p0 p1 p2 0 0 0 M hn))))))))))
/-! X13_fairAsk -/
theorem dX13_fairAsk_0 : cod mX13_fairAsk 0 (.iconst 0) 1 := by decide +kernel
theorem dX13_fairAsk_1 : cod mX13_fairAsk 1 (.istore_n 1) 1 := by decide +kernel
theorem dX13_fairAsk_2 : cod mX13_fairAsk 2 (.iload_n 1) 1 := by decide +kernel
theorem dX13_fairAsk_3 : cod mX13_fairAsk 3 (.bipush 100) 2 := by decide +kernel
theorem dX13_fairAsk_5 : cod mX13_fairAsk 5 (.if_icmp .ge 20) 3 := by decide +kernel
theorem dX13_fairAsk_8 : cod mX13_fairAsk 8 (.aload_n 0) 1 := by decide +kernel
theorem dX13_fairAsk_9 : cod mX13_fairAsk 9 (.iload_n 1) 1 := by decide +kernel
theorem dX13_fairAsk_10 : cod mX13_fairAsk 10 (.iconst 1) 1 := by decide +kernel
theorem dX13_fairAsk_11 : cod mX13_fairAsk 11 (.invokevirtual 248) 3 := by decide +kernel
theorem dX13_fairAsk_14 : cod mX13_fairAsk 14 (.ifCond .eq 5) 3 := by decide +kernel
theorem dX13_fairAsk_17 : cod mX13_fairAsk 17 (.iload_n 1) 1 := by decide +kernel
theorem dX13_fairAsk_18 : cod mX13_fairAsk 18 (.ireturn) 1 := by decide +kernel
theorem dX13_fairAsk_19 : cod mX13_fairAsk 19 (.iinc 1 1) 3 := by decide +kernel
theorem dX13_fairAsk_22 : cod mX13_fairAsk 22 (.goto (-20)) 3 := by decide +kernel
theorem dX13_fairAsk_25 : cod mX13_fairAsk 25 (.bipush (-4)) 2 := by decide +kernel
theorem dX13_fairAsk_27 : cod mX13_fairAsk 27 (.ireturn) 1 := by decide +kernel
def lp_X13_fairAsk_2 (Q : Int32 → Mem → Prop) : Nat → Nat → Int32 → Mem → Prop
  | 0 => fun _ _ _ => False
  | n + 1 => fun x0 x1 M => ((100 : Int32) ≤ x1 → Q (-4) M) ∧ (¬ (100 : Int32) ≤ x1 → mK M x0 = 14 ∧ wp_X13_isFair x0 x1 1 M (fun r7 M6 => (r7 = (0 : Int32) → (lp_X13_fairAsk_2 Q n) x0 (x1 + 1) M6) ∧ (¬ r7 = (0 : Int32) → Q x1 M6)))
theorem P_lp_X13_fairAsk_2 {G : GG} {Q : Int32 → Mem → Prop} : ∀ (n : Nat) (x0 : Nat) (x1 : Int32) (M : Mem), lp_X13_fairAsk_2 Q n x0 x1 M → PW G mX13_fairAsk (rmD 2 0 0) (QI Q) 2 [some (.ref x0), some (.int x1)] [] M 0 0 := by
  intro n
  induction n with
  | zero => intro x0 x1 M h; exact h.elim
  | succ n ih =>
    intro x0 x1 M h
    exact (s_iload_n (pc := 2) dX13_fairAsk_2 rfl (s_bipush (pc := 3) dX13_fairAsk_3 cb_100 (s_icmp_ge (pc := 5) (tgt := 25) dX13_fairAsk_5 rfl (fun c1 => have h2 := h.1 c1; s_bipush (pc := 25) dX13_fairAsk_25 cb_m4 (s_ireturn (pc := 27) dX13_fairAsk_27 rfl (Nat.zero_le _) (Nat.zero_le _) ⟨_, rfl, h2⟩)) (fun c3 => have h4 := h.2 c3; s_aload_n (pc := 8) dX13_fairAsk_8 rfl (s_iload_n (pc := 9) dX13_fairAsk_9 rfl (s_iconst (pc := 10) dX13_fairAsk_10 ci_1 (s_callV (pc := 11) (As := [.int x1, .int 1]) (rest := []) (d' := 1) (mc' := 0) (ms' := 0) dX13_fairAsk_11 c_X13_248 (Nat.le_of_ble_eq_true rfl) rfl h4.1 rfl rfl (Nat.le_of_ble_eq_true rfl) (rm_ok rfl rfl) ⟨Nat.le_refl 0, Nat.le_refl 0⟩ (T_X13_isFair h4.2) (kkI (fun r7 M6 h5 => s_if_eq (pc := 14) (tgt := 19) dX13_fairAsk_14 rfl (fun c8 => have h9 := h5.1 c8; s_iinc (pc := 19) (L1 := [some (.ref x0), some (.int (x1 + 1))]) dX13_fairAsk_19 rfl ci_1 (Nat.le_of_ble_eq_true rfl) rfl (s_goto (pc := 22) (tgt := 2) dX13_fairAsk_22 rfl (s_sel (L1 := [some (.ref x0), some (.int (x1 + 1))]) [true, true] rfl (ih x0 (x1 + 1) M6 h9)))) (fun c10 => have h11 := h5.2 c10; s_iload_n (pc := 17) dX13_fairAsk_17 rfl (s_ireturn (pc := 18) dX13_fairAsk_18 rfl (Nat.zero_le _) (Nat.zero_le _) ⟨_, rfl, h11⟩)))))))))))
def wp_X13_fairAsk (p0 : Nat) (M : Mem) (Q : Int32 → Mem → Prop) : Prop := ∃ n12 : Nat, lp_X13_fairAsk_2 Q n12 p0 0 M
theorem T_X13_fairAsk {G : GG} {Q : Int32 → Mem → Prop} {M : Mem} {p0 : Nat} (h : wp_X13_fairAsk p0 M Q) : PMet G mX13_fairAsk 2 0 0 [.ref p0] M (QI Q) :=
  mk_met (by decide) rfl rfl (by
    intro w hw x9 e9
    subst e9
    simp at hw) (Nat.le_of_ble_eq_true rfl) (s_pad (L1 := [some (.ref p0), none]) 2 rfl (s_iconst (pc := 0) dX13_fairAsk_0 ci_0 (s_istore_n (pc := 1) (L1 := [some (.ref p0), some (.int 0)]) dX13_fairAsk_1 (Nat.le_of_ble_eq_true rfl) rfl (Exists.elim h (fun n12 hn => s_sel (L1 := [some (.ref p0), some (.int 0)]) [true, true] rfl (P_lp_X13_fairAsk_2 n12 p0 0 M hn))))))
/-! X13_fairBid -/
theorem dX13_fairBid_0 : cod mX13_fairBid 0 (.bipush 100) 2 := by decide +kernel
theorem dX13_fairBid_2 : cod mX13_fairBid 2 (.istore_n 1) 1 := by decide +kernel
theorem dX13_fairBid_3 : cod mX13_fairBid 3 (.iload_n 1) 1 := by decide +kernel
theorem dX13_fairBid_4 : cod mX13_fairBid 4 (.ifCond .le 20) 3 := by decide +kernel
theorem dX13_fairBid_7 : cod mX13_fairBid 7 (.aload_n 0) 1 := by decide +kernel
theorem dX13_fairBid_8 : cod mX13_fairBid 8 (.iload_n 1) 1 := by decide +kernel
theorem dX13_fairBid_9 : cod mX13_fairBid 9 (.iconst 0) 1 := by decide +kernel
theorem dX13_fairBid_10 : cod mX13_fairBid 10 (.invokevirtual 248) 3 := by decide +kernel
theorem dX13_fairBid_13 : cod mX13_fairBid 13 (.ifCond .eq 5) 3 := by decide +kernel
theorem dX13_fairBid_16 : cod mX13_fairBid 16 (.iload_n 1) 1 := by decide +kernel
theorem dX13_fairBid_17 : cod mX13_fairBid 17 (.ireturn) 1 := by decide +kernel
theorem dX13_fairBid_18 : cod mX13_fairBid 18 (.iinc 1 (-1)) 3 := by decide +kernel
theorem dX13_fairBid_21 : cod mX13_fairBid 21 (.goto (-18)) 3 := by decide +kernel
theorem dX13_fairBid_24 : cod mX13_fairBid 24 (.bipush (-4)) 2 := by decide +kernel
theorem dX13_fairBid_26 : cod mX13_fairBid 26 (.ireturn) 1 := by decide +kernel
def lp_X13_fairBid_3 (Q : Int32 → Mem → Prop) : Nat → Nat → Int32 → Mem → Prop
  | 0 => fun _ _ _ => False
  | n + 1 => fun x0 x1 M => (x1 ≤ (0 : Int32) → Q (-4) M) ∧ (¬ x1 ≤ (0 : Int32) → mK M x0 = 14 ∧ wp_X13_isFair x0 x1 0 M (fun r7 M6 => (r7 = (0 : Int32) → (lp_X13_fairBid_3 Q n) x0 (x1 + (-1)) M6) ∧ (¬ r7 = (0 : Int32) → Q x1 M6)))
theorem P_lp_X13_fairBid_3 {G : GG} {Q : Int32 → Mem → Prop} : ∀ (n : Nat) (x0 : Nat) (x1 : Int32) (M : Mem), lp_X13_fairBid_3 Q n x0 x1 M → PW G mX13_fairBid (rmD 2 0 0) (QI Q) 3 [some (.ref x0), some (.int x1)] [] M 0 0 := by
  intro n
  induction n with
  | zero => intro x0 x1 M h; exact h.elim
  | succ n ih =>
    intro x0 x1 M h
    exact (s_iload_n (pc := 3) dX13_fairBid_3 rfl (s_if_le (pc := 4) (tgt := 24) dX13_fairBid_4 rfl (fun c1 => have h2 := h.1 c1; s_bipush (pc := 24) dX13_fairBid_24 cb_m4 (s_ireturn (pc := 26) dX13_fairBid_26 rfl (Nat.zero_le _) (Nat.zero_le _) ⟨_, rfl, h2⟩)) (fun c3 => have h4 := h.2 c3; s_aload_n (pc := 7) dX13_fairBid_7 rfl (s_iload_n (pc := 8) dX13_fairBid_8 rfl (s_iconst (pc := 9) dX13_fairBid_9 ci_0 (s_callV (pc := 10) (As := [.int x1, .int 0]) (rest := []) (d' := 1) (mc' := 0) (ms' := 0) dX13_fairBid_10 c_X13_248 (Nat.le_of_ble_eq_true rfl) rfl h4.1 rfl rfl (Nat.le_of_ble_eq_true rfl) (rm_ok rfl rfl) ⟨Nat.le_refl 0, Nat.le_refl 0⟩ (T_X13_isFair h4.2) (kkI (fun r7 M6 h5 => s_if_eq (pc := 13) (tgt := 18) dX13_fairBid_13 rfl (fun c8 => have h9 := h5.1 c8; s_iinc (pc := 18) (L1 := [some (.ref x0), some (.int (x1 + (-1)))]) dX13_fairBid_18 rfl ci_m1 (Nat.le_of_ble_eq_true rfl) rfl (s_goto (pc := 21) (tgt := 3) dX13_fairBid_21 rfl (s_sel (L1 := [some (.ref x0), some (.int (x1 + (-1)))]) [true, true] rfl (ih x0 (x1 + (-1)) M6 h9)))) (fun c10 => have h11 := h5.2 c10; s_iload_n (pc := 16) dX13_fairBid_16 rfl (s_ireturn (pc := 17) dX13_fairBid_17 rfl (Nat.zero_le _) (Nat.zero_le _) ⟨_, rfl, h11⟩))))))))))
def wp_X13_fairBid (p0 : Nat) (M : Mem) (Q : Int32 → Mem → Prop) : Prop := ∃ n12 : Nat, lp_X13_fairBid_3 Q n12 p0 100 M
theorem T_X13_fairBid {G : GG} {Q : Int32 → Mem → Prop} {M : Mem} {p0 : Nat} (h : wp_X13_fairBid p0 M Q) : PMet G mX13_fairBid 2 0 0 [.ref p0] M (QI Q) :=
  mk_met (by decide) rfl rfl (by
    intro w hw x9 e9
    subst e9
    simp at hw) (Nat.le_of_ble_eq_true rfl) (s_pad (L1 := [some (.ref p0), none]) 2 rfl (s_bipush (pc := 0) dX13_fairBid_0 cb_100 (s_istore_n (pc := 2) (L1 := [some (.ref p0), some (.int 100)]) dX13_fairBid_2 (Nat.le_of_ble_eq_true rfl) rfl (Exists.elim h (fun n12 hn => s_sel (L1 := [some (.ref p0), some (.int 100)]) [true, true] rfl (P_lp_X13_fairBid_3 n12 p0 100 M hn))))))
/-! X13_apart -/
theorem dX13_apart_0 : cod mX13_apart 0 (.aload_n 0) 1 := by decide +kernel
theorem dX13_apart_1 : cod mX13_apart 1 (.iconst 0) 1 := by decide +kernel
theorem dX13_apart_2 : cod mX13_apart 2 (.putfield 115) 3 := by decide +kernel
theorem dX13_apart_5 : cod mX13_apart 5 (.aload_n 0) 1 := by decide +kernel
theorem dX13_apart_6 : cod mX13_apart 6 (.invokevirtual 228) 3 := by decide +kernel
theorem dX13_apart_9 : cod mX13_apart 9 (.ifCond .ne 9) 3 := by decide +kernel
theorem dX13_apart_12 : cod mX13_apart 12 (.bipush (-3)) 2 := by decide +kernel
theorem dX13_apart_14 : cod mX13_apart 14 (.invokestatic 258) 3 := by decide +kernel
theorem dX13_apart_17 : cod mX13_apart 17 (.ireturn) 1 := by decide +kernel
theorem dX13_apart_18 : cod mX13_apart 18 (.aload_n 0) 1 := by decide +kernel
theorem dX13_apart_19 : cod mX13_apart 19 (.invokevirtual 231) 3 := by decide +kernel
theorem dX13_apart_22 : cod mX13_apart 22 (.aload_n 0) 1 := by decide +kernel
theorem dX13_apart_23 : cod mX13_apart 23 (.invokevirtual 252) 3 := by decide +kernel
theorem dX13_apart_26 : cod mX13_apart 26 (.istore_n 1) 1 := by decide +kernel
theorem dX13_apart_27 : cod mX13_apart 27 (.aload_n 0) 1 := by decide +kernel
theorem dX13_apart_28 : cod mX13_apart 28 (.invokevirtual 255) 3 := by decide +kernel
theorem dX13_apart_31 : cod mX13_apart 31 (.istore_n 2) 1 := by decide +kernel
theorem dX13_apart_32 : cod mX13_apart 32 (.iload_n 1) 1 := by decide +kernel
theorem dX13_apart_33 : cod mX13_apart 33 (.ifCond .lt 7) 3 := by decide +kernel
theorem dX13_apart_36 : cod mX13_apart 36 (.iload_n 2) 1 := by decide +kernel
theorem dX13_apart_37 : cod mX13_apart 37 (.ifCond .ge 11) 3 := by decide +kernel
theorem dX13_apart_40 : cod mX13_apart 40 (.bipush (-4)) 2 := by decide +kernel
theorem dX13_apart_42 : cod mX13_apart 42 (.invokestatic 258) 3 := by decide +kernel
theorem dX13_apart_45 : cod mX13_apart 45 (.goto 6) 3 := by decide +kernel
theorem dX13_apart_48 : cod mX13_apart 48 (.iload_n 1) 1 := by decide +kernel
theorem dX13_apart_49 : cod mX13_apart 49 (.iload_n 2) 1 := by decide +kernel
theorem dX13_apart_50 : cod mX13_apart 50 (.isub) 1 := by decide +kernel
theorem dX13_apart_51 : cod mX13_apart 51 (.ireturn) 1 := by decide +kernel
def jn_X13_apart_40 (Q : Int32 → Mem → Prop) (M : Mem) : Prop := wp_X13_far (-4) M (fun r25 M24 => Q r25 M24)
theorem P_jn_X13_apart_40 {G : GG} {Q : Int32 → Mem → Prop} (M : Mem) (h : jn_X13_apart_40 Q M) : PW G mX13_apart (rmD 3 0 0) (QI Q) 40 [none, none, none] [] M 0 0 := (s_bipush (pc := 40) dX13_apart_40 cb_m4 (s_callS (pc := 42) (As := [.int (-4)]) (rest := []) (d' := 0) (mc' := 0) (ms' := 0) dX13_apart_42 c_X13_258 rfl rfl (Nat.le_of_ble_eq_true rfl) (rm_ok rfl rfl) ⟨Nat.le_refl 0, Nat.le_refl 0⟩ (T_X13_far h) (kkI (fun r25 M24 h23 => s_goto (pc := 45) (tgt := 51) dX13_apart_45 rfl (s_ireturn (pc := 51) dX13_apart_51 rfl (Nat.zero_le _) (Nat.zero_le _) ⟨_, rfl, h23⟩)))))
def wp_X13_apart (p0 : Nat) (M : Mem) (Q : Int32 → Mem → Prop) : Prop := mK M p0 = 14 ∧ ∀ M1 : Mem, M1 = uI M p0 12 0 → wp_X13_isReady p0 M1 (fun r6 M5 => (¬ r6 = (0 : Int32) → mK M5 p0 = 14 ∧ wp_X13_setMind p0 M5 (fun M12 => mK M12 p0 = 14 ∧ wp_X13_fairAsk p0 M12 (fun r15 M14 => mK M14 p0 = 14 ∧ wp_X13_fairBid p0 M14 (fun r18 M17 => (r15 < (0 : Int32) → jn_X13_apart_40 Q M17) ∧ (¬ r15 < (0 : Int32) → ((0 : Int32) ≤ r18 → Q (r15 - r18) M17) ∧ (¬ (0 : Int32) ≤ r18 → jn_X13_apart_40 Q M17)))))) ∧ (r6 = (0 : Int32) → wp_X13_far (-3) M5 (fun r32 M31 => Q r32 M31)))
theorem T_X13_apart {G : GG} {Q : Int32 → Mem → Prop} {M : Mem} {p0 : Nat} (h : wp_X13_apart p0 M Q) : PMet G mX13_apart 3 0 0 [.ref p0] M (QI Q) :=
  mk_met (by decide) rfl rfl (by
    intro w hw x9 e9
    subst e9
    simp at hw) (Nat.le_of_ble_eq_true rfl) (s_pad (L1 := [some (.ref p0), none, none]) 3 rfl (s_aload_n (pc := 0) dX13_apart_0 rfl (s_iconst (pc := 1) dX13_apart_1 ci_0 (s_putI (pc := 2) dX13_apart_2 f_X13_115 (Or.inl rfl) (Or.inl rfl) h.1 (nmM (fun M1 e2 => have h3 := h.2 M1 e2; s_aload_n (pc := 5) dX13_apart_5 rfl (s_callV (pc := 6) (As := []) (rest := []) (d' := 1) (mc' := 0) (ms' := 0) dX13_apart_6 c_X13_228 (Nat.le_of_ble_eq_true rfl) rfl ((congrFun (congrArg mK e2) p0).trans h.1) rfl rfl (Nat.le_of_ble_eq_true rfl) (rm_ok rfl rfl) ⟨Nat.le_refl 0, Nat.le_refl 0⟩ (T_X13_isReady h3) (kkI (fun r6 M5 h4 => s_if_ne (pc := 9) (tgt := 18) dX13_apart_9 rfl (fun c7 => have h8 := h4.1 c7; s_aload_n (pc := 18) dX13_apart_18 rfl (s_callV (pc := 19) (As := []) (rest := []) (d' := 0) (mc' := 0) (ms' := 0) dX13_apart_19 c_X13_231 (Nat.le_of_ble_eq_true rfl) rfl h8.1 rfl rfl (Nat.le_of_ble_eq_true rfl) (rm_ok rfl rfl) ⟨Nat.le_refl 0, Nat.le_refl 0⟩ (T_X13_setMind h8.2) (kkV (fun M12 h11 => s_aload_n (pc := 22) dX13_apart_22 rfl (s_callV (pc := 23) (As := []) (rest := []) (d' := 2) (mc' := 0) (ms' := 0) dX13_apart_23 c_X13_252 (Nat.le_of_ble_eq_true rfl) rfl h11.1 rfl rfl (Nat.le_of_ble_eq_true rfl) (rm_ok rfl rfl) ⟨Nat.le_refl 0, Nat.le_refl 0⟩ (T_X13_fairAsk h11.2) (kkI (fun r15 M14 h13 => s_istore_n (pc := 26) (L1 := [some (.ref p0), some (.int r15), none]) dX13_apart_26 (Nat.le_of_ble_eq_true rfl) rfl (s_aload_n (pc := 27) dX13_apart_27 rfl (s_callV (pc := 28) (As := []) (rest := []) (d' := 2) (mc' := 0) (ms' := 0) dX13_apart_28 c_X13_255 (Nat.le_of_ble_eq_true rfl) rfl h13.1 rfl rfl (Nat.le_of_ble_eq_true rfl) (rm_ok rfl rfl) ⟨Nat.le_refl 0, Nat.le_refl 0⟩ (T_X13_fairBid h13.2) (kkI (fun r18 M17 h16 => s_istore_n (pc := 31) (L1 := [some (.ref p0), some (.int r15), some (.int r18)]) dX13_apart_31 (Nat.le_of_ble_eq_true rfl) rfl (s_iload_n (pc := 32) dX13_apart_32 rfl (s_if_lt (pc := 33) (tgt := 40) dX13_apart_33 rfl (fun c19 => have h20 := h16.1 c19; s_sel (L1 := [none, none, none]) [false, false, false] rfl (P_jn_X13_apart_40 M17 h20)) (fun c21 => have h22 := h16.2 c21; s_iload_n (pc := 36) dX13_apart_36 rfl (s_if_ge (pc := 37) (tgt := 48) dX13_apart_37 rfl (fun c26 => have h27 := h22.1 c26; s_iload_n (pc := 48) dX13_apart_48 rfl (s_iload_n (pc := 49) dX13_apart_49 rfl (s_isub (pc := 50) dX13_apart_50 (s_ireturn (pc := 51) dX13_apart_51 rfl (Nat.zero_le _) (Nat.zero_le _) ⟨_, rfl, h27⟩)))) (fun c28 => have h29 := h22.2 c28; s_sel (L1 := [none, none, none]) [false, false, false] rfl (P_jn_X13_apart_40 M17 h29))))))))))))))))) (fun c9 => have h10 := h4.2 c9; s_bipush (pc := 12) dX13_apart_12 cb_m3 (s_callS (pc := 14) (As := [.int (-3)]) (rest := []) (d' := 0) (mc' := 0) (ms' := 0) dX13_apart_14 c_X13_258 rfl rfl (Nat.le_of_ble_eq_true rfl) (rm_ok rfl rfl) ⟨Nat.le_refl 0, Nat.le_refl 0⟩ (T_X13_far h10) (kkI (fun r32 M31 h30 => s_ireturn (pc := 17) dX13_apart_17 rfl (Nat.zero_le _) (Nat.zero_le _) ⟨_, rfl, h30⟩)))))))))))))
/-! X13_in -/
theorem dX13_in_0 : cod mX13_in 0 (.lload_n 0) 1 := by decide +kernel
theorem dX13_in_1 : cod mX13_in 1 (.lload_n 2) 1 := by decide +kernel
theorem dX13_in_2 : cod mX13_in 2 (.lcmp) 1 := by decide +kernel
theorem dX13_in_3 : cod mX13_in 3 (.ifCond .lt 14) 3 := by decide +kernel
theorem dX13_in_6 : cod mX13_in 6 (.lload_n 0) 1 := by decide +kernel
theorem dX13_in_7 : cod mX13_in 7 (.lload 4) 2 := by decide +kernel
theorem dX13_in_9 : cod mX13_in 9 (.lcmp) 1 := by decide +kernel
theorem dX13_in_10 : cod mX13_in 10 (.ifCond .gt 7) 3 := by decide +kernel
theorem dX13_in_13 : cod mX13_in 13 (.iconst 1) 1 := by decide +kernel
theorem dX13_in_14 : cod mX13_in 14 (.goto 4) 3 := by decide +kernel
theorem dX13_in_17 : cod mX13_in 17 (.iconst 0) 1 := by decide +kernel
theorem dX13_in_18 : cod mX13_in 18 (.ireturn) 1 := by decide +kernel
def wp_X13_in (p0 : Int64) (p1 : Int64) (p2 : Int64) (M : Mem) (Q : Int32 → Mem → Prop) : Prop := (p0 < p1 → Q 0 M) ∧ (¬ p0 < p1 → (p2 < p0 → Q 0 M) ∧ (¬ p2 < p0 → Q 1 M))
theorem T_X13_in {G : GG} {Q : Int32 → Mem → Prop} {M : Mem} {p0 : Int64} {p1 : Int64} {p2 : Int64} (h : wp_X13_in p0 p1 p2 M Q) : PMet G mX13_in 0 0 0 [.long p0, .long p1, .long p2] M (QI Q) :=
  mk_met (by decide) rfl rfl (by
    intro w hw x9 e9
    subst e9
    simp at hw) (Nat.le_of_ble_eq_true rfl) (s_pad (L1 := [some (.long p0), none, some (.long p1), none, some (.long p2), none]) 6 rfl (s_lload_n (pc := 0) dX13_in_0 rfl (s_lload_n (pc := 1) dX13_in_1 rfl (s_lif_lt (pc := 2) (tgt := 17) dX13_in_2 dX13_in_3 rfl (fun c1 => have h2 := h.1 c1; s_iconst (pc := 17) dX13_in_17 ci_0 (s_zreturn (pc := 18) dX13_in_18 rfl (Or.inl rfl) (Nat.zero_le _) (Nat.zero_le _) ⟨_, rfl, h2⟩)) (fun c3 => have h4 := h.2 c3; s_lload_n (pc := 6) dX13_in_6 rfl (s_lload (pc := 7) dX13_in_7 rfl (s_lif_gt (pc := 9) (tgt := 17) dX13_in_9 dX13_in_10 rfl (fun c5 => have h6 := h4.1 c5; s_iconst (pc := 17) dX13_in_17 ci_0 (s_zreturn (pc := 18) dX13_in_18 rfl (Or.inl rfl) (Nat.zero_le _) (Nat.zero_le _) ⟨_, rfl, h6⟩)) (fun c7 => have h8 := h4.2 c7; s_iconst (pc := 13) dX13_in_13 ci_1 (s_goto (pc := 14) (tgt := 18) dX13_in_14 rfl (s_zreturn (pc := 18) dX13_in_18 rfl (Or.inr rfl) (Nat.zero_le _) (Nat.zero_le _) ⟨_, rfl, h8⟩))))))))))
/-! X13_isSlate -/
theorem dX13_isSlate_0 : cod mX13_isSlate 0 (.iload_n 0) 1 := by decide +kernel
theorem dX13_isSlate_1 : cod mX13_isSlate 1 (.i2l) 1 := by decide +kernel
theorem dX13_isSlate_2 : cod mX13_isSlate 2 (.lconst 0) 1 := by decide +kernel
theorem dX13_isSlate_3 : cod mX13_isSlate 3 (.ldc2_w 126) 3 := by decide +kernel
theorem dX13_isSlate_6 : cod mX13_isSlate 6 (.invokestatic 122) 3 := by decide +kernel
theorem dX13_isSlate_9 : cod mX13_isSlate 9 (.ifCond .eq 24) 3 := by decide +kernel
theorem dX13_isSlate_12 : cod mX13_isSlate 12 (.iload_n 1) 1 := by decide +kernel
theorem dX13_isSlate_13 : cod mX13_isSlate 13 (.i2l) 1 := by decide +kernel
theorem dX13_isSlate_14 : cod mX13_isSlate 14 (.lconst 0) 1 := by decide +kernel
theorem dX13_isSlate_15 : cod mX13_isSlate 15 (.ldc2_w 126) 3 := by decide +kernel
theorem dX13_isSlate_18 : cod mX13_isSlate 18 (.invokestatic 122) 3 := by decide +kernel
theorem dX13_isSlate_21 : cod mX13_isSlate 21 (.ifCond .eq 12) 3 := by decide +kernel
theorem dX13_isSlate_24 : cod mX13_isSlate 24 (.iload_n 0) 1 := by decide +kernel
theorem dX13_isSlate_25 : cod mX13_isSlate 25 (.iload_n 1) 1 := by decide +kernel
theorem dX13_isSlate_26 : cod mX13_isSlate 26 (.if_icmp .ge 7) 3 := by decide +kernel
theorem dX13_isSlate_29 : cod mX13_isSlate 29 (.iconst 1) 1 := by decide +kernel
theorem dX13_isSlate_30 : cod mX13_isSlate 30 (.goto 4) 3 := by decide +kernel
theorem dX13_isSlate_33 : cod mX13_isSlate 33 (.iconst 0) 1 := by decide +kernel
theorem dX13_isSlate_34 : cod mX13_isSlate 34 (.ireturn) 1 := by decide +kernel
def wp_X13_isSlate (p0 : Int32) (p1 : Int32) (M : Mem) (Q : Int32 → Mem → Prop) : Prop := wp_X13_in p0.toInt64 0 100 M (fun r3 M2 => (r3 = (0 : Int32) → Q 0 M2) ∧ (¬ r3 = (0 : Int32) → wp_X13_in p1.toInt64 0 100 M2 (fun r10 M9 => (r10 = (0 : Int32) → Q 0 M9) ∧ (¬ r10 = (0 : Int32) → (p1 ≤ p0 → Q 0 M9) ∧ (¬ p1 ≤ p0 → Q 1 M9)))))
theorem T_X13_isSlate {G : GG} {Q : Int32 → Mem → Prop} {M : Mem} {p0 : Int32} {p1 : Int32} (h : wp_X13_isSlate p0 p1 M Q) : PMet G mX13_isSlate 1 0 0 [.int p0, .int p1] M (QI Q) :=
  mk_met (by decide) rfl rfl (by
    intro w hw x9 e9
    subst e9
    simp at hw) (Nat.le_of_ble_eq_true rfl) (s_pad (L1 := [some (.int p0), some (.int p1)]) 2 rfl (s_iload_n (pc := 0) dX13_isSlate_0 rfl (s_i2l (pc := 1) dX13_isSlate_1 (s_lconst (pc := 2) (v := 0) dX13_isSlate_2 rfl (s_ldc2 (pc := 3) dX13_isSlate_3 k_X13_126 (s_callS (pc := 6) (As := [.long p0.toInt64, .long 0, .long 100]) (rest := []) (d' := 0) (mc' := 0) (ms' := 0) dX13_isSlate_6 c_X13_122 rfl rfl (Nat.le_of_ble_eq_true rfl) (rm_ok rfl rfl) ⟨Nat.le_refl 0, Nat.le_refl 0⟩ (T_X13_in h) (kkI (fun r3 M2 h1 => s_if_eq (pc := 9) (tgt := 33) dX13_isSlate_9 rfl (fun c4 => have h5 := h1.1 c4; s_iconst (pc := 33) dX13_isSlate_33 ci_0 (s_zreturn (pc := 34) dX13_isSlate_34 rfl (Or.inl rfl) (Nat.zero_le _) (Nat.zero_le _) ⟨_, rfl, h5⟩)) (fun c6 => have h7 := h1.2 c6; s_iload_n (pc := 12) dX13_isSlate_12 rfl (s_i2l (pc := 13) dX13_isSlate_13 (s_lconst (pc := 14) (v := 0) dX13_isSlate_14 rfl (s_ldc2 (pc := 15) dX13_isSlate_15 k_X13_126 (s_callS (pc := 18) (As := [.long p1.toInt64, .long 0, .long 100]) (rest := []) (d' := 0) (mc' := 0) (ms' := 0) dX13_isSlate_18 c_X13_122 rfl rfl (Nat.le_of_ble_eq_true rfl) (rm_ok rfl rfl) ⟨Nat.le_refl 0, Nat.le_refl 0⟩ (T_X13_in h7) (kkI (fun r10 M9 h8 => s_if_eq (pc := 21) (tgt := 33) dX13_isSlate_21 rfl (fun c11 => have h12 := h8.1 c11; s_iconst (pc := 33) dX13_isSlate_33 ci_0 (s_zreturn (pc := 34) dX13_isSlate_34 rfl (Or.inl rfl) (Nat.zero_le _) (Nat.zero_le _) ⟨_, rfl, h12⟩)) (fun c13 => have h14 := h8.2 c13; s_iload_n (pc := 24) dX13_isSlate_24 rfl (s_iload_n (pc := 25) dX13_isSlate_25 rfl (s_icmp_ge (pc := 26) (tgt := 33) dX13_isSlate_26 rfl (fun c15 => have h16 := h14.1 c15; s_iconst (pc := 33) dX13_isSlate_33 ci_0 (s_zreturn (pc := 34) dX13_isSlate_34 rfl (Or.inl rfl) (Nat.zero_le _) (Nat.zero_le _) ⟨_, rfl, h16⟩)) (fun c17 => have h18 := h14.2 c17; s_iconst (pc := 29) dX13_isSlate_29 ci_1 (s_goto (pc := 30) (tgt := 34) dX13_isSlate_30 rfl (s_zreturn (pc := 34) dX13_isSlate_34 rfl (Or.inr rfl) (Nat.zero_le _) (Nat.zero_le _) ⟨_, rfl, h18⟩)))))))))))))))))))))
/-! X13_meanBeside -/
theorem dX13_meanBeside_0 : cod mX13_meanBeside 0 (.iload_n 2) 1 := by decide +kernel
theorem dX13_meanBeside_1 : cod mX13_meanBeside 1 (.iload 4) 2 := by decide +kernel
theorem dX13_meanBeside_3 : cod mX13_meanBeside 3 (.if_icmp .ge 7) 3 := by decide +kernel
theorem dX13_meanBeside_6 : cod mX13_meanBeside 6 (.iload_n 2) 1 := by decide +kernel
theorem dX13_meanBeside_7 : cod mX13_meanBeside 7 (.goto 5) 3 := by decide +kernel
theorem dX13_meanBeside_10 : cod mX13_meanBeside 10 (.iload 4) 2 := by decide +kernel
theorem dX13_meanBeside_12 : cod mX13_meanBeside 12 (.istore 6) 2 := by decide +kernel
theorem dX13_meanBeside_14 : cod mX13_meanBeside 14 (.iload_n 1) 1 := by decide +kernel
theorem dX13_meanBeside_15 : cod mX13_meanBeside 15 (.iload_n 3) 1 := by decide +kernel
theorem dX13_meanBeside_16 : cod mX13_meanBeside 16 (.if_icmp .le 7) 3 := by decide +kernel
theorem dX13_meanBeside_19 : cod mX13_meanBeside 19 (.iload_n 1) 1 := by decide +kernel
theorem dX13_meanBeside_20 : cod mX13_meanBeside 20 (.goto 4) 3 := by decide +kernel
theorem dX13_meanBeside_23 : cod mX13_meanBeside 23 (.iload_n 3) 1 := by decide +kernel
theorem dX13_meanBeside_24 : cod mX13_meanBeside 24 (.istore 7) 2 := by decide +kernel
theorem dX13_meanBeside_26 : cod mX13_meanBeside 26 (.iload_n 2) 1 := by decide +kernel
theorem dX13_meanBeside_27 : cod mX13_meanBeside 27 (.iload 4) 2 := by decide +kernel
theorem dX13_meanBeside_29 : cod mX13_meanBeside 29 (.if_icmp .lt 14) 3 := by decide +kernel
theorem dX13_meanBeside_32 : cod mX13_meanBeside 32 (.iload 5) 2 := by decide +kernel
theorem dX13_meanBeside_34 : cod mX13_meanBeside 34 (.ifCond .eq 13) 3 := by decide +kernel
theorem dX13_meanBeside_37 : cod mX13_meanBeside 37 (.iload_n 2) 1 := by decide +kernel
theorem dX13_meanBeside_38 : cod mX13_meanBeside 38 (.iload 4) 2 := by decide +kernel
theorem dX13_meanBeside_40 : cod mX13_meanBeside 40 (.if_icmp .ne 7) 3 := by decide +kernel
theorem dX13_meanBeside_43 : cod mX13_meanBeside 43 (.iconst 1) 1 := by decide +kernel
theorem dX13_meanBeside_44 : cod mX13_meanBeside 44 (.goto 4) 3 := by decide +kernel
theorem dX13_meanBeside_47 : cod mX13_meanBeside 47 (.iconst 0) 1 := by decide +kernel
theorem dX13_meanBeside_48 : cod mX13_meanBeside 48 (.istore 8) 2 := by decide +kernel
theorem dX13_meanBeside_50 : cod mX13_meanBeside 50 (.iload_n 1) 1 := by decide +kernel
theorem dX13_meanBeside_51 : cod mX13_meanBeside 51 (.iload_n 3) 1 := by decide +kernel
theorem dX13_meanBeside_52 : cod mX13_meanBeside 52 (.if_icmp .gt 13) 3 := by decide +kernel
theorem dX13_meanBeside_55 : cod mX13_meanBeside 55 (.iload 5) 2 := by decide +kernel
theorem dX13_meanBeside_57 : cod mX13_meanBeside 57 (.ifCond .eq 12) 3 := by decide +kernel
theorem dX13_meanBeside_60 : cod mX13_meanBeside 60 (.iload_n 1) 1 := by decide +kernel
theorem dX13_meanBeside_61 : cod mX13_meanBeside 61 (.iload_n 3) 1 := by decide +kernel
theorem dX13_meanBeside_62 : cod mX13_meanBeside 62 (.if_icmp .ne 7) 3 := by decide +kernel
theorem dX13_meanBeside_65 : cod mX13_meanBeside 65 (.iconst 1) 1 := by decide +kernel
theorem dX13_meanBeside_66 : cod mX13_meanBeside 66 (.goto 4) 3 := by decide +kernel
theorem dX13_meanBeside_69 : cod mX13_meanBeside 69 (.iconst 0) 1 := by decide +kernel
theorem dX13_meanBeside_70 : cod mX13_meanBeside 70 (.istore 9) 2 := by decide +kernel
theorem dX13_meanBeside_72 : cod mX13_meanBeside 72 (.lconst 0) 1 := by decide +kernel
theorem dX13_meanBeside_73 : cod mX13_meanBeside 73 (.lstore 10) 2 := by decide +kernel
theorem dX13_meanBeside_75 : cod mX13_meanBeside 75 (.iconst 0) 1 := by decide +kernel
theorem dX13_meanBeside_76 : cod mX13_meanBeside 76 (.istore 12) 2 := by decide +kernel
theorem dX13_meanBeside_78 : cod mX13_meanBeside 78 (.iload 12) 2 := by decide +kernel
theorem dX13_meanBeside_80 : cod mX13_meanBeside 80 (.aload_n 0) 1 := by decide +kernel
theorem dX13_meanBeside_81 : cod mX13_meanBeside 81 (.getfield 119) 3 := by decide +kernel
theorem dX13_meanBeside_84 : cod mX13_meanBeside 84 (.if_icmp .ge 136) 3 := by decide +kernel
theorem dX13_meanBeside_87 : cod mX13_meanBeside 87 (.iconst 0) 1 := by decide +kernel
theorem dX13_meanBeside_88 : cod mX13_meanBeside 88 (.istore 13) 2 := by decide +kernel
theorem dX13_meanBeside_90 : cod mX13_meanBeside 90 (.iload 13) 2 := by decide +kernel
theorem dX13_meanBeside_92 : cod mX13_meanBeside 92 (.aload_n 0) 1 := by decide +kernel
theorem dX13_meanBeside_93 : cod mX13_meanBeside 93 (.getfield 128) 3 := by decide +kernel
theorem dX13_meanBeside_96 : cod mX13_meanBeside 96 (.if_icmp .ge 118) 3 := by decide +kernel
theorem dX13_meanBeside_99 : cod mX13_meanBeside 99 (.aload_n 0) 1 := by decide +kernel
theorem dX13_meanBeside_100 : cod mX13_meanBeside 100 (.aload_n 0) 1 := by decide +kernel
theorem dX13_meanBeside_101 : cod mX13_meanBeside 101 (.iload 13) 2 := by decide +kernel
theorem dX13_meanBeside_103 : cod mX13_meanBeside 103 (.aload_n 0) 1 := by decide +kernel
theorem dX13_meanBeside_104 : cod mX13_meanBeside 104 (.getfield 13) 3 := by decide +kernel
theorem dX13_meanBeside_107 : cod mX13_meanBeside 107 (.iload 12) 2 := by decide +kernel
theorem dX13_meanBeside_109 : cod mX13_meanBeside 109 (.iaload) 1 := by decide +kernel
theorem dX13_meanBeside_110 : cod mX13_meanBeside 110 (.iload 7) 2 := by decide +kernel
theorem dX13_meanBeside_112 : cod mX13_meanBeside 112 (.iload 6) 2 := by decide +kernel
theorem dX13_meanBeside_114 : cod mX13_meanBeside 114 (.invokevirtual 206) 3 := by decide +kernel
theorem dX13_meanBeside_117 : cod mX13_meanBeside 117 (.iconst 0) 1 := by decide +kernel
theorem dX13_meanBeside_118 : cod mX13_meanBeside 118 (.invokevirtual 210) 3 := by decide +kernel
theorem dX13_meanBeside_121 : cod mX13_meanBeside 121 (.istore 14) 2 := by decide +kernel
theorem dX13_meanBeside_123 : cod mX13_meanBeside 123 (.iload 14) 2 := by decide +kernel
theorem dX13_meanBeside_125 : cod mX13_meanBeside 125 (.iconst 1) 1 := by decide +kernel
theorem dX13_meanBeside_126 : cod mX13_meanBeside 126 (.if_icmp .ne 25) 3 := by decide +kernel
theorem dX13_meanBeside_129 : cod mX13_meanBeside 129 (.iload 8) 2 := by decide +kernel
theorem dX13_meanBeside_131 : cod mX13_meanBeside 131 (.ifCond .eq 20) 3 := by decide +kernel
theorem dX13_meanBeside_134 : cod mX13_meanBeside 134 (.iload_n 2) 1 := by decide +kernel
theorem dX13_meanBeside_135 : cod mX13_meanBeside 135 (.aload_n 0) 1 := by decide +kernel
theorem dX13_meanBeside_136 : cod mX13_meanBeside 136 (.getfield 13) 3 := by decide +kernel
theorem dX13_meanBeside_139 : cod mX13_meanBeside 139 (.iload 12) 2 := by decide +kernel
theorem dX13_meanBeside_141 : cod mX13_meanBeside 141 (.iaload) 1 := by decide +kernel
theorem dX13_meanBeside_142 : cod mX13_meanBeside 142 (.isub) 1 := by decide +kernel
theorem dX13_meanBeside_143 : cod mX13_meanBeside 143 (.aload_n 0) 1 := by decide +kernel
theorem dX13_meanBeside_144 : cod mX13_meanBeside 144 (.getfield 171) 3 := by decide +kernel
theorem dX13_meanBeside_147 : cod mX13_meanBeside 147 (.isub) 1 := by decide +kernel
theorem dX13_meanBeside_148 : cod mX13_meanBeside 148 (.goto 32) 3 := by decide +kernel
theorem dX13_meanBeside_151 : cod mX13_meanBeside 151 (.iload 14) 2 := by decide +kernel
theorem dX13_meanBeside_153 : cod mX13_meanBeside 153 (.iconst 2) 1 := by decide +kernel
theorem dX13_meanBeside_154 : cod mX13_meanBeside 154 (.if_icmp .ne 25) 3 := by decide +kernel
theorem dX13_meanBeside_157 : cod mX13_meanBeside 157 (.iload 9) 2 := by decide +kernel
theorem dX13_meanBeside_159 : cod mX13_meanBeside 159 (.ifCond .eq 20) 3 := by decide +kernel
theorem dX13_meanBeside_162 : cod mX13_meanBeside 162 (.aload_n 0) 1 := by decide +kernel
theorem dX13_meanBeside_163 : cod mX13_meanBeside 163 (.getfield 13) 3 := by decide +kernel
theorem dX13_meanBeside_166 : cod mX13_meanBeside 166 (.iload 12) 2 := by decide +kernel
theorem dX13_meanBeside_168 : cod mX13_meanBeside 168 (.iaload) 1 := by decide +kernel
theorem dX13_meanBeside_169 : cod mX13_meanBeside 169 (.iload_n 1) 1 := by decide +kernel
theorem dX13_meanBeside_170 : cod mX13_meanBeside 170 (.isub) 1 := by decide +kernel
theorem dX13_meanBeside_171 : cod mX13_meanBeside 171 (.aload_n 0) 1 := by decide +kernel
theorem dX13_meanBeside_172 : cod mX13_meanBeside 172 (.getfield 171) 3 := by decide +kernel
theorem dX13_meanBeside_175 : cod mX13_meanBeside 175 (.isub) 1 := by decide +kernel
theorem dX13_meanBeside_176 : cod mX13_meanBeside 176 (.goto 4) 3 := by decide +kernel
theorem dX13_meanBeside_179 : cod mX13_meanBeside 179 (.iconst 0) 1 := by decide +kernel
theorem dX13_meanBeside_180 : cod mX13_meanBeside 180 (.istore 15) 2 := by decide +kernel
theorem dX13_meanBeside_182 : cod mX13_meanBeside 182 (.lload 10) 2 := by decide +kernel
theorem dX13_meanBeside_184 : cod mX13_meanBeside 184 (.aload_n 0) 1 := by decide +kernel
theorem dX13_meanBeside_185 : cod mX13_meanBeside 185 (.getfield 7) 3 := by decide +kernel
theorem dX13_meanBeside_188 : cod mX13_meanBeside 188 (.iload 12) 2 := by decide +kernel
theorem dX13_meanBeside_190 : cod mX13_meanBeside 190 (.iaload) 1 := by decide +kernel
theorem dX13_meanBeside_191 : cod mX13_meanBeside 191 (.i2l) 1 := by decide +kernel
theorem dX13_meanBeside_192 : cod mX13_meanBeside 192 (.aload_n 0) 1 := by decide +kernel
theorem dX13_meanBeside_193 : cod mX13_meanBeside 193 (.getfield 19) 3 := by decide +kernel
theorem dX13_meanBeside_196 : cod mX13_meanBeside 196 (.iload 13) 2 := by decide +kernel
theorem dX13_meanBeside_198 : cod mX13_meanBeside 198 (.iaload) 1 := by decide +kernel
theorem dX13_meanBeside_199 : cod mX13_meanBeside 199 (.i2l) 1 := by decide +kernel
theorem dX13_meanBeside_200 : cod mX13_meanBeside 200 (.lmul) 1 := by decide +kernel
theorem dX13_meanBeside_201 : cod mX13_meanBeside 201 (.iload 15) 2 := by decide +kernel
theorem dX13_meanBeside_203 : cod mX13_meanBeside 203 (.i2l) 1 := by decide +kernel
theorem dX13_meanBeside_204 : cod mX13_meanBeside 204 (.lmul) 1 := by decide +kernel
theorem dX13_meanBeside_205 : cod mX13_meanBeside 205 (.ladd) 1 := by decide +kernel
theorem dX13_meanBeside_206 : cod mX13_meanBeside 206 (.lstore 10) 2 := by decide +kernel
theorem dX13_meanBeside_208 : cod mX13_meanBeside 208 (.iinc 13 1) 3 := by decide +kernel
theorem dX13_meanBeside_211 : cod mX13_meanBeside 211 (.goto (-121)) 3 := by decide +kernel
theorem dX13_meanBeside_214 : cod mX13_meanBeside 214 (.iinc 12 1) 3 := by decide +kernel
theorem dX13_meanBeside_217 : cod mX13_meanBeside 217 (.goto (-139)) 3 := by decide +kernel
theorem dX13_meanBeside_220 : cod mX13_meanBeside 220 (.lload 10) 2 := by decide +kernel
theorem dX13_meanBeside_222 : cod mX13_meanBeside 222 (.lreturn) 1 := by decide +kernel
def jn_X13_meanBeside_180 (K78 : Nat → Int32 → Int32 → Int32 → Int32 → Int32 → Int32 → Int64 → Int32 → Mem → Prop) (K90 : Nat → Int32 → Int32 → Int32 → Int32 → Int32 → Int32 → Int64 → Int32 → Int32 → Mem → Prop) (Q : Int64 → Mem → Prop) (x0 : Nat) (x1 : Int32) (x2 : Int32) (x6 : Int32) (x7 : Int32) (x8 : Int32) (x9 : Int32) (x10 : Int64) (x12 : Int32) (x13 : Int32) (s0 : Int32) (M : Mem) : Prop := mK M x0 = 14 ∧ mK M (mR M x0 1) = 20 ∧ vp_in x12 (mN M (mR M x0 1)) ∧ mK M (mR M x0 5) = 20 ∧ vp_in x13 (mN M (mR M x0 5)) ∧ ∀ y39 : Int64, y39 = x10 + ((((mI M (mR M x0 1) x12.toNatClampNeg).toInt64) * ((mI M (mR M x0 5) x13.toNatClampNeg).toInt64)) * s0.toInt64) → K90 x0 x1 x2 x6 x7 x8 x9 y39 x12 (x13 + 1) M
theorem P_jn_X13_meanBeside_180 {G : GG} {K78 : Nat → Int32 → Int32 → Int32 → Int32 → Int32 → Int32 → Int64 → Int32 → Mem → Prop} {K90 : Nat → Int32 → Int32 → Int32 → Int32 → Int32 → Int32 → Int64 → Int32 → Int32 → Mem → Prop} {Q : Int64 → Mem → Prop} (hK78 : ∀ (x0 : Nat) (x1 : Int32) (x2 : Int32) (x6 : Int32) (x7 : Int32) (x8 : Int32) (x9 : Int32) (x10 : Int64) (x12 : Int32) (M : Mem), K78 x0 x1 x2 x6 x7 x8 x9 x10 x12 M → PW G mX13_meanBeside (rmD 1 0 0) (QJ Q) 78 [some (.ref x0), some (.int x1), some (.int x2), none, none, none, some (.int x6), some (.int x7), some (.int x8), some (.int x9), some (.long x10), none, some (.int x12), none, none, none] [] M 0 0) (hK90 : ∀ (x0 : Nat) (x1 : Int32) (x2 : Int32) (x6 : Int32) (x7 : Int32) (x8 : Int32) (x9 : Int32) (x10 : Int64) (x12 : Int32) (x13 : Int32) (M : Mem), K90 x0 x1 x2 x6 x7 x8 x9 x10 x12 x13 M → PW G mX13_meanBeside (rmD 1 0 0) (QJ Q) 90 [some (.ref x0), some (.int x1), some (.int x2), none, none, none, some (.int x6), some (.int x7), some (.int x8), some (.int x9), some (.long x10), none, some (.int x12), some (.int x13), none, none] [] M 0 0) (x0 : Nat) (x1 : Int32) (x2 : Int32) (x6 : Int32) (x7 : Int32) (x8 : Int32) (x9 : Int32) (x10 : Int64) (x12 : Int32) (x13 : Int32) (s0 : Int32) (M : Mem) (h : jn_X13_meanBeside_180 K78 K90 Q x0 x1 x2 x6 x7 x8 x9 x10 x12 x13 s0 M) : PW G mX13_meanBeside (rmD 1 0 0) (QJ Q) 180 [some (.ref x0), some (.int x1), some (.int x2), none, none, none, some (.int x6), some (.int x7), some (.int x8), some (.int x9), some (.long x10), none, some (.int x12), some (.int x13), none, none] [.int s0] M 0 0 := (s_istore (pc := 180) (L1 := [some (.ref x0), some (.int x1), some (.int x2), none, none, none, some (.int x6), some (.int x7), some (.int x8), some (.int x9), some (.long x10), none, some (.int x12), some (.int x13), none, some (.int s0)]) dX13_meanBeside_180 (Nat.le_of_ble_eq_true rfl) rfl (s_lload (pc := 182) dX13_meanBeside_182 rfl (s_aload_n (pc := 184) dX13_meanBeside_184 rfl (s_getR (pc := 185) dX13_meanBeside_185 f_X13_7 rfl h.1 (s_iload (pc := 188) dX13_meanBeside_188 rfl (s_ial (pc := 190) dX13_meanBeside_190 h.2.1 h.2.2.1 (s_i2l (pc := 191) dX13_meanBeside_191 (s_aload_n (pc := 192) dX13_meanBeside_192 rfl (s_getR (pc := 193) dX13_meanBeside_193 f_X13_19 rfl h.1 (s_iload (pc := 196) dX13_meanBeside_196 rfl (s_ial (pc := 198) dX13_meanBeside_198 h.2.2.2.1 h.2.2.2.2.1 (s_i2l (pc := 199) dX13_meanBeside_199 (s_lmul (pc := 200) dX13_meanBeside_200 (s_iload (pc := 201) dX13_meanBeside_201 rfl (s_i2l (pc := 203) dX13_meanBeside_203 (s_lmul (pc := 204) dX13_meanBeside_204 (s_ladd (pc := 205) dX13_meanBeside_205 (nmJ (fun y39 e40 => have h41 := h.2.2.2.2.2 y39 e40; s_lstore (pc := 206) (L1 := [some (.ref x0), some (.int x1), some (.int x2), none, none, none, some (.int x6), some (.int x7), some (.int x8), some (.int x9), some (.long y39), none, some (.int x12), some (.int x13), none, some (.int s0)]) dX13_meanBeside_206 (Nat.le_of_ble_eq_true rfl) rfl (s_iinc (pc := 208) (L1 := [some (.ref x0), some (.int x1), some (.int x2), none, none, none, some (.int x6), some (.int x7), some (.int x8), some (.int x9), some (.long y39), none, some (.int x12), some (.int (x13 + 1)), none, some (.int s0)]) dX13_meanBeside_208 rfl ci_1 (Nat.le_of_ble_eq_true rfl) rfl (s_goto (pc := 211) (tgt := 90) dX13_meanBeside_211 rfl (s_sel (L1 := [some (.ref x0), some (.int x1), some (.int x2), none, none, none, some (.int x6), some (.int x7), some (.int x8), some (.int x9), some (.long y39), none, some (.int x12), some (.int (x13 + 1)), none, none]) [true, true, true, false, false, false, true, true, true, true, true, false, true, true, false, false] rfl (hK90 x0 x1 x2 x6 x7 x8 x9 y39 x12 (x13 + 1) M h41)))))))))))))))))))))))
def jn_X13_meanBeside_179 (K78 : Nat → Int32 → Int32 → Int32 → Int32 → Int32 → Int32 → Int64 → Int32 → Mem → Prop) (K90 : Nat → Int32 → Int32 → Int32 → Int32 → Int32 → Int32 → Int64 → Int32 → Int32 → Mem → Prop) (Q : Int64 → Mem → Prop) (x0 : Nat) (x1 : Int32) (x2 : Int32) (x6 : Int32) (x7 : Int32) (x8 : Int32) (x9 : Int32) (x10 : Int64) (x12 : Int32) (x13 : Int32) (M : Mem) : Prop := jn_X13_meanBeside_180 K78 K90 Q x0 x1 x2 x6 x7 x8 x9 x10 x12 x13 0 M
theorem P_jn_X13_meanBeside_179 {G : GG} {K78 : Nat → Int32 → Int32 → Int32 → Int32 → Int32 → Int32 → Int64 → Int32 → Mem → Prop} {K90 : Nat → Int32 → Int32 → Int32 → Int32 → Int32 → Int32 → Int64 → Int32 → Int32 → Mem → Prop} {Q : Int64 → Mem → Prop} (hK78 : ∀ (x0 : Nat) (x1 : Int32) (x2 : Int32) (x6 : Int32) (x7 : Int32) (x8 : Int32) (x9 : Int32) (x10 : Int64) (x12 : Int32) (M : Mem), K78 x0 x1 x2 x6 x7 x8 x9 x10 x12 M → PW G mX13_meanBeside (rmD 1 0 0) (QJ Q) 78 [some (.ref x0), some (.int x1), some (.int x2), none, none, none, some (.int x6), some (.int x7), some (.int x8), some (.int x9), some (.long x10), none, some (.int x12), none, none, none] [] M 0 0) (hK90 : ∀ (x0 : Nat) (x1 : Int32) (x2 : Int32) (x6 : Int32) (x7 : Int32) (x8 : Int32) (x9 : Int32) (x10 : Int64) (x12 : Int32) (x13 : Int32) (M : Mem), K90 x0 x1 x2 x6 x7 x8 x9 x10 x12 x13 M → PW G mX13_meanBeside (rmD 1 0 0) (QJ Q) 90 [some (.ref x0), some (.int x1), some (.int x2), none, none, none, some (.int x6), some (.int x7), some (.int x8), some (.int x9), some (.long x10), none, some (.int x12), some (.int x13), none, none] [] M 0 0) (x0 : Nat) (x1 : Int32) (x2 : Int32) (x6 : Int32) (x7 : Int32) (x8 : Int32) (x9 : Int32) (x10 : Int64) (x12 : Int32) (x13 : Int32) (M : Mem) (h : jn_X13_meanBeside_179 K78 K90 Q x0 x1 x2 x6 x7 x8 x9 x10 x12 x13 M) : PW G mX13_meanBeside (rmD 1 0 0) (QJ Q) 179 [some (.ref x0), some (.int x1), some (.int x2), none, none, none, some (.int x6), some (.int x7), some (.int x8), some (.int x9), some (.long x10), none, some (.int x12), some (.int x13), none, none] [] M 0 0 := (s_iconst (pc := 179) dX13_meanBeside_179 ci_0 (s_sel (L1 := [some (.ref x0), some (.int x1), some (.int x2), none, none, none, some (.int x6), some (.int x7), some (.int x8), some (.int x9), some (.long x10), none, some (.int x12), some (.int x13), none, none]) [true, true, true, false, false, false, true, true, true, true, true, false, true, true, false, false] rfl (P_jn_X13_meanBeside_180 hK78 hK90 x0 x1 x2 x6 x7 x8 x9 x10 x12 x13 0 M h)))
def jn_X13_meanBeside_151 (K78 : Nat → Int32 → Int32 → Int32 → Int32 → Int32 → Int32 → Int64 → Int32 → Mem → Prop) (K90 : Nat → Int32 → Int32 → Int32 → Int32 → Int32 → Int32 → Int64 → Int32 → Int32 → Mem → Prop) (Q : Int64 → Mem → Prop) (x0 : Nat) (x1 : Int32) (x2 : Int32) (x6 : Int32) (x7 : Int32) (x8 : Int32) (x9 : Int32) (x10 : Int64) (x12 : Int32) (x13 : Int32) (x14 : Int32) (M : Mem) : Prop := (¬ x14 = (2 : Int32) → jn_X13_meanBeside_179 K78 K90 Q x0 x1 x2 x6 x7 x8 x9 x10 x12 x13 M) ∧ (x14 = (2 : Int32) → (x9 = (0 : Int32) → jn_X13_meanBeside_179 K78 K90 Q x0 x1 x2 x6 x7 x8 x9 x10 x12 x13 M) ∧ (¬ x9 = (0 : Int32) → mK M x0 = 14 ∧ mK M (mR M x0 2) = 20 ∧ vp_in x12 (mN M (mR M x0 2)) ∧ jn_X13_meanBeside_180 K78 K90 Q x0 x1 x2 x6 x7 x8 x9 x10 x12 x13 (((mI M (mR M x0 2) x12.toNatClampNeg) - x1) - (mI M x0 8)) M))
theorem P_jn_X13_meanBeside_151 {G : GG} {K78 : Nat → Int32 → Int32 → Int32 → Int32 → Int32 → Int32 → Int64 → Int32 → Mem → Prop} {K90 : Nat → Int32 → Int32 → Int32 → Int32 → Int32 → Int32 → Int64 → Int32 → Int32 → Mem → Prop} {Q : Int64 → Mem → Prop} (hK78 : ∀ (x0 : Nat) (x1 : Int32) (x2 : Int32) (x6 : Int32) (x7 : Int32) (x8 : Int32) (x9 : Int32) (x10 : Int64) (x12 : Int32) (M : Mem), K78 x0 x1 x2 x6 x7 x8 x9 x10 x12 M → PW G mX13_meanBeside (rmD 1 0 0) (QJ Q) 78 [some (.ref x0), some (.int x1), some (.int x2), none, none, none, some (.int x6), some (.int x7), some (.int x8), some (.int x9), some (.long x10), none, some (.int x12), none, none, none] [] M 0 0) (hK90 : ∀ (x0 : Nat) (x1 : Int32) (x2 : Int32) (x6 : Int32) (x7 : Int32) (x8 : Int32) (x9 : Int32) (x10 : Int64) (x12 : Int32) (x13 : Int32) (M : Mem), K90 x0 x1 x2 x6 x7 x8 x9 x10 x12 x13 M → PW G mX13_meanBeside (rmD 1 0 0) (QJ Q) 90 [some (.ref x0), some (.int x1), some (.int x2), none, none, none, some (.int x6), some (.int x7), some (.int x8), some (.int x9), some (.long x10), none, some (.int x12), some (.int x13), none, none] [] M 0 0) (x0 : Nat) (x1 : Int32) (x2 : Int32) (x6 : Int32) (x7 : Int32) (x8 : Int32) (x9 : Int32) (x10 : Int64) (x12 : Int32) (x13 : Int32) (x14 : Int32) (M : Mem) (h : jn_X13_meanBeside_151 K78 K90 Q x0 x1 x2 x6 x7 x8 x9 x10 x12 x13 x14 M) : PW G mX13_meanBeside (rmD 1 0 0) (QJ Q) 151 [some (.ref x0), some (.int x1), some (.int x2), none, none, none, some (.int x6), some (.int x7), some (.int x8), some (.int x9), some (.long x10), none, some (.int x12), some (.int x13), some (.int x14), none] [] M 0 0 := (s_iload (pc := 151) dX13_meanBeside_151 rfl (s_iconst (pc := 153) dX13_meanBeside_153 ci_2 (s_icmp_ne (pc := 154) (tgt := 179) dX13_meanBeside_154 rfl (fun c35 => have h36 := h.1 c35; s_sel (L1 := [some (.ref x0), some (.int x1), some (.int x2), none, none, none, some (.int x6), some (.int x7), some (.int x8), some (.int x9), some (.long x10), none, some (.int x12), some (.int x13), none, none]) [true, true, true, false, false, false, true, true, true, true, true, false, true, true, false, false] rfl (P_jn_X13_meanBeside_179 hK78 hK90 x0 x1 x2 x6 x7 x8 x9 x10 x12 x13 M h36)) (fun c37 => have h38 := h.2 c37; s_iload (pc := 157) dX13_meanBeside_157 rfl (s_if_eq (pc := 159) (tgt := 179) dX13_meanBeside_159 rfl (fun c42 => have h43 := h38.1 c42; s_sel (L1 := [some (.ref x0), some (.int x1), some (.int x2), none, none, none, some (.int x6), some (.int x7), some (.int x8), some (.int x9), some (.long x10), none, some (.int x12), some (.int x13), none, none]) [true, true, true, false, false, false, true, true, true, true, true, false, true, true, false, false] rfl (P_jn_X13_meanBeside_179 hK78 hK90 x0 x1 x2 x6 x7 x8 x9 x10 x12 x13 M h43)) (fun c44 => have h45 := h38.2 c44; s_aload_n (pc := 162) dX13_meanBeside_162 rfl (s_getR (pc := 163) dX13_meanBeside_163 f_X13_13 rfl h45.1 (s_iload (pc := 166) dX13_meanBeside_166 rfl (s_ial (pc := 168) dX13_meanBeside_168 h45.2.1 h45.2.2.1 (s_iload_n (pc := 169) dX13_meanBeside_169 rfl (s_isub (pc := 170) dX13_meanBeside_170 (s_aload_n (pc := 171) dX13_meanBeside_171 rfl (s_getI (pc := 172) dX13_meanBeside_172 f_X13_171 rfl h45.1 (s_isub (pc := 175) dX13_meanBeside_175 (s_goto (pc := 176) (tgt := 180) dX13_meanBeside_176 rfl (s_sel (L1 := [some (.ref x0), some (.int x1), some (.int x2), none, none, none, some (.int x6), some (.int x7), some (.int x8), some (.int x9), some (.long x10), none, some (.int x12), some (.int x13), none, none]) [true, true, true, false, false, false, true, true, true, true, true, false, true, true, false, false] rfl (P_jn_X13_meanBeside_180 hK78 hK90 x0 x1 x2 x6 x7 x8 x9 x10 x12 x13 (((mI M (mR M x0 2) x12.toNatClampNeg) - x1) - (mI M x0 8)) M h45.2.2.2)))))))))))))))))
def lp_X13_meanBeside_90 (K78 : Nat → Int32 → Int32 → Int32 → Int32 → Int32 → Int32 → Int64 → Int32 → Mem → Prop) (Q : Int64 → Mem → Prop) : Nat → Nat → Int32 → Int32 → Int32 → Int32 → Int32 → Int32 → Int64 → Int32 → Int32 → Mem → Prop
  | 0 => fun _ _ _ _ _ _ _ _ _ _ _ => False
  | n + 1 => fun x0 x1 x2 x6 x7 x8 x9 x10 x12 x13 M => mK M x0 = 14 ∧ ((mI M x0 3) ≤ x13 → K78 x0 x1 x2 x6 x7 x8 x9 x10 (x12 + 1) M) ∧ (¬ (mI M x0 3) ≤ x13 → mK M (mR M x0 2) = 20 ∧ vp_in x12 (mN M (mR M x0 2)) ∧ wp_X13_dealt x0 x13 (mI M (mR M x0 2) x12.toNatClampNeg) x7 x6 M (fun r27 M26 => mK M26 x0 = 14 ∧ wp_X13_allowed x0 r27 0 M26 (fun r30 M29 => (¬ r30 = (1 : Int32) → jn_X13_meanBeside_151 K78 (fun fx0 fx1 fx2 fx6 fx7 fx8 fx9 fx10 fx12 fx13 fM => lp_X13_meanBeside_90 K78 Q n fx0 fx1 fx2 fx6 fx7 fx8 fx9 fx10 fx12 fx13 fM) Q x0 x1 x2 x6 x7 x8 x9 x10 x12 x13 r30 M29) ∧ (r30 = (1 : Int32) → (x8 = (0 : Int32) → jn_X13_meanBeside_151 K78 (fun fx0 fx1 fx2 fx6 fx7 fx8 fx9 fx10 fx12 fx13 fM => lp_X13_meanBeside_90 K78 Q n fx0 fx1 fx2 fx6 fx7 fx8 fx9 fx10 fx12 fx13 fM) Q x0 x1 x2 x6 x7 x8 x9 x10 x12 x13 r30 M29) ∧ (¬ x8 = (0 : Int32) → mK M29 x0 = 14 ∧ mK M29 (mR M29 x0 2) = 20 ∧ vp_in x12 (mN M29 (mR M29 x0 2)) ∧ jn_X13_meanBeside_180 K78 (fun fx0 fx1 fx2 fx6 fx7 fx8 fx9 fx10 fx12 fx13 fM => lp_X13_meanBeside_90 K78 Q n fx0 fx1 fx2 fx6 fx7 fx8 fx9 fx10 fx12 fx13 fM) Q x0 x1 x2 x6 x7 x8 x9 x10 x12 x13 ((x2 - (mI M29 (mR M29 x0 2) x12.toNatClampNeg)) - (mI M29 x0 8)) M29)))))
theorem P_lp_X13_meanBeside_90 {G : GG} {K78 : Nat → Int32 → Int32 → Int32 → Int32 → Int32 → Int32 → Int64 → Int32 → Mem → Prop} {Q : Int64 → Mem → Prop} (hK78 : ∀ (x0 : Nat) (x1 : Int32) (x2 : Int32) (x6 : Int32) (x7 : Int32) (x8 : Int32) (x9 : Int32) (x10 : Int64) (x12 : Int32) (M : Mem), K78 x0 x1 x2 x6 x7 x8 x9 x10 x12 M → PW G mX13_meanBeside (rmD 1 0 0) (QJ Q) 78 [some (.ref x0), some (.int x1), some (.int x2), none, none, none, some (.int x6), some (.int x7), some (.int x8), some (.int x9), some (.long x10), none, some (.int x12), none, none, none] [] M 0 0) : ∀ (n : Nat) (x0 : Nat) (x1 : Int32) (x2 : Int32) (x6 : Int32) (x7 : Int32) (x8 : Int32) (x9 : Int32) (x10 : Int64) (x12 : Int32) (x13 : Int32) (M : Mem), lp_X13_meanBeside_90 K78 Q n x0 x1 x2 x6 x7 x8 x9 x10 x12 x13 M → PW G mX13_meanBeside (rmD 1 0 0) (QJ Q) 90 [some (.ref x0), some (.int x1), some (.int x2), none, none, none, some (.int x6), some (.int x7), some (.int x8), some (.int x9), some (.long x10), none, some (.int x12), some (.int x13), none, none] [] M 0 0 := by
  intro n
  induction n with
  | zero => intro x0 x1 x2 x6 x7 x8 x9 x10 x12 x13 M h; exact h.elim
  | succ n ih =>
    intro x0 x1 x2 x6 x7 x8 x9 x10 x12 x13 M h
    exact (s_iload (pc := 90) dX13_meanBeside_90 rfl (s_aload_n (pc := 92) dX13_meanBeside_92 rfl (s_getI (pc := 93) dX13_meanBeside_93 f_X13_128 rfl h.1 (s_icmp_ge (pc := 96) (tgt := 214) dX13_meanBeside_96 rfl (fun c21 => have h22 := h.2.1 c21; s_iinc (pc := 214) (L1 := [some (.ref x0), some (.int x1), some (.int x2), none, none, none, some (.int x6), some (.int x7), some (.int x8), some (.int x9), some (.long x10), none, some (.int (x12 + 1)), some (.int x13), none, none]) dX13_meanBeside_214 rfl ci_1 (Nat.le_of_ble_eq_true rfl) rfl (s_goto (pc := 217) (tgt := 78) dX13_meanBeside_217 rfl (s_sel (L1 := [some (.ref x0), some (.int x1), some (.int x2), none, none, none, some (.int x6), some (.int x7), some (.int x8), some (.int x9), some (.long x10), none, some (.int (x12 + 1)), none, none, none]) [true, true, true, false, false, false, true, true, true, true, true, false, true, false, false, false] rfl (hK78 x0 x1 x2 x6 x7 x8 x9 x10 (x12 + 1) M h22)))) (fun c23 => have h24 := h.2.2 c23; s_aload_n (pc := 99) dX13_meanBeside_99 rfl (s_aload_n (pc := 100) dX13_meanBeside_100 rfl (s_iload (pc := 101) dX13_meanBeside_101 rfl (s_aload_n (pc := 103) dX13_meanBeside_103 rfl (s_getR (pc := 104) dX13_meanBeside_104 f_X13_13 rfl h.1 (s_iload (pc := 107) dX13_meanBeside_107 rfl (s_ial (pc := 109) dX13_meanBeside_109 h24.1 h24.2.1 (s_iload (pc := 110) dX13_meanBeside_110 rfl (s_iload (pc := 112) dX13_meanBeside_112 rfl (s_callV (pc := 114) (As := [.int x13, .int (mI M (mR M x0 2) x12.toNatClampNeg), .int x7, .int x6]) (rest := [.ref x0]) (d' := 0) (mc' := 0) (ms' := 0) dX13_meanBeside_114 c_X13_206 (Nat.le_of_ble_eq_true rfl) rfl h.1 rfl rfl (Nat.le_of_ble_eq_true rfl) (rm_ok rfl rfl) ⟨Nat.le_refl 0, Nat.le_refl 0⟩ (T_X13_dealt h24.2.2) (kkI (fun r27 M26 h25 => s_iconst (pc := 117) dX13_meanBeside_117 ci_0 (s_callV (pc := 118) (As := [.int r27, .int 0]) (rest := []) (d' := 0) (mc' := 0) (ms' := 0) dX13_meanBeside_118 c_X13_210 (Nat.le_of_ble_eq_true rfl) rfl h25.1 rfl rfl (Nat.le_of_ble_eq_true rfl) (rm_ok rfl rfl) ⟨Nat.le_refl 0, Nat.le_refl 0⟩ (T_X13_allowed h25.2) (kkI (fun r30 M29 h28 => s_istore (pc := 121) (L1 := [some (.ref x0), some (.int x1), some (.int x2), none, none, none, some (.int x6), some (.int x7), some (.int x8), some (.int x9), some (.long x10), none, some (.int x12), some (.int x13), some (.int r30), none]) dX13_meanBeside_121 (Nat.le_of_ble_eq_true rfl) rfl (s_iload (pc := 123) dX13_meanBeside_123 rfl (s_iconst (pc := 125) dX13_meanBeside_125 ci_1 (s_icmp_ne (pc := 126) (tgt := 151) dX13_meanBeside_126 rfl (fun c31 => have h32 := h28.1 c31; s_sel (L1 := [some (.ref x0), some (.int x1), some (.int x2), none, none, none, some (.int x6), some (.int x7), some (.int x8), some (.int x9), some (.long x10), none, some (.int x12), some (.int x13), some (.int r30), none]) [true, true, true, false, false, false, true, true, true, true, true, false, true, true, true, false] rfl (P_jn_X13_meanBeside_151 hK78 ih x0 x1 x2 x6 x7 x8 x9 x10 x12 x13 r30 M29 h32)) (fun c33 => have h34 := h28.2 c33; s_iload (pc := 129) dX13_meanBeside_129 rfl (s_if_eq (pc := 131) (tgt := 151) dX13_meanBeside_131 rfl (fun c46 => have h47 := h34.1 c46; s_sel (L1 := [some (.ref x0), some (.int x1), some (.int x2), none, none, none, some (.int x6), some (.int x7), some (.int x8), some (.int x9), some (.long x10), none, some (.int x12), some (.int x13), some (.int r30), none]) [true, true, true, false, false, false, true, true, true, true, true, false, true, true, true, false] rfl (P_jn_X13_meanBeside_151 hK78 ih x0 x1 x2 x6 x7 x8 x9 x10 x12 x13 r30 M29 h47)) (fun c48 => have h49 := h34.2 c48; s_iload_n (pc := 134) dX13_meanBeside_134 rfl (s_aload_n (pc := 135) dX13_meanBeside_135 rfl (s_getR (pc := 136) dX13_meanBeside_136 f_X13_13 rfl h49.1 (s_iload (pc := 139) dX13_meanBeside_139 rfl (s_ial (pc := 141) dX13_meanBeside_141 h49.2.1 h49.2.2.1 (s_isub (pc := 142) dX13_meanBeside_142 (s_aload_n (pc := 143) dX13_meanBeside_143 rfl (s_getI (pc := 144) dX13_meanBeside_144 f_X13_171 rfl h49.1 (s_isub (pc := 147) dX13_meanBeside_147 (s_goto (pc := 148) (tgt := 180) dX13_meanBeside_148 rfl (s_sel (L1 := [some (.ref x0), some (.int x1), some (.int x2), none, none, none, some (.int x6), some (.int x7), some (.int x8), some (.int x9), some (.long x10), none, some (.int x12), some (.int x13), none, none]) [true, true, true, false, false, false, true, true, true, true, true, false, true, true, false, false] rfl (P_jn_X13_meanBeside_180 hK78 ih x0 x1 x2 x6 x7 x8 x9 x10 x12 x13 ((x2 - (mI M29 (mR M29 x0 2) x12.toNatClampNeg)) - (mI M29 x0 8)) M29 h49.2.2.2))))))))))))))))))))))))))))))))))))
def lp_X13_meanBeside_78 (Q : Int64 → Mem → Prop) : Nat → Nat → Int32 → Int32 → Int32 → Int32 → Int32 → Int32 → Int64 → Int32 → Mem → Prop
  | 0 => fun _ _ _ _ _ _ _ _ _ _ => False
  | n + 1 => fun x0 x1 x2 x6 x7 x8 x9 x10 x12 M => mK M x0 = 14 ∧ ((mI M x0 0) ≤ x12 → Q x10 M) ∧ (¬ (mI M x0 0) ≤ x12 → ∃ n50 : Nat, lp_X13_meanBeside_90 (fun fx0 fx1 fx2 fx6 fx7 fx8 fx9 fx10 fx12 fM => lp_X13_meanBeside_78 Q n fx0 fx1 fx2 fx6 fx7 fx8 fx9 fx10 fx12 fM) Q n50 x0 x1 x2 x6 x7 x8 x9 x10 x12 0 M)
theorem P_lp_X13_meanBeside_78 {G : GG} {Q : Int64 → Mem → Prop} : ∀ (n : Nat) (x0 : Nat) (x1 : Int32) (x2 : Int32) (x6 : Int32) (x7 : Int32) (x8 : Int32) (x9 : Int32) (x10 : Int64) (x12 : Int32) (M : Mem), lp_X13_meanBeside_78 Q n x0 x1 x2 x6 x7 x8 x9 x10 x12 M → PW G mX13_meanBeside (rmD 1 0 0) (QJ Q) 78 [some (.ref x0), some (.int x1), some (.int x2), none, none, none, some (.int x6), some (.int x7), some (.int x8), some (.int x9), some (.long x10), none, some (.int x12), none, none, none] [] M 0 0 := by
  intro n
  induction n with
  | zero => intro x0 x1 x2 x6 x7 x8 x9 x10 x12 M h; exact h.elim
  | succ n ih =>
    intro x0 x1 x2 x6 x7 x8 x9 x10 x12 M h
    exact (s_iload (pc := 78) dX13_meanBeside_78 rfl (s_aload_n (pc := 80) dX13_meanBeside_80 rfl (s_getI (pc := 81) dX13_meanBeside_81 f_X13_119 rfl h.1 (s_icmp_ge (pc := 84) (tgt := 220) dX13_meanBeside_84 rfl (fun c17 => have h18 := h.2.1 c17; s_lload (pc := 220) dX13_meanBeside_220 rfl (s_lreturn (pc := 222) dX13_meanBeside_222 rfl (Nat.zero_le _) (Nat.zero_le _) ⟨_, rfl, h18⟩)) (fun c19 => have h20 := h.2.2 c19; s_iconst (pc := 87) dX13_meanBeside_87 ci_0 (s_istore (pc := 88) (L1 := [some (.ref x0), some (.int x1), some (.int x2), none, none, none, some (.int x6), some (.int x7), some (.int x8), some (.int x9), some (.long x10), none, some (.int x12), some (.int 0), none, none]) dX13_meanBeside_88 (Nat.le_of_ble_eq_true rfl) rfl (Exists.elim h20 (fun n50 hn => s_sel (L1 := [some (.ref x0), some (.int x1), some (.int x2), none, none, none, some (.int x6), some (.int x7), some (.int x8), some (.int x9), some (.long x10), none, some (.int x12), some (.int 0), none, none]) [true, true, true, false, false, false, true, true, true, true, true, false, true, true, false, false] rfl (P_lp_X13_meanBeside_90 ih n50 x0 x1 x2 x6 x7 x8 x9 x10 x12 0 M hn)))))))))
def jn_X13_meanBeside_70 (Q : Int64 → Mem → Prop) (x0 : Nat) (x1 : Int32) (x2 : Int32) (x6 : Int32) (x7 : Int32) (x8 : Int32) (s0 : Int32) (M : Mem) : Prop := ∃ n51 : Nat, lp_X13_meanBeside_78 Q n51 x0 x1 x2 x6 x7 x8 s0 0 0 M
theorem P_jn_X13_meanBeside_70 {G : GG} {Q : Int64 → Mem → Prop} (x0 : Nat) (x1 : Int32) (x2 : Int32) (x6 : Int32) (x7 : Int32) (x8 : Int32) (s0 : Int32) (M : Mem) (h : jn_X13_meanBeside_70 Q x0 x1 x2 x6 x7 x8 s0 M) : PW G mX13_meanBeside (rmD 1 0 0) (QJ Q) 70 [some (.ref x0), some (.int x1), some (.int x2), none, none, none, some (.int x6), some (.int x7), some (.int x8), none, none, none, none, none, none, none] [.int s0] M 0 0 := (s_istore (pc := 70) (L1 := [some (.ref x0), some (.int x1), some (.int x2), none, none, none, some (.int x6), some (.int x7), some (.int x8), some (.int s0), none, none, none, none, none, none]) dX13_meanBeside_70 (Nat.le_of_ble_eq_true rfl) rfl (s_lconst (pc := 72) (v := 0) dX13_meanBeside_72 rfl (s_lstore (pc := 73) (L1 := [some (.ref x0), some (.int x1), some (.int x2), none, none, none, some (.int x6), some (.int x7), some (.int x8), some (.int s0), some (.long 0), none, none, none, none, none]) dX13_meanBeside_73 (Nat.le_of_ble_eq_true rfl) rfl (s_iconst (pc := 75) dX13_meanBeside_75 ci_0 (s_istore (pc := 76) (L1 := [some (.ref x0), some (.int x1), some (.int x2), none, none, none, some (.int x6), some (.int x7), some (.int x8), some (.int s0), some (.long 0), none, some (.int 0), none, none, none]) dX13_meanBeside_76 (Nat.le_of_ble_eq_true rfl) rfl (Exists.elim h (fun n51 hn => s_sel (L1 := [some (.ref x0), some (.int x1), some (.int x2), none, none, none, some (.int x6), some (.int x7), some (.int x8), some (.int s0), some (.long 0), none, some (.int 0), none, none, none]) [true, true, true, false, false, false, true, true, true, true, true, false, true, false, false, false] rfl (P_lp_X13_meanBeside_78 n51 x0 x1 x2 x6 x7 x8 s0 0 0 M hn))))))))
def jn_X13_meanBeside_65 (Q : Int64 → Mem → Prop) (x0 : Nat) (x1 : Int32) (x2 : Int32) (x6 : Int32) (x7 : Int32) (x8 : Int32) (M : Mem) : Prop := jn_X13_meanBeside_70 Q x0 x1 x2 x6 x7 x8 1 M
theorem P_jn_X13_meanBeside_65 {G : GG} {Q : Int64 → Mem → Prop} (x0 : Nat) (x1 : Int32) (x2 : Int32) (x6 : Int32) (x7 : Int32) (x8 : Int32) (M : Mem) (h : jn_X13_meanBeside_65 Q x0 x1 x2 x6 x7 x8 M) : PW G mX13_meanBeside (rmD 1 0 0) (QJ Q) 65 [some (.ref x0), some (.int x1), some (.int x2), none, none, none, some (.int x6), some (.int x7), some (.int x8), none, none, none, none, none, none, none] [] M 0 0 := (s_iconst (pc := 65) dX13_meanBeside_65 ci_1 (s_goto (pc := 66) (tgt := 70) dX13_meanBeside_66 rfl (s_sel (L1 := [some (.ref x0), some (.int x1), some (.int x2), none, none, none, some (.int x6), some (.int x7), some (.int x8), none, none, none, none, none, none, none]) [true, true, true, false, false, false, true, true, true, false, false, false, false, false, false, false] rfl (P_jn_X13_meanBeside_70 x0 x1 x2 x6 x7 x8 1 M h))))
def jn_X13_meanBeside_69 (Q : Int64 → Mem → Prop) (x0 : Nat) (x1 : Int32) (x2 : Int32) (x6 : Int32) (x7 : Int32) (x8 : Int32) (M : Mem) : Prop := jn_X13_meanBeside_70 Q x0 x1 x2 x6 x7 x8 0 M
theorem P_jn_X13_meanBeside_69 {G : GG} {Q : Int64 → Mem → Prop} (x0 : Nat) (x1 : Int32) (x2 : Int32) (x6 : Int32) (x7 : Int32) (x8 : Int32) (M : Mem) (h : jn_X13_meanBeside_69 Q x0 x1 x2 x6 x7 x8 M) : PW G mX13_meanBeside (rmD 1 0 0) (QJ Q) 69 [some (.ref x0), some (.int x1), some (.int x2), none, none, none, some (.int x6), some (.int x7), some (.int x8), none, none, none, none, none, none, none] [] M 0 0 := (s_iconst (pc := 69) dX13_meanBeside_69 ci_0 (s_sel (L1 := [some (.ref x0), some (.int x1), some (.int x2), none, none, none, some (.int x6), some (.int x7), some (.int x8), none, none, none, none, none, none, none]) [true, true, true, false, false, false, true, true, true, false, false, false, false, false, false, false] rfl (P_jn_X13_meanBeside_70 x0 x1 x2 x6 x7 x8 0 M h)))
def jn_X13_meanBeside_48 (Q : Int64 → Mem → Prop) (x0 : Nat) (x1 : Int32) (x2 : Int32) (x3 : Int32) (x5 : Int32) (x6 : Int32) (x7 : Int32) (s0 : Int32) (M : Mem) : Prop := (x3 < x1 → jn_X13_meanBeside_65 Q x0 x1 x2 x6 x7 s0 M) ∧ (¬ x3 < x1 → (x5 = (0 : Int32) → jn_X13_meanBeside_69 Q x0 x1 x2 x6 x7 s0 M) ∧ (¬ x5 = (0 : Int32) → (¬ x1 = x3 → jn_X13_meanBeside_69 Q x0 x1 x2 x6 x7 s0 M) ∧ (x1 = x3 → jn_X13_meanBeside_65 Q x0 x1 x2 x6 x7 s0 M)))
theorem P_jn_X13_meanBeside_48 {G : GG} {Q : Int64 → Mem → Prop} (x0 : Nat) (x1 : Int32) (x2 : Int32) (x3 : Int32) (x5 : Int32) (x6 : Int32) (x7 : Int32) (s0 : Int32) (M : Mem) (h : jn_X13_meanBeside_48 Q x0 x1 x2 x3 x5 x6 x7 s0 M) : PW G mX13_meanBeside (rmD 1 0 0) (QJ Q) 48 [some (.ref x0), some (.int x1), some (.int x2), some (.int x3), none, some (.int x5), some (.int x6), some (.int x7), none, none, none, none, none, none, none, none] [.int s0] M 0 0 := (s_istore (pc := 48) (L1 := [some (.ref x0), some (.int x1), some (.int x2), some (.int x3), none, some (.int x5), some (.int x6), some (.int x7), some (.int s0), none, none, none, none, none, none, none]) dX13_meanBeside_48 (Nat.le_of_ble_eq_true rfl) rfl (s_iload_n (pc := 50) dX13_meanBeside_50 rfl (s_iload_n (pc := 51) dX13_meanBeside_51 rfl (s_icmp_gt (pc := 52) (tgt := 65) dX13_meanBeside_52 rfl (fun c13 => have h14 := h.1 c13; s_sel (L1 := [some (.ref x0), some (.int x1), some (.int x2), none, none, none, some (.int x6), some (.int x7), some (.int s0), none, none, none, none, none, none, none]) [true, true, true, false, false, false, true, true, true, false, false, false, false, false, false, false] rfl (P_jn_X13_meanBeside_65 x0 x1 x2 x6 x7 s0 M h14)) (fun c15 => have h16 := h.2 c15; s_iload (pc := 55) dX13_meanBeside_55 rfl (s_if_eq (pc := 57) (tgt := 69) dX13_meanBeside_57 rfl (fun c52 => have h53 := h16.1 c52; s_sel (L1 := [some (.ref x0), some (.int x1), some (.int x2), none, none, none, some (.int x6), some (.int x7), some (.int s0), none, none, none, none, none, none, none]) [true, true, true, false, false, false, true, true, true, false, false, false, false, false, false, false] rfl (P_jn_X13_meanBeside_69 x0 x1 x2 x6 x7 s0 M h53)) (fun c54 => have h55 := h16.2 c54; s_iload_n (pc := 60) dX13_meanBeside_60 rfl (s_iload_n (pc := 61) dX13_meanBeside_61 rfl (s_icmp_ne (pc := 62) (tgt := 69) dX13_meanBeside_62 rfl (fun c56 => have h57 := h55.1 c56; s_sel (L1 := [some (.ref x0), some (.int x1), some (.int x2), none, none, none, some (.int x6), some (.int x7), some (.int s0), none, none, none, none, none, none, none]) [true, true, true, false, false, false, true, true, true, false, false, false, false, false, false, false] rfl (P_jn_X13_meanBeside_69 x0 x1 x2 x6 x7 s0 M h57)) (fun c58 => have h59 := h55.2 c58; s_sel (L1 := [some (.ref x0), some (.int x1), some (.int x2), none, none, none, some (.int x6), some (.int x7), some (.int s0), none, none, none, none, none, none, none]) [true, true, true, false, false, false, true, true, true, false, false, false, false, false, false, false] rfl (P_jn_X13_meanBeside_65 x0 x1 x2 x6 x7 s0 M h59)))))))))))
def jn_X13_meanBeside_43 (Q : Int64 → Mem → Prop) (x0 : Nat) (x1 : Int32) (x2 : Int32) (x3 : Int32) (x5 : Int32) (x6 : Int32) (x7 : Int32) (M : Mem) : Prop := jn_X13_meanBeside_48 Q x0 x1 x2 x3 x5 x6 x7 1 M
theorem P_jn_X13_meanBeside_43 {G : GG} {Q : Int64 → Mem → Prop} (x0 : Nat) (x1 : Int32) (x2 : Int32) (x3 : Int32) (x5 : Int32) (x6 : Int32) (x7 : Int32) (M : Mem) (h : jn_X13_meanBeside_43 Q x0 x1 x2 x3 x5 x6 x7 M) : PW G mX13_meanBeside (rmD 1 0 0) (QJ Q) 43 [some (.ref x0), some (.int x1), some (.int x2), some (.int x3), none, some (.int x5), some (.int x6), some (.int x7), none, none, none, none, none, none, none, none] [] M 0 0 := (s_iconst (pc := 43) dX13_meanBeside_43 ci_1 (s_goto (pc := 44) (tgt := 48) dX13_meanBeside_44 rfl (s_sel (L1 := [some (.ref x0), some (.int x1), some (.int x2), some (.int x3), none, some (.int x5), some (.int x6), some (.int x7), none, none, none, none, none, none, none, none]) [true, true, true, true, false, true, true, true, false, false, false, false, false, false, false, false] rfl (P_jn_X13_meanBeside_48 x0 x1 x2 x3 x5 x6 x7 1 M h))))
def jn_X13_meanBeside_47 (Q : Int64 → Mem → Prop) (x0 : Nat) (x1 : Int32) (x2 : Int32) (x3 : Int32) (x5 : Int32) (x6 : Int32) (x7 : Int32) (M : Mem) : Prop := jn_X13_meanBeside_48 Q x0 x1 x2 x3 x5 x6 x7 0 M
theorem P_jn_X13_meanBeside_47 {G : GG} {Q : Int64 → Mem → Prop} (x0 : Nat) (x1 : Int32) (x2 : Int32) (x3 : Int32) (x5 : Int32) (x6 : Int32) (x7 : Int32) (M : Mem) (h : jn_X13_meanBeside_47 Q x0 x1 x2 x3 x5 x6 x7 M) : PW G mX13_meanBeside (rmD 1 0 0) (QJ Q) 47 [some (.ref x0), some (.int x1), some (.int x2), some (.int x3), none, some (.int x5), some (.int x6), some (.int x7), none, none, none, none, none, none, none, none] [] M 0 0 := (s_iconst (pc := 47) dX13_meanBeside_47 ci_0 (s_sel (L1 := [some (.ref x0), some (.int x1), some (.int x2), some (.int x3), none, some (.int x5), some (.int x6), some (.int x7), none, none, none, none, none, none, none, none]) [true, true, true, true, false, true, true, true, false, false, false, false, false, false, false, false] rfl (P_jn_X13_meanBeside_48 x0 x1 x2 x3 x5 x6 x7 0 M h)))
def jn_X13_meanBeside_24 (Q : Int64 → Mem → Prop) (x0 : Nat) (x1 : Int32) (x2 : Int32) (x3 : Int32) (x4 : Int32) (x5 : Int32) (x6 : Int32) (s0 : Int32) (M : Mem) : Prop := (x2 < x4 → jn_X13_meanBeside_43 Q x0 x1 x2 x3 x5 x6 s0 M) ∧ (¬ x2 < x4 → (x5 = (0 : Int32) → jn_X13_meanBeside_47 Q x0 x1 x2 x3 x5 x6 s0 M) ∧ (¬ x5 = (0 : Int32) → (¬ x2 = x4 → jn_X13_meanBeside_47 Q x0 x1 x2 x3 x5 x6 s0 M) ∧ (x2 = x4 → jn_X13_meanBeside_43 Q x0 x1 x2 x3 x5 x6 s0 M)))
theorem P_jn_X13_meanBeside_24 {G : GG} {Q : Int64 → Mem → Prop} (x0 : Nat) (x1 : Int32) (x2 : Int32) (x3 : Int32) (x4 : Int32) (x5 : Int32) (x6 : Int32) (s0 : Int32) (M : Mem) (h : jn_X13_meanBeside_24 Q x0 x1 x2 x3 x4 x5 x6 s0 M) : PW G mX13_meanBeside (rmD 1 0 0) (QJ Q) 24 [some (.ref x0), some (.int x1), some (.int x2), some (.int x3), some (.int x4), some (.int x5), some (.int x6), none, none, none, none, none, none, none, none, none] [.int s0] M 0 0 := (s_istore (pc := 24) (L1 := [some (.ref x0), some (.int x1), some (.int x2), some (.int x3), some (.int x4), some (.int x5), some (.int x6), some (.int s0), none, none, none, none, none, none, none, none]) dX13_meanBeside_24 (Nat.le_of_ble_eq_true rfl) rfl (s_iload_n (pc := 26) dX13_meanBeside_26 rfl (s_iload (pc := 27) dX13_meanBeside_27 rfl (s_icmp_lt (pc := 29) (tgt := 43) dX13_meanBeside_29 rfl (fun c9 => have h10 := h.1 c9; s_sel (L1 := [some (.ref x0), some (.int x1), some (.int x2), some (.int x3), none, some (.int x5), some (.int x6), some (.int s0), none, none, none, none, none, none, none, none]) [true, true, true, true, false, true, true, true, false, false, false, false, false, false, false, false] rfl (P_jn_X13_meanBeside_43 x0 x1 x2 x3 x5 x6 s0 M h10)) (fun c11 => have h12 := h.2 c11; s_iload (pc := 32) dX13_meanBeside_32 rfl (s_if_eq (pc := 34) (tgt := 47) dX13_meanBeside_34 rfl (fun c60 => have h61 := h12.1 c60; s_sel (L1 := [some (.ref x0), some (.int x1), some (.int x2), some (.int x3), none, some (.int x5), some (.int x6), some (.int s0), none, none, none, none, none, none, none, none]) [true, true, true, true, false, true, true, true, false, false, false, false, false, false, false, false] rfl (P_jn_X13_meanBeside_47 x0 x1 x2 x3 x5 x6 s0 M h61)) (fun c62 => have h63 := h12.2 c62; s_iload_n (pc := 37) dX13_meanBeside_37 rfl (s_iload (pc := 38) dX13_meanBeside_38 rfl (s_icmp_ne (pc := 40) (tgt := 47) dX13_meanBeside_40 rfl (fun c64 => have h65 := h63.1 c64; s_sel (L1 := [some (.ref x0), some (.int x1), some (.int x2), some (.int x3), none, some (.int x5), some (.int x6), some (.int s0), none, none, none, none, none, none, none, none]) [true, true, true, true, false, true, true, true, false, false, false, false, false, false, false, false] rfl (P_jn_X13_meanBeside_47 x0 x1 x2 x3 x5 x6 s0 M h65)) (fun c66 => have h67 := h63.2 c66; s_sel (L1 := [some (.ref x0), some (.int x1), some (.int x2), some (.int x3), none, some (.int x5), some (.int x6), some (.int s0), none, none, none, none, none, none, none, none]) [true, true, true, true, false, true, true, true, false, false, false, false, false, false, false, false] rfl (P_jn_X13_meanBeside_43 x0 x1 x2 x3 x5 x6 s0 M h67)))))))))))
def jn_X13_meanBeside_12 (Q : Int64 → Mem → Prop) (x0 : Nat) (x1 : Int32) (x2 : Int32) (x3 : Int32) (x4 : Int32) (x5 : Int32) (s0 : Int32) (M : Mem) : Prop := (x1 ≤ x3 → jn_X13_meanBeside_24 Q x0 x1 x2 x3 x4 x5 s0 x3 M) ∧ (¬ x1 ≤ x3 → jn_X13_meanBeside_24 Q x0 x1 x2 x3 x4 x5 s0 x1 M)
theorem P_jn_X13_meanBeside_12 {G : GG} {Q : Int64 → Mem → Prop} (x0 : Nat) (x1 : Int32) (x2 : Int32) (x3 : Int32) (x4 : Int32) (x5 : Int32) (s0 : Int32) (M : Mem) (h : jn_X13_meanBeside_12 Q x0 x1 x2 x3 x4 x5 s0 M) : PW G mX13_meanBeside (rmD 1 0 0) (QJ Q) 12 [some (.ref x0), some (.int x1), some (.int x2), some (.int x3), some (.int x4), some (.int x5), none, none, none, none, none, none, none, none, none, none] [.int s0] M 0 0 := (s_istore (pc := 12) (L1 := [some (.ref x0), some (.int x1), some (.int x2), some (.int x3), some (.int x4), some (.int x5), some (.int s0), none, none, none, none, none, none, none, none, none]) dX13_meanBeside_12 (Nat.le_of_ble_eq_true rfl) rfl (s_iload_n (pc := 14) dX13_meanBeside_14 rfl (s_iload_n (pc := 15) dX13_meanBeside_15 rfl (s_icmp_le (pc := 16) (tgt := 23) dX13_meanBeside_16 rfl (fun c5 => have h6 := h.1 c5; s_iload_n (pc := 23) dX13_meanBeside_23 rfl (s_sel (L1 := [some (.ref x0), some (.int x1), some (.int x2), some (.int x3), some (.int x4), some (.int x5), some (.int s0), none, none, none, none, none, none, none, none, none]) [true, true, true, true, true, true, true, false, false, false, false, false, false, false, false, false] rfl (P_jn_X13_meanBeside_24 x0 x1 x2 x3 x4 x5 s0 x3 M h6))) (fun c7 => have h8 := h.2 c7; s_iload_n (pc := 19) dX13_meanBeside_19 rfl (s_goto (pc := 20) (tgt := 24) dX13_meanBeside_20 rfl (s_sel (L1 := [some (.ref x0), some (.int x1), some (.int x2), some (.int x3), some (.int x4), some (.int x5), some (.int s0), none, none, none, none, none, none, none, none, none]) [true, true, true, true, true, true, true, false, false, false, false, false, false, false, false, false] rfl (P_jn_X13_meanBeside_24 x0 x1 x2 x3 x4 x5 s0 x1 M h8))))))))
def wp_X13_meanBeside (p0 : Nat) (p1 : Int32) (p2 : Int32) (p3 : Int32) (p4 : Int32) (p5 : Int32) (M : Mem) (Q : Int64 → Mem → Prop) : Prop := (p4 ≤ p2 → jn_X13_meanBeside_12 Q p0 p1 p2 p3 p4 p5 p4 M) ∧ (¬ p4 ≤ p2 → jn_X13_meanBeside_12 Q p0 p1 p2 p3 p4 p5 p2 M)
theorem T_X13_meanBeside {G : GG} {Q : Int64 → Mem → Prop} {M : Mem} {p0 : Nat} {p1 : Int32} {p2 : Int32} {p3 : Int32} {p4 : Int32} {p5 : Int32} (h : wp_X13_meanBeside p0 p1 p2 p3 p4 p5 M Q) : PMet G mX13_meanBeside 1 0 0 [.ref p0, .int p1, .int p2, .int p3, .int p4, .int p5] M (QJ Q) :=
  mk_met (by decide) rfl rfl (by
    intro w hw x9 e9
    subst e9
    simp at hw) (Nat.le_of_ble_eq_true rfl) (s_pad (L1 := [some (.ref p0), some (.int p1), some (.int p2), some (.int p3), some (.int p4), some (.int p5), none, none, none, none, none, none, none, none, none, none]) 16 rfl (s_iload_n (pc := 0) dX13_meanBeside_0 rfl (s_iload (pc := 1) dX13_meanBeside_1 rfl (s_icmp_ge (pc := 3) (tgt := 10) dX13_meanBeside_3 rfl (fun c1 => have h2 := h.1 c1; s_iload (pc := 10) dX13_meanBeside_10 rfl (s_sel (L1 := [some (.ref p0), some (.int p1), some (.int p2), some (.int p3), some (.int p4), some (.int p5), none, none, none, none, none, none, none, none, none, none]) [true, true, true, true, true, true, false, false, false, false, false, false, false, false, false, false] rfl (P_jn_X13_meanBeside_12 p0 p1 p2 p3 p4 p5 p4 M h2))) (fun c3 => have h4 := h.2 c3; s_iload_n (pc := 6) dX13_meanBeside_6 rfl (s_goto (pc := 7) (tgt := 12) dX13_meanBeside_7 rfl (s_sel (L1 := [some (.ref p0), some (.int p1), some (.int p2), some (.int p3), some (.int p4), some (.int p5), none, none, none, none, none, none, none, none, none, none]) [true, true, true, true, true, true, false, false, false, false, false, false, false, false, false, false] rfl (P_jn_X13_meanBeside_12 p0 p1 p2 p3 p4 p5 p2 M h4))))))))
