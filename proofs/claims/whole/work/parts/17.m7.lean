/-! X13_openHour -/
theorem dX13_openHour_0 : cod mX13_openHour 0 (.aload_n 0) 1 := by decide +kernel
theorem dX13_openHour_1 : cod mX13_openHour 1 (.iload_n 1) 1 := by decide +kernel
theorem dX13_openHour_2 : cod mX13_openHour 2 (.invokevirtual 298) 3 := by decide +kernel
theorem dX13_openHour_5 : cod mX13_openHour 5 (.aload_n 0) 1 := by decide +kernel
theorem dX13_openHour_6 : cod mX13_openHour 6 (.iload_n 2) 1 := by decide +kernel
theorem dX13_openHour_7 : cod mX13_openHour 7 (.iload_n 3) 1 := by decide +kernel
theorem dX13_openHour_8 : cod mX13_openHour 8 (.aload_n 0) 1 := by decide +kernel
theorem dX13_openHour_9 : cod mX13_openHour 9 (.getfield 60) 3 := by decide +kernel
theorem dX13_openHour_12 : cod mX13_openHour 12 (.iload_n 1) 1 := by decide +kernel
theorem dX13_openHour_13 : cod mX13_openHour 13 (.iaload) 1 := by decide +kernel
theorem dX13_openHour_14 : cod mX13_openHour 14 (.invokevirtual 281) 3 := by decide +kernel
theorem dX13_openHour_17 : cod mX13_openHour 17 (.aload_n 0) 1 := by decide +kernel
theorem dX13_openHour_18 : cod mX13_openHour 18 (.getfield 69) 3 := by decide +kernel
theorem dX13_openHour_21 : cod mX13_openHour 21 (.iload_n 1) 1 := by decide +kernel
theorem dX13_openHour_22 : cod mX13_openHour 22 (.aload_n 0) 1 := by decide +kernel
theorem dX13_openHour_23 : cod mX13_openHour 23 (.getfield 267) 3 := by decide +kernel
theorem dX13_openHour_26 : cod mX13_openHour 26 (.iastore) 1 := by decide +kernel
theorem dX13_openHour_27 : cod mX13_openHour 27 (.aload_n 0) 1 := by decide +kernel
theorem dX13_openHour_28 : cod mX13_openHour 28 (.getfield 72) 3 := by decide +kernel
theorem dX13_openHour_31 : cod mX13_openHour 31 (.iload_n 1) 1 := by decide +kernel
theorem dX13_openHour_32 : cod mX13_openHour 32 (.aload_n 0) 1 := by decide +kernel
theorem dX13_openHour_33 : cod mX13_openHour 33 (.getfield 270) 3 := by decide +kernel
theorem dX13_openHour_36 : cod mX13_openHour 36 (.iastore) 1 := by decide +kernel
theorem dX13_openHour_37 : cod mX13_openHour 37 (.aload_n 0) 1 := by decide +kernel
theorem dX13_openHour_38 : cod mX13_openHour 38 (.getfield 66) 3 := by decide +kernel
theorem dX13_openHour_41 : cod mX13_openHour 41 (.iload_n 1) 1 := by decide +kernel
theorem dX13_openHour_42 : cod mX13_openHour 42 (.iconst (-1)) 1 := by decide +kernel
theorem dX13_openHour_43 : cod mX13_openHour 43 (.iastore) 1 := by decide +kernel
theorem dX13_openHour_44 : cod mX13_openHour 44 (.return_) 1 := by decide +kernel
def wp_X13_openHour (p0 : Nat) (p1 : Int32) (p2 : Int32) (p3 : Int32) (M : Mem) (Q : Mem → Prop) : Prop := mK M p0 = 14 ∧ wp_X13_mindFrom p0 p1 M (fun M2 => mK M2 p0 = 14 ∧ mK M2 (mR M2 p0 29) = 20 ∧ vp_in p1 (mN M2 (mR M2 p0 29)) ∧ wp_X13_call p0 p2 p3 (mI M2 (mR M2 p0 29) p1.toNatClampNeg) M2 (fun M4 => mK M4 p0 = 14 ∧ mK M4 (mR M4 p0 32) = 20 ∧ vp_in p1 (mN M4 (mR M4 p0 32)) ∧ ∀ M5 : Mem, M5 = uI M4 (mR M4 p0 32) p1.toNatClampNeg (mI M4 p0 24) → mK M5 (mR M5 p0 33) = 20 ∧ vp_in p1 (mN M5 (mR M5 p0 33)) ∧ ∀ M8 : Mem, M8 = uI M5 (mR M5 p0 33) p1.toNatClampNeg (mI M5 p0 25) → mK M8 (mR M8 p0 31) = 20 ∧ vp_in p1 (mN M8 (mR M8 p0 31)) ∧ ∀ M11 : Mem, M11 = uI M8 (mR M8 p0 31) p1.toNatClampNeg (-1) → Q M11))
theorem T_X13_openHour {G : GG} {Q : Mem → Prop} {M : Mem} {p0 : Nat} {p1 : Int32} {p2 : Int32} {p3 : Int32} (h : wp_X13_openHour p0 p1 p2 p3 M Q) : PMet G mX13_openHour 4 0 0 [.ref p0, .int p1, .int p2, .int p3] M (QV Q) :=
  mk_met (by decide) rfl rfl (by
    intro w hw x9 e9
    subst e9
    simp at hw) (Nat.le_of_ble_eq_true rfl) (s_pad (L1 := [some (.ref p0), some (.int p1), some (.int p2), some (.int p3)]) 4 rfl (s_aload_n (pc := 0) dX13_openHour_0 rfl (s_iload_n (pc := 1) dX13_openHour_1 rfl (s_callV (pc := 2) (As := [.int p1]) (rest := []) (d' := 0) (mc' := 0) (ms' := 0) dX13_openHour_2 c_X13_298 (Nat.le_of_ble_eq_true rfl) rfl h.1 rfl rfl (Nat.le_of_ble_eq_true rfl) (rm_ok rfl rfl) ⟨Nat.le_refl 0, Nat.le_refl 0⟩ (T_X13_mindFrom h.2) (kkV (fun M2 h1 => s_aload_n (pc := 5) dX13_openHour_5 rfl (s_iload_n (pc := 6) dX13_openHour_6 rfl (s_iload_n (pc := 7) dX13_openHour_7 rfl (s_aload_n (pc := 8) dX13_openHour_8 rfl (s_getR (pc := 9) dX13_openHour_9 f_X13_60 rfl h1.1 (s_iload_n (pc := 12) dX13_openHour_12 rfl (s_ial (pc := 13) dX13_openHour_13 h1.2.1 h1.2.2.1 (s_callV (pc := 14) (As := [.int p2, .int p3, .int (mI M2 (mR M2 p0 29) p1.toNatClampNeg)]) (rest := []) (d' := 3) (mc' := 0) (ms' := 0) dX13_openHour_14 c_X13_281 (Nat.le_of_ble_eq_true rfl) rfl h1.1 rfl rfl (Nat.le_of_ble_eq_true rfl) (rm_ok rfl rfl) ⟨Nat.le_refl 0, Nat.le_refl 0⟩ (T_X13_call h1.2.2.2) (kkV (fun M4 h3 => s_aload_n (pc := 17) dX13_openHour_17 rfl (s_getR (pc := 18) dX13_openHour_18 f_X13_69 rfl h3.1 (s_iload_n (pc := 21) dX13_openHour_21 rfl (s_aload_n (pc := 22) dX13_openHour_22 rfl (s_getI (pc := 23) dX13_openHour_23 f_X13_267 rfl h3.1 (s_ias (pc := 26) dX13_openHour_26 h3.2.1 h3.2.2.1 (nmM (fun M5 e6 => have h7 := (h3.2.2.2) M5 e6; s_aload_n (pc := 27) dX13_openHour_27 rfl (s_getR (pc := 28) dX13_openHour_28 f_X13_72 rfl ((congrFun (congrArg mK e6) p0).trans h3.1) (s_iload_n (pc := 31) dX13_openHour_31 rfl (s_aload_n (pc := 32) dX13_openHour_32 rfl (s_getI (pc := 33) dX13_openHour_33 f_X13_270 rfl ((congrFun (congrArg mK e6) p0).trans h3.1) (s_ias (pc := 36) dX13_openHour_36 h7.1 h7.2.1 (nmM (fun M8 e9 => have h10 := (h7.2.2) M8 e9; s_aload_n (pc := 37) dX13_openHour_37 rfl (s_getR (pc := 38) dX13_openHour_38 f_X13_66 rfl ((congrFun (congrArg mK e9) p0).trans ((congrFun (congrArg mK e6) p0).trans h3.1)) (s_iload_n (pc := 41) dX13_openHour_41 rfl (s_iconst (pc := 42) dX13_openHour_42 ci_m1 (s_ias (pc := 43) dX13_openHour_43 h10.1 h10.2.1 (nmM (fun M11 e12 => have h13 := (h10.2.2) M11 e12; s_return (pc := 44) dX13_openHour_44 rfl (Nat.zero_le _) (Nat.zero_le _) ⟨rfl, h13⟩)))))))))))))))))))))))))))))))))))
/-! X13_divisor -/
theorem dX13_divisor_0 : cod mX13_divisor 0 (.lload_n 0) 1 := by decide +kernel
theorem dX13_divisor_1 : cod mX13_divisor 1 (.lstore 4) 2 := by decide +kernel
theorem dX13_divisor_3 : cod mX13_divisor 3 (.lload_n 2) 1 := by decide +kernel
theorem dX13_divisor_4 : cod mX13_divisor 4 (.lstore 6) 2 := by decide +kernel
theorem dX13_divisor_6 : cod mX13_divisor 6 (.lload 6) 2 := by decide +kernel
theorem dX13_divisor_8 : cod mX13_divisor 8 (.lconst 0) 1 := by decide +kernel
theorem dX13_divisor_9 : cod mX13_divisor 9 (.lcmp) 1 := by decide +kernel
theorem dX13_divisor_10 : cod mX13_divisor 10 (.ifCond .eq 21) 3 := by decide +kernel
theorem dX13_divisor_13 : cod mX13_divisor 13 (.lload 4) 2 := by decide +kernel
theorem dX13_divisor_15 : cod mX13_divisor 15 (.lload 6) 2 := by decide +kernel
theorem dX13_divisor_17 : cod mX13_divisor 17 (.lrem) 1 := by decide +kernel
theorem dX13_divisor_18 : cod mX13_divisor 18 (.lstore 8) 2 := by decide +kernel
theorem dX13_divisor_20 : cod mX13_divisor 20 (.lload 6) 2 := by decide +kernel
theorem dX13_divisor_22 : cod mX13_divisor 22 (.lstore 4) 2 := by decide +kernel
theorem dX13_divisor_24 : cod mX13_divisor 24 (.lload 8) 2 := by decide +kernel
theorem dX13_divisor_26 : cod mX13_divisor 26 (.lstore 6) 2 := by decide +kernel
theorem dX13_divisor_28 : cod mX13_divisor 28 (.goto (-22)) 3 := by decide +kernel
theorem dX13_divisor_31 : cod mX13_divisor 31 (.lload 4) 2 := by decide +kernel
theorem dX13_divisor_33 : cod mX13_divisor 33 (.lreturn) 1 := by decide +kernel
def lp_X13_divisor_6 (Q : Int64 → Mem → Prop) : Nat → Int64 → Int64 → Mem → Prop
  | 0 => fun _ _ _ => False
  | n + 1 => fun x4 x6 M => (x6 = (0 : Int64) → Q x4 M) ∧ (¬ x6 = (0 : Int64) → ¬ x6 = 0 ∧ ∀ y5 : Int64, y5 = x4 - x4 / x6 * x6 → (lp_X13_divisor_6 Q n) x6 y5 M)
theorem P_lp_X13_divisor_6 {G : GG} {Q : Int64 → Mem → Prop} : ∀ (n : Nat) (x4 : Int64) (x6 : Int64) (M : Mem), lp_X13_divisor_6 Q n x4 x6 M → PW G mX13_divisor (rmD 0 0 0) (QJ Q) 6 [none, none, none, none, some (.long x4), none, some (.long x6), none, none, none] [] M 0 0 := by
  intro n
  induction n with
  | zero => intro x4 x6 M h; exact h.elim
  | succ n ih =>
    intro x4 x6 M h
    exact (s_lload (pc := 6) dX13_divisor_6 rfl (s_lconst (pc := 8) (v := 0) dX13_divisor_8 rfl (s_lif_eq (pc := 9) (tgt := 31) dX13_divisor_9 dX13_divisor_10 rfl (fun c1 => have h2 := h.1 c1; s_lload (pc := 31) dX13_divisor_31 rfl (s_lreturn (pc := 33) dX13_divisor_33 rfl (Nat.zero_le _) (Nat.zero_le _) ⟨_, rfl, h2⟩)) (fun c3 => have h4 := h.2 c3; s_lload (pc := 13) dX13_divisor_13 rfl (s_lload (pc := 15) dX13_divisor_15 rfl (s_lrem (pc := 17) dX13_divisor_17 h4.1 (nmJ (fun y5 e6 => have h7 := h4.2 y5 e6; s_lstore (pc := 18) (L1 := [none, none, none, none, some (.long x4), none, some (.long x6), none, some (.long y5), none]) dX13_divisor_18 (Nat.le_of_ble_eq_true rfl) rfl (s_lload (pc := 20) dX13_divisor_20 rfl (s_lstore (pc := 22) (L1 := [none, none, none, none, some (.long x6), none, some (.long x6), none, some (.long y5), none]) dX13_divisor_22 (Nat.le_of_ble_eq_true rfl) rfl (s_lload (pc := 24) dX13_divisor_24 rfl (s_lstore (pc := 26) (L1 := [none, none, none, none, some (.long x6), none, some (.long y5), none, some (.long y5), none]) dX13_divisor_26 (Nat.le_of_ble_eq_true rfl) rfl (s_goto (pc := 28) (tgt := 6) dX13_divisor_28 rfl (s_sel (L1 := [none, none, none, none, some (.long x6), none, some (.long y5), none, none, none]) [false, false, false, false, true, false, true, false, false, false] rfl (ih x6 y5 M h7)))))))))))))))
def wp_X13_divisor (p0 : Int64) (p1 : Int64) (M : Mem) (Q : Int64 → Mem → Prop) : Prop := ∃ n8 : Nat, lp_X13_divisor_6 Q n8 p0 p1 M
theorem T_X13_divisor {G : GG} {Q : Int64 → Mem → Prop} {M : Mem} {p0 : Int64} {p1 : Int64} (h : wp_X13_divisor p0 p1 M Q) : PMet G mX13_divisor 0 0 0 [.long p0, .long p1] M (QJ Q) :=
  mk_met (by decide) rfl rfl (by
    intro w hw x9 e9
    subst e9
    simp at hw) (Nat.le_of_ble_eq_true rfl) (s_pad (L1 := [some (.long p0), none, some (.long p1), none, none, none, none, none, none, none]) 10 rfl (s_lload_n (pc := 0) dX13_divisor_0 rfl (s_lstore (pc := 1) (L1 := [some (.long p0), none, some (.long p1), none, some (.long p0), none, none, none, none, none]) dX13_divisor_1 (Nat.le_of_ble_eq_true rfl) rfl (s_lload_n (pc := 3) dX13_divisor_3 rfl (s_lstore (pc := 4) (L1 := [some (.long p0), none, some (.long p1), none, some (.long p0), none, some (.long p1), none, none, none]) dX13_divisor_4 (Nat.le_of_ble_eq_true rfl) rfl (Exists.elim h (fun n8 hn => s_sel (L1 := [none, none, none, none, some (.long p0), none, some (.long p1), none, none, none]) [false, false, false, false, true, false, true, false, false, false] rfl (P_lp_X13_divisor_6 n8 p0 p1 M hn))))))))
/-! X13_settle -/
theorem dX13_settle_0 : cod mX13_settle 0 (.lconst 0) 1 := by decide +kernel
theorem dX13_settle_1 : cod mX13_settle 1 (.lstore_n 1) 1 := by decide +kernel
theorem dX13_settle_2 : cod mX13_settle 2 (.iconst 0) 1 := by decide +kernel
theorem dX13_settle_3 : cod mX13_settle 3 (.istore_n 3) 1 := by decide +kernel
theorem dX13_settle_4 : cod mX13_settle 4 (.iload_n 3) 1 := by decide +kernel
theorem dX13_settle_5 : cod mX13_settle 5 (.aload_n 0) 1 := by decide +kernel
theorem dX13_settle_6 : cod mX13_settle 6 (.getfield 119) 3 := by decide +kernel
theorem dX13_settle_9 : cod mX13_settle 9 (.if_icmp .ge 20) 3 := by decide +kernel
theorem dX13_settle_12 : cod mX13_settle 12 (.aload_n 0) 1 := by decide +kernel
theorem dX13_settle_13 : cod mX13_settle 13 (.getfield 51) 3 := by decide +kernel
theorem dX13_settle_16 : cod mX13_settle 16 (.iload_n 3) 1 := by decide +kernel
theorem dX13_settle_17 : cod mX13_settle 17 (.laload) 1 := by decide +kernel
theorem dX13_settle_18 : cod mX13_settle 18 (.lload_n 1) 1 := by decide +kernel
theorem dX13_settle_19 : cod mX13_settle 19 (.invokestatic 218) 3 := by decide +kernel
theorem dX13_settle_22 : cod mX13_settle 22 (.lstore_n 1) 1 := by decide +kernel
theorem dX13_settle_23 : cod mX13_settle 23 (.iinc 3 1) 3 := by decide +kernel
theorem dX13_settle_26 : cod mX13_settle 26 (.goto (-22)) 3 := by decide +kernel
theorem dX13_settle_29 : cod mX13_settle 29 (.lload_n 1) 1 := by decide +kernel
theorem dX13_settle_30 : cod mX13_settle 30 (.lconst 0) 1 := by decide +kernel
theorem dX13_settle_31 : cod mX13_settle 31 (.lcmp) 1 := by decide +kernel
theorem dX13_settle_32 : cod mX13_settle 32 (.ifCond .ne 5) 3 := by decide +kernel
theorem dX13_settle_35 : cod mX13_settle 35 (.iconst 0) 1 := by decide +kernel
theorem dX13_settle_36 : cod mX13_settle 36 (.ireturn) 1 := by decide +kernel
theorem dX13_settle_37 : cod mX13_settle 37 (.iconst 0) 1 := by decide +kernel
theorem dX13_settle_38 : cod mX13_settle 38 (.istore_n 3) 1 := by decide +kernel
theorem dX13_settle_39 : cod mX13_settle 39 (.iload_n 3) 1 := by decide +kernel
theorem dX13_settle_40 : cod mX13_settle 40 (.aload_n 0) 1 := by decide +kernel
theorem dX13_settle_41 : cod mX13_settle 41 (.getfield 119) 3 := by decide +kernel
theorem dX13_settle_44 : cod mX13_settle 44 (.if_icmp .ge 19) 3 := by decide +kernel
theorem dX13_settle_47 : cod mX13_settle 47 (.aload_n 0) 1 := by decide +kernel
theorem dX13_settle_48 : cod mX13_settle 48 (.getfield 51) 3 := by decide +kernel
theorem dX13_settle_51 : cod mX13_settle 51 (.iload_n 3) 1 := by decide +kernel
theorem dX13_settle_52 : cod mX13_settle 52 (.dup2) 1 := by decide +kernel
theorem dX13_settle_53 : cod mX13_settle 53 (.laload) 1 := by decide +kernel
theorem dX13_settle_54 : cod mX13_settle 54 (.lload_n 1) 1 := by decide +kernel
theorem dX13_settle_55 : cod mX13_settle 55 (.ldiv) 1 := by decide +kernel
theorem dX13_settle_56 : cod mX13_settle 56 (.lastore) 1 := by decide +kernel
theorem dX13_settle_57 : cod mX13_settle 57 (.iinc 3 1) 3 := by decide +kernel
theorem dX13_settle_60 : cod mX13_settle 60 (.goto (-21)) 3 := by decide +kernel
theorem dX13_settle_63 : cod mX13_settle 63 (.iconst 1) 1 := by decide +kernel
theorem dX13_settle_64 : cod mX13_settle 64 (.istore_n 3) 1 := by decide +kernel
theorem dX13_settle_65 : cod mX13_settle 65 (.iload_n 3) 1 := by decide +kernel
theorem dX13_settle_66 : cod mX13_settle 66 (.ifCond .eq 106) 3 := by decide +kernel
theorem dX13_settle_69 : cod mX13_settle 69 (.iconst 0) 1 := by decide +kernel
theorem dX13_settle_70 : cod mX13_settle 70 (.istore_n 3) 1 := by decide +kernel
theorem dX13_settle_71 : cod mX13_settle 71 (.iconst 0) 1 := by decide +kernel
theorem dX13_settle_72 : cod mX13_settle 72 (.istore 4) 2 := by decide +kernel
theorem dX13_settle_74 : cod mX13_settle 74 (.iload 4) 2 := by decide +kernel
theorem dX13_settle_76 : cod mX13_settle 76 (.aload_n 0) 1 := by decide +kernel
theorem dX13_settle_77 : cod mX13_settle 77 (.getfield 119) 3 := by decide +kernel
theorem dX13_settle_80 : cod mX13_settle 80 (.if_icmp .ge 33) 3 := by decide +kernel
theorem dX13_settle_83 : cod mX13_settle 83 (.iload_n 3) 1 := by decide +kernel
theorem dX13_settle_84 : cod mX13_settle 84 (.ifCond .ne 17) 3 := by decide +kernel
theorem dX13_settle_87 : cod mX13_settle 87 (.aload_n 0) 1 := by decide +kernel
theorem dX13_settle_88 : cod mX13_settle 88 (.getfield 51) 3 := by decide +kernel
theorem dX13_settle_91 : cod mX13_settle 91 (.iload 4) 2 := by decide +kernel
theorem dX13_settle_93 : cod mX13_settle 93 (.laload) 1 := by decide +kernel
theorem dX13_settle_94 : cod mX13_settle 94 (.ldc2_w 222) 3 := by decide +kernel
theorem dX13_settle_97 : cod mX13_settle 97 (.lcmp) 1 := by decide +kernel
theorem dX13_settle_98 : cod mX13_settle 98 (.ifCond .le 7) 3 := by decide +kernel
theorem dX13_settle_101 : cod mX13_settle 101 (.iconst 1) 1 := by decide +kernel
theorem dX13_settle_102 : cod mX13_settle 102 (.goto 4) 3 := by decide +kernel
theorem dX13_settle_105 : cod mX13_settle 105 (.iconst 0) 1 := by decide +kernel
theorem dX13_settle_106 : cod mX13_settle 106 (.istore_n 3) 1 := by decide +kernel
theorem dX13_settle_107 : cod mX13_settle 107 (.iinc 4 1) 3 := by decide +kernel
theorem dX13_settle_110 : cod mX13_settle 110 (.goto (-36)) 3 := by decide +kernel
theorem dX13_settle_113 : cod mX13_settle 113 (.iconst 0) 1 := by decide +kernel
theorem dX13_settle_114 : cod mX13_settle 114 (.istore 4) 2 := by decide +kernel
theorem dX13_settle_116 : cod mX13_settle 116 (.iload 4) 2 := by decide +kernel
theorem dX13_settle_118 : cod mX13_settle 118 (.aload_n 0) 1 := by decide +kernel
theorem dX13_settle_119 : cod mX13_settle 119 (.getfield 119) 3 := by decide +kernel
theorem dX13_settle_122 : cod mX13_settle 122 (.if_icmp .ge 47) 3 := by decide +kernel
theorem dX13_settle_125 : cod mX13_settle 125 (.iload_n 3) 1 := by decide +kernel
theorem dX13_settle_126 : cod mX13_settle 126 (.ifCond .eq 43) 3 := by decide +kernel
theorem dX13_settle_129 : cod mX13_settle 129 (.aload_n 0) 1 := by decide +kernel
theorem dX13_settle_130 : cod mX13_settle 130 (.getfield 51) 3 := by decide +kernel
theorem dX13_settle_133 : cod mX13_settle 133 (.iload 4) 2 := by decide +kernel
theorem dX13_settle_135 : cod mX13_settle 135 (.aload_n 0) 1 := by decide +kernel
theorem dX13_settle_136 : cod mX13_settle 136 (.getfield 51) 3 := by decide +kernel
theorem dX13_settle_139 : cod mX13_settle 139 (.iload 4) 2 := by decide +kernel
theorem dX13_settle_141 : cod mX13_settle 141 (.laload) 1 := by decide +kernel
theorem dX13_settle_142 : cod mX13_settle 142 (.lconst 1) 1 := by decide +kernel
theorem dX13_settle_143 : cod mX13_settle 143 (.lcmp) 1 := by decide +kernel
theorem dX13_settle_144 : cod mX13_settle 144 (.ifCond .ne 7) 3 := by decide +kernel
theorem dX13_settle_147 : cod mX13_settle 147 (.lconst 1) 1 := by decide +kernel
theorem dX13_settle_148 : cod mX13_settle 148 (.goto 14) 3 := by decide +kernel
theorem dX13_settle_151 : cod mX13_settle 151 (.aload_n 0) 1 := by decide +kernel
theorem dX13_settle_152 : cod mX13_settle 152 (.getfield 51) 3 := by decide +kernel
theorem dX13_settle_155 : cod mX13_settle 155 (.iload 4) 2 := by decide +kernel
theorem dX13_settle_157 : cod mX13_settle 157 (.laload) 1 := by decide +kernel
theorem dX13_settle_158 : cod mX13_settle 158 (.ldc2_w 196) 3 := by decide +kernel
theorem dX13_settle_161 : cod mX13_settle 161 (.ldiv) 1 := by decide +kernel
theorem dX13_settle_162 : cod mX13_settle 162 (.lastore) 1 := by decide +kernel
theorem dX13_settle_163 : cod mX13_settle 163 (.iinc 4 1) 3 := by decide +kernel
theorem dX13_settle_166 : cod mX13_settle 166 (.goto (-50)) 3 := by decide +kernel
theorem dX13_settle_169 : cod mX13_settle 169 (.goto (-104)) 3 := by decide +kernel
theorem dX13_settle_172 : cod mX13_settle 172 (.iconst 1) 1 := by decide +kernel
theorem dX13_settle_173 : cod mX13_settle 173 (.ireturn) 1 := by decide +kernel
def jn_X13_settle_169 (K65 : Nat → Int32 → Mem → Prop) (Q : Int32 → Mem → Prop) (x0 : Nat) (x3 : Int32) (M : Mem) : Prop := K65 x0 x3 M
theorem P_jn_X13_settle_169 {G : GG} {K65 : Nat → Int32 → Mem → Prop} {Q : Int32 → Mem → Prop} (hK65 : ∀ (x0 : Nat) (x3 : Int32) (M : Mem), K65 x0 x3 M → PW G mX13_settle (rmD 1 0 0) (QI Q) 65 [some (.ref x0), none, none, some (.int x3), none] [] M 0 0) (x0 : Nat) (x3 : Int32) (M : Mem) (h : jn_X13_settle_169 K65 Q x0 x3 M) : PW G mX13_settle (rmD 1 0 0) (QI Q) 169 [some (.ref x0), none, none, some (.int x3), none] [] M 0 0 := (s_goto (pc := 169) (tgt := 65) dX13_settle_169 rfl (s_sel (L1 := [some (.ref x0), none, none, some (.int x3), none]) [true, false, false, true, false] rfl (hK65 x0 x3 M h)))
def jn_X13_settle_162 (K65 : Nat → Int32 → Mem → Prop) (K116 : Nat → Int32 → Int32 → Mem → Prop) (Q : Int32 → Mem → Prop) (x0 : Nat) (x3 : Int32) (x4 : Int32) (s0 : Int64) (s1 : Int32) (s2 : Nat) (M : Mem) : Prop := mK M s2 = 21 ∧ vp_in s1 (mN M s2) ∧ ∀ M33 : Mem, M33 = uJ M s2 s1.toNatClampNeg s0 → K116 x0 x3 (x4 + 1) M33
theorem P_jn_X13_settle_162 {G : GG} {K65 : Nat → Int32 → Mem → Prop} {K116 : Nat → Int32 → Int32 → Mem → Prop} {Q : Int32 → Mem → Prop} (hK65 : ∀ (x0 : Nat) (x3 : Int32) (M : Mem), K65 x0 x3 M → PW G mX13_settle (rmD 1 0 0) (QI Q) 65 [some (.ref x0), none, none, some (.int x3), none] [] M 0 0) (hK116 : ∀ (x0 : Nat) (x3 : Int32) (x4 : Int32) (M : Mem), K116 x0 x3 x4 M → PW G mX13_settle (rmD 1 0 0) (QI Q) 116 [some (.ref x0), none, none, some (.int x3), some (.int x4)] [] M 0 0) (x0 : Nat) (x3 : Int32) (x4 : Int32) (s0 : Int64) (s1 : Int32) (s2 : Nat) (M : Mem) (h : jn_X13_settle_162 K65 K116 Q x0 x3 x4 s0 s1 s2 M) : PW G mX13_settle (rmD 1 0 0) (QI Q) 162 [some (.ref x0), none, none, some (.int x3), some (.int x4)] [.long s0, .int s1, .ref s2] M 0 0 := (s_las (pc := 162) dX13_settle_162 h.1 h.2.1 (nmM (fun M33 e34 => have h35 := (h.2.2) M33 e34; s_iinc (pc := 163) (L1 := [some (.ref x0), none, none, some (.int x3), some (.int (x4 + 1))]) dX13_settle_163 rfl ci_1 (Nat.le_of_ble_eq_true rfl) rfl (s_goto (pc := 166) (tgt := 116) dX13_settle_166 rfl (s_sel (L1 := [some (.ref x0), none, none, some (.int x3), some (.int (x4 + 1))]) [true, false, false, true, true] rfl (hK116 x0 x3 (x4 + 1) M33 h35))))))
def lp_X13_settle_116 (K65 : Nat → Int32 → Mem → Prop) (Q : Int32 → Mem → Prop) : Nat → Nat → Int32 → Int32 → Mem → Prop
  | 0 => fun _ _ _ _ => False
  | n + 1 => fun x0 x3 x4 M => mK M x0 = 14 ∧ ((mI M x0 0) ≤ x4 → jn_X13_settle_169 K65 Q x0 x3 M) ∧ (¬ (mI M x0 0) ≤ x4 → (x3 = (0 : Int32) → jn_X13_settle_169 K65 Q x0 x3 M) ∧ (¬ x3 = (0 : Int32) → mK M (mR M x0 23) = 21 ∧ vp_in x4 (mN M (mR M x0 23)) ∧ (¬ (mJ M (mR M x0 23) x4.toNatClampNeg) = (1 : Int64) → vp_in x4 (mN M (mR M x0 23)) ∧ jn_X13_settle_162 K65 (fun fx0 fx3 fx4 fM => lp_X13_settle_116 K65 Q n fx0 fx3 fx4 fM) Q x0 x3 x4 ((mJ M (mR M x0 23) x4.toNatClampNeg) / 2) x4 (mR M x0 23) M) ∧ ((mJ M (mR M x0 23) x4.toNatClampNeg) = (1 : Int64) → jn_X13_settle_162 K65 (fun fx0 fx3 fx4 fM => lp_X13_settle_116 K65 Q n fx0 fx3 fx4 fM) Q x0 x3 x4 1 x4 (mR M x0 23) M)))
theorem P_lp_X13_settle_116 {G : GG} {K65 : Nat → Int32 → Mem → Prop} {Q : Int32 → Mem → Prop} (hK65 : ∀ (x0 : Nat) (x3 : Int32) (M : Mem), K65 x0 x3 M → PW G mX13_settle (rmD 1 0 0) (QI Q) 65 [some (.ref x0), none, none, some (.int x3), none] [] M 0 0) : ∀ (n : Nat) (x0 : Nat) (x3 : Int32) (x4 : Int32) (M : Mem), lp_X13_settle_116 K65 Q n x0 x3 x4 M → PW G mX13_settle (rmD 1 0 0) (QI Q) 116 [some (.ref x0), none, none, some (.int x3), some (.int x4)] [] M 0 0 := by
  intro n
  induction n with
  | zero => intro x0 x3 x4 M h; exact h.elim
  | succ n ih =>
    intro x0 x3 x4 M h
    exact (s_iload (pc := 116) dX13_settle_116 rfl (s_aload_n (pc := 118) dX13_settle_118 rfl (s_getI (pc := 119) dX13_settle_119 f_X13_119 rfl h.1 (s_icmp_ge (pc := 122) (tgt := 169) dX13_settle_122 rfl (fun c21 => have h22 := h.2.1 c21; s_sel (L1 := [some (.ref x0), none, none, some (.int x3), none]) [true, false, false, true, false] rfl (P_jn_X13_settle_169 hK65 x0 x3 M h22)) (fun c23 => have h24 := h.2.2 c23; s_iload_n (pc := 125) dX13_settle_125 rfl (s_if_eq (pc := 126) (tgt := 169) dX13_settle_126 rfl (fun c25 => have h26 := h24.1 c25; s_sel (L1 := [some (.ref x0), none, none, some (.int x3), none]) [true, false, false, true, false] rfl (P_jn_X13_settle_169 hK65 x0 x3 M h26)) (fun c27 => have h28 := h24.2 c27; s_aload_n (pc := 129) dX13_settle_129 rfl (s_getR (pc := 130) dX13_settle_130 f_X13_51 rfl h.1 (s_iload (pc := 133) dX13_settle_133 rfl (s_aload_n (pc := 135) dX13_settle_135 rfl (s_getR (pc := 136) dX13_settle_136 f_X13_51 rfl h.1 (s_iload (pc := 139) dX13_settle_139 rfl (s_lal (pc := 141) dX13_settle_141 h28.1 h28.2.1 (s_lconst (pc := 142) (v := 1) dX13_settle_142 rfl (s_lif_ne (pc := 143) (tgt := 151) dX13_settle_143 dX13_settle_144 rfl (fun c29 => have h30 := h28.2.2.1 c29; s_aload_n (pc := 151) dX13_settle_151 rfl (s_getR (pc := 152) dX13_settle_152 f_X13_51 rfl h.1 (s_iload (pc := 155) dX13_settle_155 rfl (s_lal (pc := 157) dX13_settle_157 h28.1 h30.1 (s_ldc2 (pc := 158) dX13_settle_158 k_X13_196 (s_ldiv (pc := 161) dX13_settle_161 (by decide) (s_sel (L1 := [some (.ref x0), none, none, some (.int x3), some (.int x4)]) [true, false, false, true, true] rfl (P_jn_X13_settle_162 hK65 ih x0 x3 x4 ((mJ M (mR M x0 23) x4.toNatClampNeg) / 2) x4 (mR M x0 23) M h30.2)))))))) (fun c31 => have h32 := h28.2.2.2 c31; s_lconst (pc := 147) (v := 1) dX13_settle_147 rfl (s_goto (pc := 148) (tgt := 162) dX13_settle_148 rfl (s_sel (L1 := [some (.ref x0), none, none, some (.int x3), some (.int x4)]) [true, false, false, true, true] rfl (P_jn_X13_settle_162 hK65 ih x0 x3 x4 1 x4 (mR M x0 23) M h32)))))))))))))))))))
def jn_X13_settle_106 (K65 : Nat → Int32 → Mem → Prop) (K74 : Nat → Int32 → Int32 → Mem → Prop) (Q : Int32 → Mem → Prop) (x0 : Nat) (x4 : Int32) (s0 : Int32) (M : Mem) : Prop := K74 x0 s0 (x4 + 1) M
theorem P_jn_X13_settle_106 {G : GG} {K65 : Nat → Int32 → Mem → Prop} {K74 : Nat → Int32 → Int32 → Mem → Prop} {Q : Int32 → Mem → Prop} (hK65 : ∀ (x0 : Nat) (x3 : Int32) (M : Mem), K65 x0 x3 M → PW G mX13_settle (rmD 1 0 0) (QI Q) 65 [some (.ref x0), none, none, some (.int x3), none] [] M 0 0) (hK74 : ∀ (x0 : Nat) (x3 : Int32) (x4 : Int32) (M : Mem), K74 x0 x3 x4 M → PW G mX13_settle (rmD 1 0 0) (QI Q) 74 [some (.ref x0), none, none, some (.int x3), some (.int x4)] [] M 0 0) (x0 : Nat) (x4 : Int32) (s0 : Int32) (M : Mem) (h : jn_X13_settle_106 K65 K74 Q x0 x4 s0 M) : PW G mX13_settle (rmD 1 0 0) (QI Q) 106 [some (.ref x0), none, none, none, some (.int x4)] [.int s0] M 0 0 := (s_istore_n (pc := 106) (L1 := [some (.ref x0), none, none, some (.int s0), some (.int x4)]) dX13_settle_106 (Nat.le_of_ble_eq_true rfl) rfl (s_iinc (pc := 107) (L1 := [some (.ref x0), none, none, some (.int s0), some (.int (x4 + 1))]) dX13_settle_107 rfl ci_1 (Nat.le_of_ble_eq_true rfl) rfl (s_goto (pc := 110) (tgt := 74) dX13_settle_110 rfl (s_sel (L1 := [some (.ref x0), none, none, some (.int s0), some (.int (x4 + 1))]) [true, false, false, true, true] rfl (hK74 x0 s0 (x4 + 1) M h)))))
def jn_X13_settle_101 (K65 : Nat → Int32 → Mem → Prop) (K74 : Nat → Int32 → Int32 → Mem → Prop) (Q : Int32 → Mem → Prop) (x0 : Nat) (x4 : Int32) (M : Mem) : Prop := jn_X13_settle_106 K65 K74 Q x0 x4 1 M
theorem P_jn_X13_settle_101 {G : GG} {K65 : Nat → Int32 → Mem → Prop} {K74 : Nat → Int32 → Int32 → Mem → Prop} {Q : Int32 → Mem → Prop} (hK65 : ∀ (x0 : Nat) (x3 : Int32) (M : Mem), K65 x0 x3 M → PW G mX13_settle (rmD 1 0 0) (QI Q) 65 [some (.ref x0), none, none, some (.int x3), none] [] M 0 0) (hK74 : ∀ (x0 : Nat) (x3 : Int32) (x4 : Int32) (M : Mem), K74 x0 x3 x4 M → PW G mX13_settle (rmD 1 0 0) (QI Q) 74 [some (.ref x0), none, none, some (.int x3), some (.int x4)] [] M 0 0) (x0 : Nat) (x4 : Int32) (M : Mem) (h : jn_X13_settle_101 K65 K74 Q x0 x4 M) : PW G mX13_settle (rmD 1 0 0) (QI Q) 101 [some (.ref x0), none, none, none, some (.int x4)] [] M 0 0 := (s_iconst (pc := 101) dX13_settle_101 ci_1 (s_goto (pc := 102) (tgt := 106) dX13_settle_102 rfl (s_sel (L1 := [some (.ref x0), none, none, none, some (.int x4)]) [true, false, false, false, true] rfl (P_jn_X13_settle_106 hK65 hK74 x0 x4 1 M h))))
def lp_X13_settle_74 (K65 : Nat → Int32 → Mem → Prop) (Q : Int32 → Mem → Prop) : Nat → Nat → Int32 → Int32 → Mem → Prop
  | 0 => fun _ _ _ _ => False
  | n + 1 => fun x0 x3 x4 M => mK M x0 = 14 ∧ ((mI M x0 0) ≤ x4 → ∃ n36 : Nat, lp_X13_settle_116 K65 Q n36 x0 x3 0 M) ∧ (¬ (mI M x0 0) ≤ x4 → (¬ x3 = (0 : Int32) → jn_X13_settle_101 K65 (fun fx0 fx3 fx4 fM => lp_X13_settle_74 K65 Q n fx0 fx3 fx4 fM) Q x0 x4 M) ∧ (x3 = (0 : Int32) → mK M (mR M x0 23) = 21 ∧ vp_in x4 (mN M (mR M x0 23)) ∧ ((mJ M (mR M x0 23) x4.toNatClampNeg) ≤ (100000000000 : Int64) → jn_X13_settle_106 K65 (fun fx0 fx3 fx4 fM => lp_X13_settle_74 K65 Q n fx0 fx3 fx4 fM) Q x0 x4 0 M) ∧ (¬ (mJ M (mR M x0 23) x4.toNatClampNeg) ≤ (100000000000 : Int64) → jn_X13_settle_101 K65 (fun fx0 fx3 fx4 fM => lp_X13_settle_74 K65 Q n fx0 fx3 fx4 fM) Q x0 x4 M)))
theorem P_lp_X13_settle_74 {G : GG} {K65 : Nat → Int32 → Mem → Prop} {Q : Int32 → Mem → Prop} (hK65 : ∀ (x0 : Nat) (x3 : Int32) (M : Mem), K65 x0 x3 M → PW G mX13_settle (rmD 1 0 0) (QI Q) 65 [some (.ref x0), none, none, some (.int x3), none] [] M 0 0) : ∀ (n : Nat) (x0 : Nat) (x3 : Int32) (x4 : Int32) (M : Mem), lp_X13_settle_74 K65 Q n x0 x3 x4 M → PW G mX13_settle (rmD 1 0 0) (QI Q) 74 [some (.ref x0), none, none, some (.int x3), some (.int x4)] [] M 0 0 := by
  intro n
  induction n with
  | zero => intro x0 x3 x4 M h; exact h.elim
  | succ n ih =>
    intro x0 x3 x4 M h
    exact (s_iload (pc := 74) dX13_settle_74 rfl (s_aload_n (pc := 76) dX13_settle_76 rfl (s_getI (pc := 77) dX13_settle_77 f_X13_119 rfl h.1 (s_icmp_ge (pc := 80) (tgt := 113) dX13_settle_80 rfl (fun c17 => have h18 := h.2.1 c17; s_iconst (pc := 113) dX13_settle_113 ci_0 (s_istore (pc := 114) (L1 := [some (.ref x0), none, none, some (.int x3), some (.int 0)]) dX13_settle_114 (Nat.le_of_ble_eq_true rfl) rfl (Exists.elim h18 (fun n36 hn => s_sel (L1 := [some (.ref x0), none, none, some (.int x3), some (.int 0)]) [true, false, false, true, true] rfl (P_lp_X13_settle_116 hK65 n36 x0 x3 0 M hn))))) (fun c19 => have h20 := h.2.2 c19; s_iload_n (pc := 83) dX13_settle_83 rfl (s_if_ne (pc := 84) (tgt := 101) dX13_settle_84 rfl (fun c37 => have h38 := h20.1 c37; s_sel (L1 := [some (.ref x0), none, none, none, some (.int x4)]) [true, false, false, false, true] rfl (P_jn_X13_settle_101 hK65 ih x0 x4 M h38)) (fun c39 => have h40 := h20.2 c39; s_aload_n (pc := 87) dX13_settle_87 rfl (s_getR (pc := 88) dX13_settle_88 f_X13_51 rfl h.1 (s_iload (pc := 91) dX13_settle_91 rfl (s_lal (pc := 93) dX13_settle_93 h40.1 h40.2.1 (s_ldc2 (pc := 94) dX13_settle_94 k_X13_222 (s_lif_le (pc := 97) (tgt := 105) dX13_settle_97 dX13_settle_98 rfl (fun c41 => have h42 := h40.2.2.1 c41; s_iconst (pc := 105) dX13_settle_105 ci_0 (s_sel (L1 := [some (.ref x0), none, none, none, some (.int x4)]) [true, false, false, false, true] rfl (P_jn_X13_settle_106 hK65 ih x0 x4 0 M h42))) (fun c43 => have h44 := h40.2.2.2 c43; s_sel (L1 := [some (.ref x0), none, none, none, some (.int x4)]) [true, false, false, false, true] rfl (P_jn_X13_settle_101 hK65 ih x0 x4 M h44))))))))))))))
def lp_X13_settle_65 (Q : Int32 → Mem → Prop) : Nat → Nat → Int32 → Mem → Prop
  | 0 => fun _ _ _ => False
  | n + 1 => fun x0 x3 M => (x3 = (0 : Int32) → Q 1 M) ∧ (¬ x3 = (0 : Int32) → ∃ n45 : Nat, lp_X13_settle_74 (fun fx0 fx3 fM => lp_X13_settle_65 Q n fx0 fx3 fM) Q n45 x0 0 0 M)
theorem P_lp_X13_settle_65 {G : GG} {Q : Int32 → Mem → Prop} : ∀ (n : Nat) (x0 : Nat) (x3 : Int32) (M : Mem), lp_X13_settle_65 Q n x0 x3 M → PW G mX13_settle (rmD 1 0 0) (QI Q) 65 [some (.ref x0), none, none, some (.int x3), none] [] M 0 0 := by
  intro n
  induction n with
  | zero => intro x0 x3 M h; exact h.elim
  | succ n ih =>
    intro x0 x3 M h
    exact (s_iload_n (pc := 65) dX13_settle_65 rfl (s_if_eq (pc := 66) (tgt := 172) dX13_settle_66 rfl (fun c13 => have h14 := h.1 c13; s_iconst (pc := 172) dX13_settle_172 ci_1 (s_zreturn (pc := 173) dX13_settle_173 rfl (Or.inr rfl) (Nat.zero_le _) (Nat.zero_le _) ⟨_, rfl, h14⟩)) (fun c15 => have h16 := h.2 c15; s_iconst (pc := 69) dX13_settle_69 ci_0 (s_istore_n (pc := 70) (L1 := [some (.ref x0), none, none, some (.int 0), none]) dX13_settle_70 (Nat.le_of_ble_eq_true rfl) rfl (s_iconst (pc := 71) dX13_settle_71 ci_0 (s_istore (pc := 72) (L1 := [some (.ref x0), none, none, some (.int 0), some (.int 0)]) dX13_settle_72 (Nat.le_of_ble_eq_true rfl) rfl (Exists.elim h16 (fun n45 hn => s_sel (L1 := [some (.ref x0), none, none, some (.int 0), some (.int 0)]) [true, false, false, true, true] rfl (P_lp_X13_settle_74 ih n45 x0 0 0 M hn)))))))))
def lp_X13_settle_39 (Q : Int32 → Mem → Prop) : Nat → Nat → Int64 → Int32 → Mem → Prop
  | 0 => fun _ _ _ _ => False
  | n + 1 => fun x0 x1 x3 M => mK M x0 = 14 ∧ ((mI M x0 0) ≤ x3 → ∃ n46 : Nat, lp_X13_settle_65 Q n46 x0 1 M) ∧ (¬ (mI M x0 0) ≤ x3 → mK M (mR M x0 23) = 21 ∧ vp_in x3 (mN M (mR M x0 23)) ∧ ¬ x1 = 0 ∧ vp_in x3 (mN M (mR M x0 23)) ∧ ∀ M47 : Mem, M47 = uJ M (mR M x0 23) x3.toNatClampNeg ((mJ M (mR M x0 23) x3.toNatClampNeg) / x1) → (lp_X13_settle_39 Q n) x0 x1 (x3 + 1) M47)
theorem P_lp_X13_settle_39 {G : GG} {Q : Int32 → Mem → Prop} : ∀ (n : Nat) (x0 : Nat) (x1 : Int64) (x3 : Int32) (M : Mem), lp_X13_settle_39 Q n x0 x1 x3 M → PW G mX13_settle (rmD 1 0 0) (QI Q) 39 [some (.ref x0), some (.long x1), none, some (.int x3), none] [] M 0 0 := by
  intro n
  induction n with
  | zero => intro x0 x1 x3 M h; exact h.elim
  | succ n ih =>
    intro x0 x1 x3 M h
    exact (s_iload_n (pc := 39) dX13_settle_39 rfl (s_aload_n (pc := 40) dX13_settle_40 rfl (s_getI (pc := 41) dX13_settle_41 f_X13_119 rfl h.1 (s_icmp_ge (pc := 44) (tgt := 63) dX13_settle_44 rfl (fun c9 => have h10 := h.2.1 c9; s_iconst (pc := 63) dX13_settle_63 ci_1 (s_istore_n (pc := 64) (L1 := [some (.ref x0), some (.long x1), none, some (.int 1), none]) dX13_settle_64 (Nat.le_of_ble_eq_true rfl) rfl (Exists.elim h10 (fun n46 hn => s_sel (L1 := [some (.ref x0), none, none, some (.int 1), none]) [true, false, false, true, false] rfl (P_lp_X13_settle_65 n46 x0 1 M hn))))) (fun c11 => have h12 := h.2.2 c11; s_aload_n (pc := 47) dX13_settle_47 rfl (s_getR (pc := 48) dX13_settle_48 f_X13_51 rfl h.1 (s_iload_n (pc := 51) dX13_settle_51 rfl (s_dup2 (pc := 52) dX13_settle_52 rfl rfl (s_lal (pc := 53) dX13_settle_53 h12.1 h12.2.1 (s_lload_n (pc := 54) dX13_settle_54 rfl (s_ldiv (pc := 55) dX13_settle_55 h12.2.2.1 (s_las (pc := 56) dX13_settle_56 h12.1 h12.2.2.2.1 (nmM (fun M47 e48 => have h49 := (h12.2.2.2.2) M47 e48; s_iinc (pc := 57) (L1 := [some (.ref x0), some (.long x1), none, some (.int (x3 + 1)), none]) dX13_settle_57 rfl ci_1 (Nat.le_of_ble_eq_true rfl) rfl (s_goto (pc := 60) (tgt := 39) dX13_settle_60 rfl (s_sel (L1 := [some (.ref x0), some (.long x1), none, some (.int (x3 + 1)), none]) [true, true, false, true, false] rfl (ih x0 x1 (x3 + 1) M47 h49)))))))))))))))))
def lp_X13_settle_4 (Q : Int32 → Mem → Prop) : Nat → Nat → Int64 → Int32 → Mem → Prop
  | 0 => fun _ _ _ _ => False
  | n + 1 => fun x0 x1 x3 M => mK M x0 = 14 ∧ ((mI M x0 0) ≤ x3 → (¬ x1 = (0 : Int64) → ∃ n50 : Nat, lp_X13_settle_39 Q n50 x0 x1 0 M) ∧ (x1 = (0 : Int64) → Q 0 M)) ∧ (¬ (mI M x0 0) ≤ x3 → mK M (mR M x0 23) = 21 ∧ vp_in x3 (mN M (mR M x0 23)) ∧ wp_X13_divisor (mJ M (mR M x0 23) x3.toNatClampNeg) x1 M (fun r53 M52 => (lp_X13_settle_4 Q n) x0 r53 (x3 + 1) M52))
theorem P_lp_X13_settle_4 {G : GG} {Q : Int32 → Mem → Prop} : ∀ (n : Nat) (x0 : Nat) (x1 : Int64) (x3 : Int32) (M : Mem), lp_X13_settle_4 Q n x0 x1 x3 M → PW G mX13_settle (rmD 1 0 0) (QI Q) 4 [some (.ref x0), some (.long x1), none, some (.int x3), none] [] M 0 0 := by
  intro n
  induction n with
  | zero => intro x0 x1 x3 M h; exact h.elim
  | succ n ih =>
    intro x0 x1 x3 M h
    exact (s_iload_n (pc := 4) dX13_settle_4 rfl (s_aload_n (pc := 5) dX13_settle_5 rfl (s_getI (pc := 6) dX13_settle_6 f_X13_119 rfl h.1 (s_icmp_ge (pc := 9) (tgt := 29) dX13_settle_9 rfl (fun c1 => have h2 := h.2.1 c1; s_lload_n (pc := 29) dX13_settle_29 rfl (s_lconst (pc := 30) (v := 0) dX13_settle_30 rfl (s_lif_ne (pc := 31) (tgt := 37) dX13_settle_31 dX13_settle_32 rfl (fun c5 => have h6 := h2.1 c5; s_iconst (pc := 37) dX13_settle_37 ci_0 (s_istore_n (pc := 38) (L1 := [some (.ref x0), some (.long x1), none, some (.int 0), none]) dX13_settle_38 (Nat.le_of_ble_eq_true rfl) rfl (Exists.elim h6 (fun n50 hn => s_sel (L1 := [some (.ref x0), some (.long x1), none, some (.int 0), none]) [true, true, false, true, false] rfl (P_lp_X13_settle_39 n50 x0 x1 0 M hn))))) (fun c7 => have h8 := h2.2 c7; s_iconst (pc := 35) dX13_settle_35 ci_0 (s_zreturn (pc := 36) dX13_settle_36 rfl (Or.inl rfl) (Nat.zero_le _) (Nat.zero_le _) ⟨_, rfl, h8⟩))))) (fun c3 => have h4 := h.2.2 c3; s_aload_n (pc := 12) dX13_settle_12 rfl (s_getR (pc := 13) dX13_settle_13 f_X13_51 rfl h.1 (s_iload_n (pc := 16) dX13_settle_16 rfl (s_lal (pc := 17) dX13_settle_17 h4.1 h4.2.1 (s_lload_n (pc := 18) dX13_settle_18 rfl (s_callS (pc := 19) (As := [.long (mJ M (mR M x0 23) x3.toNatClampNeg), .long x1]) (rest := []) (d' := 0) (mc' := 0) (ms' := 0) dX13_settle_19 c_X13_218 rfl rfl (Nat.le_of_ble_eq_true rfl) (rm_ok rfl rfl) ⟨Nat.le_refl 0, Nat.le_refl 0⟩ (T_X13_divisor h4.2.2) (kkJ (fun r53 M52 h51 => s_lstore_n (pc := 22) (L1 := [some (.ref x0), some (.long r53), none, some (.int x3), none]) dX13_settle_22 (Nat.le_of_ble_eq_true rfl) rfl (s_iinc (pc := 23) (L1 := [some (.ref x0), some (.long r53), none, some (.int (x3 + 1)), none]) dX13_settle_23 rfl ci_1 (Nat.le_of_ble_eq_true rfl) rfl (s_goto (pc := 26) (tgt := 4) dX13_settle_26 rfl (s_sel (L1 := [some (.ref x0), some (.long r53), none, some (.int (x3 + 1)), none]) [true, true, false, true, false] rfl (ih x0 r53 (x3 + 1) M52 h51))))))))))))))))
def wp_X13_settle (p0 : Nat) (M : Mem) (Q : Int32 → Mem → Prop) : Prop := ∃ n54 : Nat, lp_X13_settle_4 Q n54 p0 0 0 M
theorem T_X13_settle {G : GG} {Q : Int32 → Mem → Prop} {M : Mem} {p0 : Nat} (h : wp_X13_settle p0 M Q) : PMet G mX13_settle 1 0 0 [.ref p0] M (QI Q) :=
  mk_met (by decide) rfl rfl (by
    intro w hw x9 e9
    subst e9
    simp at hw) (Nat.le_of_ble_eq_true rfl) (s_pad (L1 := [some (.ref p0), none, none, none, none]) 5 rfl (s_lconst (pc := 0) (v := 0) dX13_settle_0 rfl (s_lstore_n (pc := 1) (L1 := [some (.ref p0), some (.long 0), none, none, none]) dX13_settle_1 (Nat.le_of_ble_eq_true rfl) rfl (s_iconst (pc := 2) dX13_settle_2 ci_0 (s_istore_n (pc := 3) (L1 := [some (.ref p0), some (.long 0), none, some (.int 0), none]) dX13_settle_3 (Nat.le_of_ble_eq_true rfl) rfl (Exists.elim h (fun n54 hn => s_sel (L1 := [some (.ref p0), some (.long 0), none, some (.int 0), none]) [true, true, false, true, false] rfl (P_lp_X13_settle_4 n54 p0 0 0 M hn))))))))
/-! X13_goesOn -/
theorem dX13_goesOn_0 : cod mX13_goesOn 0 (.iconst 0) 1 := by decide +kernel
theorem dX13_goesOn_1 : cod mX13_goesOn 1 (.istore 5) 2 := by decide +kernel
theorem dX13_goesOn_3 : cod mX13_goesOn 3 (.iload 5) 2 := by decide +kernel
theorem dX13_goesOn_5 : cod mX13_goesOn 5 (.aload_n 0) 1 := by decide +kernel
theorem dX13_goesOn_6 : cod mX13_goesOn 6 (.getfield 119) 3 := by decide +kernel
theorem dX13_goesOn_9 : cod mX13_goesOn 9 (.if_icmp .ge 31) 3 := by decide +kernel
theorem dX13_goesOn_12 : cod mX13_goesOn 12 (.aload_n 0) 1 := by decide +kernel
theorem dX13_goesOn_13 : cod mX13_goesOn 13 (.getfield 51) 3 := by decide +kernel
theorem dX13_goesOn_16 : cod mX13_goesOn 16 (.iload 5) 2 := by decide +kernel
theorem dX13_goesOn_18 : cod mX13_goesOn 18 (.dup2) 1 := by decide +kernel
theorem dX13_goesOn_19 : cod mX13_goesOn 19 (.laload) 1 := by decide +kernel
theorem dX13_goesOn_20 : cod mX13_goesOn 20 (.aload_n 0) 1 := by decide +kernel
theorem dX13_goesOn_21 : cod mX13_goesOn 21 (.iload_n 1) 1 := by decide +kernel
theorem dX13_goesOn_22 : cod mX13_goesOn 22 (.iload 5) 2 := by decide +kernel
theorem dX13_goesOn_24 : cod mX13_goesOn 24 (.iload_n 2) 1 := by decide +kernel
theorem dX13_goesOn_25 : cod mX13_goesOn 25 (.iload_n 3) 1 := by decide +kernel
theorem dX13_goesOn_26 : cod mX13_goesOn 26 (.iload 4) 2 := by decide +kernel
theorem dX13_goesOn_28 : cod mX13_goesOn 28 (.invokevirtual 214) 3 := by decide +kernel
theorem dX13_goesOn_31 : cod mX13_goesOn 31 (.i2l) 1 := by decide +kernel
theorem dX13_goesOn_32 : cod mX13_goesOn 32 (.lmul) 1 := by decide +kernel
theorem dX13_goesOn_33 : cod mX13_goesOn 33 (.lastore) 1 := by decide +kernel
theorem dX13_goesOn_34 : cod mX13_goesOn 34 (.iinc 5 1) 3 := by decide +kernel
theorem dX13_goesOn_37 : cod mX13_goesOn 37 (.goto (-34)) 3 := by decide +kernel
theorem dX13_goesOn_40 : cod mX13_goesOn 40 (.aload_n 0) 1 := by decide +kernel
theorem dX13_goesOn_41 : cod mX13_goesOn 41 (.invokevirtual 224) 3 := by decide +kernel
theorem dX13_goesOn_44 : cod mX13_goesOn 44 (.ireturn) 1 := by decide +kernel
def lp_X13_goesOn_3 (Q : Int32 → Mem → Prop) : Nat → Nat → Int32 → Int32 → Int32 → Int32 → Int32 → Mem → Prop
  | 0 => fun _ _ _ _ _ _ _ => False
  | n + 1 => fun x0 x1 x2 x3 x4 x5 M => mK M x0 = 14 ∧ ((mI M x0 0) ≤ x5 → wp_X13_settle x0 M (fun r7 M6 => (r7 = 0 ∨ r7 = 1) ∧ Q r7 M6)) ∧ (¬ (mI M x0 0) ≤ x5 → mK M (mR M x0 23) = 21 ∧ vp_in x5 (mN M (mR M x0 23)) ∧ wp_X13_hundredths x0 x1 x5 x2 x3 x4 M (fun r10 M9 => mK M9 (mR M x0 23) = 21 ∧ vp_in x5 (mN M9 (mR M x0 23)) ∧ ∀ M11 : Mem, M11 = uJ M9 (mR M x0 23) x5.toNatClampNeg ((mJ M (mR M x0 23) x5.toNatClampNeg) * r10.toInt64) → (lp_X13_goesOn_3 Q n) x0 x1 x2 x3 x4 (x5 + 1) M11))
theorem P_lp_X13_goesOn_3 {G : GG} {Q : Int32 → Mem → Prop} : ∀ (n : Nat) (x0 : Nat) (x1 : Int32) (x2 : Int32) (x3 : Int32) (x4 : Int32) (x5 : Int32) (M : Mem), lp_X13_goesOn_3 Q n x0 x1 x2 x3 x4 x5 M → PW G mX13_goesOn (rmD 2 0 0) (QI Q) 3 [some (.ref x0), some (.int x1), some (.int x2), some (.int x3), some (.int x4), some (.int x5)] [] M 0 0 := by
  intro n
  induction n with
  | zero => intro x0 x1 x2 x3 x4 x5 M h; exact h.elim
  | succ n ih =>
    intro x0 x1 x2 x3 x4 x5 M h
    exact (s_iload (pc := 3) dX13_goesOn_3 rfl (s_aload_n (pc := 5) dX13_goesOn_5 rfl (s_getI (pc := 6) dX13_goesOn_6 f_X13_119 rfl h.1 (s_icmp_ge (pc := 9) (tgt := 40) dX13_goesOn_9 rfl (fun c1 => have h2 := h.2.1 c1; s_aload_n (pc := 40) dX13_goesOn_40 rfl (s_callV (pc := 41) (As := []) (rest := []) (d' := 1) (mc' := 0) (ms' := 0) dX13_goesOn_41 c_X13_224 (Nat.le_of_ble_eq_true rfl) rfl h.1 rfl rfl (Nat.le_of_ble_eq_true rfl) (rm_ok rfl rfl) ⟨Nat.le_refl 0, Nat.le_refl 0⟩ (T_X13_settle h2) (kkI (fun r7 M6 h5 => s_zreturn (pc := 44) dX13_goesOn_44 rfl h5.1 (Nat.zero_le _) (Nat.zero_le _) ⟨_, rfl, h5.2⟩)))) (fun c3 => have h4 := h.2.2 c3; s_aload_n (pc := 12) dX13_goesOn_12 rfl (s_getR (pc := 13) dX13_goesOn_13 f_X13_51 rfl h.1 (s_iload (pc := 16) dX13_goesOn_16 rfl (s_dup2 (pc := 18) dX13_goesOn_18 rfl rfl (s_lal (pc := 19) dX13_goesOn_19 h4.1 h4.2.1 (s_aload_n (pc := 20) dX13_goesOn_20 rfl (s_iload_n (pc := 21) dX13_goesOn_21 rfl (s_iload (pc := 22) dX13_goesOn_22 rfl (s_iload_n (pc := 24) dX13_goesOn_24 rfl (s_iload_n (pc := 25) dX13_goesOn_25 rfl (s_iload (pc := 26) dX13_goesOn_26 rfl (s_callV (pc := 28) (As := [.int x1, .int x5, .int x2, .int x3, .int x4]) (rest := [.long (mJ M (mR M x0 23) x5.toNatClampNeg), .int x5, .ref (mR M x0 23)]) (d' := 1) (mc' := 0) (ms' := 0) dX13_goesOn_28 c_X13_214 (Nat.le_of_ble_eq_true rfl) rfl h.1 rfl rfl (Nat.le_of_ble_eq_true rfl) (rm_ok rfl rfl) ⟨Nat.le_refl 0, Nat.le_refl 0⟩ (T_X13_hundredths h4.2.2) (kkI (fun r10 M9 h8 => s_i2l (pc := 31) dX13_goesOn_31 (s_lmul (pc := 32) dX13_goesOn_32 (s_las (pc := 33) dX13_goesOn_33 h8.1 h8.2.1 (nmM (fun M11 e12 => have h13 := (h8.2.2) M11 e12; s_iinc (pc := 34) (L1 := [some (.ref x0), some (.int x1), some (.int x2), some (.int x3), some (.int x4), some (.int (x5 + 1))]) dX13_goesOn_34 rfl ci_1 (Nat.le_of_ble_eq_true rfl) rfl (s_goto (pc := 37) (tgt := 3) dX13_goesOn_37 rfl (s_sel (L1 := [some (.ref x0), some (.int x1), some (.int x2), some (.int x3), some (.int x4), some (.int (x5 + 1))]) [true, true, true, true, true, true] rfl (ih x0 x1 x2 x3 x4 (x5 + 1) M11 h13)))))))))))))))))))))))))
def wp_X13_goesOn (p0 : Nat) (p1 : Int32) (p2 : Int32) (p3 : Int32) (p4 : Int32) (M : Mem) (Q : Int32 → Mem → Prop) : Prop := ∃ n14 : Nat, lp_X13_goesOn_3 Q n14 p0 p1 p2 p3 p4 0 M
theorem T_X13_goesOn {G : GG} {Q : Int32 → Mem → Prop} {M : Mem} {p0 : Nat} {p1 : Int32} {p2 : Int32} {p3 : Int32} {p4 : Int32} (h : wp_X13_goesOn p0 p1 p2 p3 p4 M Q) : PMet G mX13_goesOn 2 0 0 [.ref p0, .int p1, .int p2, .int p3, .int p4] M (QI Q) :=
  mk_met (by decide) rfl rfl (by
    intro w hw x9 e9
    subst e9
    simp at hw) (Nat.le_of_ble_eq_true rfl) (s_pad (L1 := [some (.ref p0), some (.int p1), some (.int p2), some (.int p3), some (.int p4), none]) 6 rfl (s_iconst (pc := 0) dX13_goesOn_0 ci_0 (s_istore (pc := 1) (L1 := [some (.ref p0), some (.int p1), some (.int p2), some (.int p3), some (.int p4), some (.int 0)]) dX13_goesOn_1 (Nat.le_of_ble_eq_true rfl) rfl (Exists.elim h (fun n14 hn => s_sel (L1 := [some (.ref p0), some (.int p1), some (.int p2), some (.int p3), some (.int p4), some (.int 0)]) [true, true, true, true, true, true] rfl (P_lp_X13_goesOn_3 n14 p0 p1 p2 p3 p4 0 M hn))))))
/-! X13_stepTo -/
theorem dX13_stepTo_0 : cod mX13_stepTo 0 (.aload_n 0) 1 := by decide +kernel
theorem dX13_stepTo_1 : cod mX13_stepTo 1 (.iload_n 1) 1 := by decide +kernel
theorem dX13_stepTo_2 : cod mX13_stepTo 2 (.invokevirtual 298) 3 := by decide +kernel
theorem dX13_stepTo_5 : cod mX13_stepTo 5 (.aload_n 0) 1 := by decide +kernel
theorem dX13_stepTo_6 : cod mX13_stepTo 6 (.iload_n 2) 1 := by decide +kernel
theorem dX13_stepTo_7 : cod mX13_stepTo 7 (.aload_n 0) 1 := by decide +kernel
theorem dX13_stepTo_8 : cod mX13_stepTo 8 (.getfield 69) 3 := by decide +kernel
theorem dX13_stepTo_11 : cod mX13_stepTo 11 (.iload_n 1) 1 := by decide +kernel
theorem dX13_stepTo_12 : cod mX13_stepTo 12 (.iaload) 1 := by decide +kernel
theorem dX13_stepTo_13 : cod mX13_stepTo 13 (.aload_n 0) 1 := by decide +kernel
theorem dX13_stepTo_14 : cod mX13_stepTo 14 (.getfield 72) 3 := by decide +kernel
theorem dX13_stepTo_17 : cod mX13_stepTo 17 (.iload_n 1) 1 := by decide +kernel
theorem dX13_stepTo_18 : cod mX13_stepTo 18 (.iaload) 1 := by decide +kernel
theorem dX13_stepTo_19 : cod mX13_stepTo 19 (.aload_n 0) 1 := by decide +kernel
theorem dX13_stepTo_20 : cod mX13_stepTo 20 (.getfield 60) 3 := by decide +kernel
theorem dX13_stepTo_23 : cod mX13_stepTo 23 (.iload_n 1) 1 := by decide +kernel
theorem dX13_stepTo_24 : cod mX13_stepTo 24 (.iaload) 1 := by decide +kernel
theorem dX13_stepTo_25 : cod mX13_stepTo 25 (.invokevirtual 237) 3 := by decide +kernel
theorem dX13_stepTo_28 : cod mX13_stepTo 28 (.ifCond .ne 5) 3 := by decide +kernel
theorem dX13_stepTo_31 : cod mX13_stepTo 31 (.iconst 0) 1 := by decide +kernel
theorem dX13_stepTo_32 : cod mX13_stepTo 32 (.ireturn) 1 := by decide +kernel
theorem dX13_stepTo_33 : cod mX13_stepTo 33 (.iload_n 2) 1 := by decide +kernel
theorem dX13_stepTo_34 : cod mX13_stepTo 34 (.aload_n 0) 1 := by decide +kernel
theorem dX13_stepTo_35 : cod mX13_stepTo 35 (.getfield 60) 3 := by decide +kernel
theorem dX13_stepTo_38 : cod mX13_stepTo 38 (.iload_n 1) 1 := by decide +kernel
theorem dX13_stepTo_39 : cod mX13_stepTo 39 (.iaload) 1 := by decide +kernel
theorem dX13_stepTo_40 : cod mX13_stepTo 40 (.invokestatic 241) 3 := by decide +kernel
theorem dX13_stepTo_43 : cod mX13_stepTo 43 (.istore_n 3) 1 := by decide +kernel
theorem dX13_stepTo_44 : cod mX13_stepTo 44 (.iconst 0) 1 := by decide +kernel
theorem dX13_stepTo_45 : cod mX13_stepTo 45 (.istore 4) 2 := by decide +kernel
theorem dX13_stepTo_47 : cod mX13_stepTo 47 (.iload 4) 2 := by decide +kernel
theorem dX13_stepTo_49 : cod mX13_stepTo 49 (.aload_n 0) 1 := by decide +kernel
theorem dX13_stepTo_50 : cod mX13_stepTo 50 (.getfield 119) 3 := by decide +kernel
theorem dX13_stepTo_53 : cod mX13_stepTo 53 (.if_icmp .ge 85) 3 := by decide +kernel
theorem dX13_stepTo_56 : cod mX13_stepTo 56 (.aload_n 0) 1 := by decide +kernel
theorem dX13_stepTo_57 : cod mX13_stepTo 57 (.getfield 54) 3 := by decide +kernel
theorem dX13_stepTo_60 : cod mX13_stepTo 60 (.bipush 6) 2 := by decide +kernel
theorem dX13_stepTo_62 : cod mX13_stepTo 62 (.iload_n 1) 1 := by decide +kernel
theorem dX13_stepTo_63 : cod mX13_stepTo 63 (.imul) 1 := by decide +kernel
theorem dX13_stepTo_64 : cod mX13_stepTo 64 (.bipush 6) 2 := by decide +kernel
theorem dX13_stepTo_66 : cod mX13_stepTo 66 (.iadd) 1 := by decide +kernel
theorem dX13_stepTo_67 : cod mX13_stepTo 67 (.iload 4) 2 := by decide +kernel
theorem dX13_stepTo_69 : cod mX13_stepTo 69 (.iadd) 1 := by decide +kernel
theorem dX13_stepTo_70 : cod mX13_stepTo 70 (.aload_n 0) 1 := by decide +kernel
theorem dX13_stepTo_71 : cod mX13_stepTo 71 (.getfield 51) 3 := by decide +kernel
theorem dX13_stepTo_74 : cod mX13_stepTo 74 (.iload 4) 2 := by decide +kernel
theorem dX13_stepTo_76 : cod mX13_stepTo 76 (.laload) 1 := by decide +kernel
theorem dX13_stepTo_77 : cod mX13_stepTo 77 (.lastore) 1 := by decide +kernel
theorem dX13_stepTo_78 : cod mX13_stepTo 78 (.aload_n 0) 1 := by decide +kernel
theorem dX13_stepTo_79 : cod mX13_stepTo 79 (.getfield 57) 3 := by decide +kernel
theorem dX13_stepTo_82 : cod mX13_stepTo 82 (.bipush 6) 2 := by decide +kernel
theorem dX13_stepTo_84 : cod mX13_stepTo 84 (.iload_n 1) 1 := by decide +kernel
theorem dX13_stepTo_85 : cod mX13_stepTo 85 (.imul) 1 := by decide +kernel
theorem dX13_stepTo_86 : cod mX13_stepTo 86 (.bipush 6) 2 := by decide +kernel
theorem dX13_stepTo_88 : cod mX13_stepTo 88 (.iadd) 1 := by decide +kernel
theorem dX13_stepTo_89 : cod mX13_stepTo 89 (.iload 4) 2 := by decide +kernel
theorem dX13_stepTo_91 : cod mX13_stepTo 91 (.iadd) 1 := by decide +kernel
theorem dX13_stepTo_92 : cod mX13_stepTo 92 (.aload_n 0) 1 := by decide +kernel
theorem dX13_stepTo_93 : cod mX13_stepTo 93 (.getfield 57) 3 := by decide +kernel
theorem dX13_stepTo_96 : cod mX13_stepTo 96 (.bipush 6) 2 := by decide +kernel
theorem dX13_stepTo_98 : cod mX13_stepTo 98 (.iload_n 1) 1 := by decide +kernel
theorem dX13_stepTo_99 : cod mX13_stepTo 99 (.imul) 1 := by decide +kernel
theorem dX13_stepTo_100 : cod mX13_stepTo 100 (.iload 4) 2 := by decide +kernel
theorem dX13_stepTo_102 : cod mX13_stepTo 102 (.iadd) 1 := by decide +kernel
theorem dX13_stepTo_103 : cod mX13_stepTo 103 (.laload) 1 := by decide +kernel
theorem dX13_stepTo_104 : cod mX13_stepTo 104 (.aload_n 0) 1 := by decide +kernel
theorem dX13_stepTo_105 : cod mX13_stepTo 105 (.iload_n 2) 1 := by decide +kernel
theorem dX13_stepTo_106 : cod mX13_stepTo 106 (.iload 4) 2 := by decide +kernel
theorem dX13_stepTo_108 : cod mX13_stepTo 108 (.aload_n 0) 1 := by decide +kernel
theorem dX13_stepTo_109 : cod mX13_stepTo 109 (.getfield 69) 3 := by decide +kernel
theorem dX13_stepTo_112 : cod mX13_stepTo 112 (.iload_n 1) 1 := by decide +kernel
theorem dX13_stepTo_113 : cod mX13_stepTo 113 (.iaload) 1 := by decide +kernel
theorem dX13_stepTo_114 : cod mX13_stepTo 114 (.aload_n 0) 1 := by decide +kernel
theorem dX13_stepTo_115 : cod mX13_stepTo 115 (.getfield 72) 3 := by decide +kernel
theorem dX13_stepTo_118 : cod mX13_stepTo 118 (.iload_n 1) 1 := by decide +kernel
theorem dX13_stepTo_119 : cod mX13_stepTo 119 (.iaload) 1 := by decide +kernel
theorem dX13_stepTo_120 : cod mX13_stepTo 120 (.aload_n 0) 1 := by decide +kernel
theorem dX13_stepTo_121 : cod mX13_stepTo 121 (.getfield 60) 3 := by decide +kernel
theorem dX13_stepTo_124 : cod mX13_stepTo 124 (.iload_n 1) 1 := by decide +kernel
theorem dX13_stepTo_125 : cod mX13_stepTo 125 (.iaload) 1 := by decide +kernel
theorem dX13_stepTo_126 : cod mX13_stepTo 126 (.invokevirtual 214) 3 := by decide +kernel
theorem dX13_stepTo_129 : cod mX13_stepTo 129 (.i2l) 1 := by decide +kernel
theorem dX13_stepTo_130 : cod mX13_stepTo 130 (.lmul) 1 := by decide +kernel
theorem dX13_stepTo_131 : cod mX13_stepTo 131 (.lastore) 1 := by decide +kernel
theorem dX13_stepTo_132 : cod mX13_stepTo 132 (.iinc 4 1) 3 := by decide +kernel
theorem dX13_stepTo_135 : cod mX13_stepTo 135 (.goto (-88)) 3 := by decide +kernel
theorem dX13_stepTo_138 : cod mX13_stepTo 138 (.aload_n 0) 1 := by decide +kernel
theorem dX13_stepTo_139 : cod mX13_stepTo 139 (.getfield 60) 3 := by decide +kernel
theorem dX13_stepTo_142 : cod mX13_stepTo 142 (.iload_n 1) 1 := by decide +kernel
theorem dX13_stepTo_143 : cod mX13_stepTo 143 (.iconst 1) 1 := by decide +kernel
theorem dX13_stepTo_144 : cod mX13_stepTo 144 (.iadd) 1 := by decide +kernel
theorem dX13_stepTo_145 : cod mX13_stepTo 145 (.iload_n 3) 1 := by decide +kernel
theorem dX13_stepTo_146 : cod mX13_stepTo 146 (.iastore) 1 := by decide +kernel
theorem dX13_stepTo_147 : cod mX13_stepTo 147 (.aload_n 0) 1 := by decide +kernel
theorem dX13_stepTo_148 : cod mX13_stepTo 148 (.getfield 63) 3 := by decide +kernel
theorem dX13_stepTo_151 : cod mX13_stepTo 151 (.iload_n 1) 1 := by decide +kernel
theorem dX13_stepTo_152 : cod mX13_stepTo 152 (.iconst 1) 1 := by decide +kernel
theorem dX13_stepTo_153 : cod mX13_stepTo 153 (.iadd) 1 := by decide +kernel
theorem dX13_stepTo_154 : cod mX13_stepTo 154 (.aload_n 0) 1 := by decide +kernel
theorem dX13_stepTo_155 : cod mX13_stepTo 155 (.getfield 63) 3 := by decide +kernel
theorem dX13_stepTo_158 : cod mX13_stepTo 158 (.iload_n 1) 1 := by decide +kernel
theorem dX13_stepTo_159 : cod mX13_stepTo 159 (.iaload) 1 := by decide +kernel
theorem dX13_stepTo_160 : cod mX13_stepTo 160 (.iload_n 2) 1 := by decide +kernel
theorem dX13_stepTo_161 : cod mX13_stepTo 161 (.iconst 1) 1 := by decide +kernel
theorem dX13_stepTo_162 : cod mX13_stepTo 162 (.if_icmp .ne 12) 3 := by decide +kernel
theorem dX13_stepTo_165 : cod mX13_stepTo 165 (.aload_n 0) 1 := by decide +kernel
theorem dX13_stepTo_166 : cod mX13_stepTo 166 (.getfield 72) 3 := by decide +kernel
theorem dX13_stepTo_169 : cod mX13_stepTo 169 (.iload_n 1) 1 := by decide +kernel
theorem dX13_stepTo_170 : cod mX13_stepTo 170 (.iaload) 1 := by decide +kernel
theorem dX13_stepTo_171 : cod mX13_stepTo 171 (.goto 19) 3 := by decide +kernel
theorem dX13_stepTo_174 : cod mX13_stepTo 174 (.iload_n 2) 1 := by decide +kernel
theorem dX13_stepTo_175 : cod mX13_stepTo 175 (.iconst 2) 1 := by decide +kernel
theorem dX13_stepTo_176 : cod mX13_stepTo 176 (.if_icmp .ne 13) 3 := by decide +kernel
theorem dX13_stepTo_179 : cod mX13_stepTo 179 (.aload_n 0) 1 := by decide +kernel
theorem dX13_stepTo_180 : cod mX13_stepTo 180 (.getfield 69) 3 := by decide +kernel
theorem dX13_stepTo_183 : cod mX13_stepTo 183 (.iload_n 1) 1 := by decide +kernel
theorem dX13_stepTo_184 : cod mX13_stepTo 184 (.iaload) 1 := by decide +kernel
theorem dX13_stepTo_185 : cod mX13_stepTo 185 (.ineg) 1 := by decide +kernel
theorem dX13_stepTo_186 : cod mX13_stepTo 186 (.goto 4) 3 := by decide +kernel
theorem dX13_stepTo_189 : cod mX13_stepTo 189 (.iconst 0) 1 := by decide +kernel
theorem dX13_stepTo_190 : cod mX13_stepTo 190 (.iadd) 1 := by decide +kernel
theorem dX13_stepTo_191 : cod mX13_stepTo 191 (.aload_n 0) 1 := by decide +kernel
theorem dX13_stepTo_192 : cod mX13_stepTo 192 (.getfield 171) 3 := by decide +kernel
theorem dX13_stepTo_195 : cod mX13_stepTo 195 (.iload_n 3) 1 := by decide +kernel
theorem dX13_stepTo_196 : cod mX13_stepTo 196 (.ifCond .ge 8) 3 := by decide +kernel
theorem dX13_stepTo_199 : cod mX13_stepTo 199 (.iload_n 3) 1 := by decide +kernel
theorem dX13_stepTo_200 : cod mX13_stepTo 200 (.ineg) 1 := by decide +kernel
theorem dX13_stepTo_201 : cod mX13_stepTo 201 (.goto 4) 3 := by decide +kernel
theorem dX13_stepTo_204 : cod mX13_stepTo 204 (.iload_n 3) 1 := by decide +kernel
theorem dX13_stepTo_205 : cod mX13_stepTo 205 (.imul) 1 := by decide +kernel
theorem dX13_stepTo_206 : cod mX13_stepTo 206 (.isub) 1 := by decide +kernel
theorem dX13_stepTo_207 : cod mX13_stepTo 207 (.iastore) 1 := by decide +kernel
theorem dX13_stepTo_208 : cod mX13_stepTo 208 (.aload_n 0) 1 := by decide +kernel
theorem dX13_stepTo_209 : cod mX13_stepTo 209 (.getfield 75) 3 := by decide +kernel
theorem dX13_stepTo_212 : cod mX13_stepTo 212 (.iload_n 1) 1 := by decide +kernel
theorem dX13_stepTo_213 : cod mX13_stepTo 213 (.iconst 1) 1 := by decide +kernel
theorem dX13_stepTo_214 : cod mX13_stepTo 214 (.iadd) 1 := by decide +kernel
theorem dX13_stepTo_215 : cod mX13_stepTo 215 (.aload_n 0) 1 := by decide +kernel
theorem dX13_stepTo_216 : cod mX13_stepTo 216 (.getfield 75) 3 := by decide +kernel
theorem dX13_stepTo_219 : cod mX13_stepTo 219 (.iload_n 1) 1 := by decide +kernel
theorem dX13_stepTo_220 : cod mX13_stepTo 220 (.baload) 1 := by decide +kernel
theorem dX13_stepTo_221 : cod mX13_stepTo 221 (.ifCond .ne 20) 3 := by decide +kernel
theorem dX13_stepTo_224 : cod mX13_stepTo 224 (.iload_n 3) 1 := by decide +kernel
theorem dX13_stepTo_225 : cod mX13_stepTo 225 (.aload_n 0) 1 := by decide +kernel
theorem dX13_stepTo_226 : cod mX13_stepTo 226 (.getfield 25) 3 := by decide +kernel
theorem dX13_stepTo_229 : cod mX13_stepTo 229 (.if_icmp .eq 12) 3 := by decide +kernel
theorem dX13_stepTo_232 : cod mX13_stepTo 232 (.iload_n 3) 1 := by decide +kernel
theorem dX13_stepTo_233 : cod mX13_stepTo 233 (.aload_n 0) 1 := by decide +kernel
theorem dX13_stepTo_234 : cod mX13_stepTo 234 (.getfield 25) 3 := by decide +kernel
theorem dX13_stepTo_237 : cod mX13_stepTo 237 (.ineg) 1 := by decide +kernel
theorem dX13_stepTo_238 : cod mX13_stepTo 238 (.if_icmp .ne 7) 3 := by decide +kernel
theorem dX13_stepTo_241 : cod mX13_stepTo 241 (.iconst 1) 1 := by decide +kernel
theorem dX13_stepTo_242 : cod mX13_stepTo 242 (.goto 4) 3 := by decide +kernel
theorem dX13_stepTo_245 : cod mX13_stepTo 245 (.iconst 0) 1 := by decide +kernel
theorem dX13_stepTo_246 : cod mX13_stepTo 246 (.bastore) 1 := by decide +kernel
theorem dX13_stepTo_247 : cod mX13_stepTo 247 (.iconst 1) 1 := by decide +kernel
theorem dX13_stepTo_248 : cod mX13_stepTo 248 (.ireturn) 1 := by decide +kernel
def jn_X13_stepTo_205 (Q : Int32 → Mem → Prop) (x0 : Nat) (x1 : Int32) (x3 : Int32) (s0 : Int32) (s1 : Int32) (s2 : Int32) (s3 : Int32) (s4 : Nat) (M : Mem) : Prop := mK M s4 = 20 ∧ vp_in s3 (mN M s4) ∧ ∀ M32 : Mem, M32 = uI M s4 s3.toNatClampNeg (s2 - (s1 * s0)) → mK M32 x0 = 14 ∧ mK M32 (mR M32 x0 34) = 22 ∧ vp_in x1 (mN M32 (mR M32 x0 34)) ∧ (¬ (mI M32 (mR M32 x0 34) x1.toNatClampNeg) = (0 : Int32) → vp_in (x1 + 1) (mN M32 (mR M32 x0 34)) ∧ ∀ M39 : Mem, M39 = uI M32 (mR M32 x0 34) (x1 + 1).toNatClampNeg (vp_nar .boolean 1) → Q 1 M39) ∧ ((mI M32 (mR M32 x0 34) x1.toNatClampNeg) = (0 : Int32) → (x3 = (mI M32 x0 7) → vp_in (x1 + 1) (mN M32 (mR M32 x0 34)) ∧ ∀ M46 : Mem, M46 = uI M32 (mR M32 x0 34) (x1 + 1).toNatClampNeg (vp_nar .boolean 1) → Q 1 M46) ∧ (¬ x3 = (mI M32 x0 7) → (¬ x3 = (-(mI M32 x0 7)) → vp_in (x1 + 1) (mN M32 (mR M32 x0 34)) ∧ ∀ M53 : Mem, M53 = uI M32 (mR M32 x0 34) (x1 + 1).toNatClampNeg (vp_nar .boolean 0) → Q 1 M53) ∧ (x3 = (-(mI M32 x0 7)) → vp_in (x1 + 1) (mN M32 (mR M32 x0 34)) ∧ ∀ M56 : Mem, M56 = uI M32 (mR M32 x0 34) (x1 + 1).toNatClampNeg (vp_nar .boolean 1) → Q 1 M56)))
theorem P_jn_X13_stepTo_205 {G : GG} {Q : Int32 → Mem → Prop} (x0 : Nat) (x1 : Int32) (x3 : Int32) (s0 : Int32) (s1 : Int32) (s2 : Int32) (s3 : Int32) (s4 : Nat) (M : Mem) (h : jn_X13_stepTo_205 Q x0 x1 x3 s0 s1 s2 s3 s4 M) : PW G mX13_stepTo (rmD 3 0 0) (QI Q) 205 [some (.ref x0), some (.int x1), none, some (.int x3), none] [.int s0, .int s1, .int s2, .int s3, .ref s4] M 0 0 := (s_imul (pc := 205) dX13_stepTo_205 (s_isub (pc := 206) dX13_stepTo_206 (s_ias (pc := 207) dX13_stepTo_207 h.1 h.2.1 (nmM (fun M32 e33 => have h34 := (h.2.2) M32 e33; s_aload_n (pc := 208) dX13_stepTo_208 rfl (s_getR (pc := 209) dX13_stepTo_209 f_X13_75 rfl h34.1 (s_iload_n (pc := 212) dX13_stepTo_212 rfl (s_iconst (pc := 213) dX13_stepTo_213 ci_1 (s_iadd (pc := 214) dX13_stepTo_214 (s_aload_n (pc := 215) dX13_stepTo_215 rfl (s_getR (pc := 216) dX13_stepTo_216 f_X13_75 rfl h34.1 (s_iload_n (pc := 219) dX13_stepTo_219 rfl (s_zal (pc := 220) dX13_stepTo_220 h34.2.1 h34.2.2.1 (s_if_ne (pc := 221) (tgt := 241) dX13_stepTo_221 rfl (fun c35 => have h36 := h34.2.2.2.1 c35; s_iconst (pc := 241) dX13_stepTo_241 ci_1 (s_goto (pc := 242) (tgt := 246) dX13_stepTo_242 rfl (s_zas (pc := 246) dX13_stepTo_246 h34.2.1 h36.1 (nmM (fun M39 e40 => have h41 := (h36.2) M39 e40; s_iconst (pc := 247) dX13_stepTo_247 ci_1 (s_zreturn (pc := 248) dX13_stepTo_248 rfl (Or.inr rfl) (Nat.zero_le _) (Nat.zero_le _) ⟨_, rfl, h41⟩)))))) (fun c37 => have h38 := h34.2.2.2.2 c37; s_iload_n (pc := 224) dX13_stepTo_224 rfl (s_aload_n (pc := 225) dX13_stepTo_225 rfl (s_getI (pc := 226) dX13_stepTo_226 f_X13_25 rfl h34.1 (s_icmp_eq (pc := 229) (tgt := 241) dX13_stepTo_229 rfl (fun c42 => have h43 := h38.1 c42; s_iconst (pc := 241) dX13_stepTo_241 ci_1 (s_goto (pc := 242) (tgt := 246) dX13_stepTo_242 rfl (s_zas (pc := 246) dX13_stepTo_246 h34.2.1 h43.1 (nmM (fun M46 e47 => have h48 := (h43.2) M46 e47; s_iconst (pc := 247) dX13_stepTo_247 ci_1 (s_zreturn (pc := 248) dX13_stepTo_248 rfl (Or.inr rfl) (Nat.zero_le _) (Nat.zero_le _) ⟨_, rfl, h48⟩)))))) (fun c44 => have h45 := h38.2 c44; s_iload_n (pc := 232) dX13_stepTo_232 rfl (s_aload_n (pc := 233) dX13_stepTo_233 rfl (s_getI (pc := 234) dX13_stepTo_234 f_X13_25 rfl h34.1 (s_ineg (pc := 237) dX13_stepTo_237 (s_icmp_ne (pc := 238) (tgt := 245) dX13_stepTo_238 rfl (fun c49 => have h50 := h45.1 c49; s_iconst (pc := 245) dX13_stepTo_245 ci_0 (s_zas (pc := 246) dX13_stepTo_246 h34.2.1 h50.1 (nmM (fun M53 e54 => have h55 := (h50.2) M53 e54; s_iconst (pc := 247) dX13_stepTo_247 ci_1 (s_zreturn (pc := 248) dX13_stepTo_248 rfl (Or.inr rfl) (Nat.zero_le _) (Nat.zero_le _) ⟨_, rfl, h55⟩))))) (fun c51 => have h52 := h45.2 c51; s_iconst (pc := 241) dX13_stepTo_241 ci_1 (s_goto (pc := 242) (tgt := 246) dX13_stepTo_242 rfl (s_zas (pc := 246) dX13_stepTo_246 h34.2.1 h52.1 (nmM (fun M56 e57 => have h58 := (h52.2) M56 e57; s_iconst (pc := 247) dX13_stepTo_247 ci_1 (s_zreturn (pc := 248) dX13_stepTo_248 rfl (Or.inr rfl) (Nat.zero_le _) (Nat.zero_le _) ⟨_, rfl, h58⟩)))))))))))))))))))))))))))))
def jn_X13_stepTo_190 (Q : Int32 → Mem → Prop) (x0 : Nat) (x1 : Int32) (x3 : Int32) (s0 : Int32) (s1 : Int32) (s2 : Int32) (s3 : Nat) (M : Mem) : Prop := mK M x0 = 14 ∧ ((0 : Int32) ≤ x3 → jn_X13_stepTo_205 Q x0 x1 x3 x3 (mI M x0 8) (s1 + s0) s2 s3 M) ∧ (¬ (0 : Int32) ≤ x3 → jn_X13_stepTo_205 Q x0 x1 x3 (-x3) (mI M x0 8) (s1 + s0) s2 s3 M)
theorem P_jn_X13_stepTo_190 {G : GG} {Q : Int32 → Mem → Prop} (x0 : Nat) (x1 : Int32) (x3 : Int32) (s0 : Int32) (s1 : Int32) (s2 : Int32) (s3 : Nat) (M : Mem) (h : jn_X13_stepTo_190 Q x0 x1 x3 s0 s1 s2 s3 M) : PW G mX13_stepTo (rmD 3 0 0) (QI Q) 190 [some (.ref x0), some (.int x1), none, some (.int x3), none] [.int s0, .int s1, .int s2, .ref s3] M 0 0 := (s_iadd (pc := 190) dX13_stepTo_190 (s_aload_n (pc := 191) dX13_stepTo_191 rfl (s_getI (pc := 192) dX13_stepTo_192 f_X13_171 rfl h.1 (s_iload_n (pc := 195) dX13_stepTo_195 rfl (s_if_ge (pc := 196) (tgt := 204) dX13_stepTo_196 rfl (fun c28 => have h29 := h.2.1 c28; s_iload_n (pc := 204) dX13_stepTo_204 rfl (s_sel (L1 := [some (.ref x0), some (.int x1), none, some (.int x3), none]) [true, true, false, true, false] rfl (P_jn_X13_stepTo_205 x0 x1 x3 x3 (mI M x0 8) (s1 + s0) s2 s3 M h29))) (fun c30 => have h31 := h.2.2 c30; s_iload_n (pc := 199) dX13_stepTo_199 rfl (s_ineg (pc := 200) dX13_stepTo_200 (s_goto (pc := 201) (tgt := 205) dX13_stepTo_201 rfl (s_sel (L1 := [some (.ref x0), some (.int x1), none, some (.int x3), none]) [true, true, false, true, false] rfl (P_jn_X13_stepTo_205 x0 x1 x3 (-x3) (mI M x0 8) (s1 + s0) s2 s3 M h31))))))))))
def lp_X13_stepTo_47 (Q : Int32 → Mem → Prop) : Nat → Nat → Int32 → Int32 → Int32 → Int32 → Mem → Prop
  | 0 => fun _ _ _ _ _ _ => False
  | n + 1 => fun x0 x1 x2 x3 x4 M => mK M x0 = 14 ∧ ((mI M x0 0) ≤ x4 → mK M (mR M x0 29) = 20 ∧ vp_in (x1 + 1) (mN M (mR M x0 29)) ∧ ∀ M17 : Mem, M17 = uI M (mR M x0 29) (x1 + 1).toNatClampNeg x3 → mK M17 (mR M17 x0 30) = 20 ∧ vp_in x1 (mN M17 (mR M17 x0 30)) ∧ (¬ x2 = (1 : Int32) → (¬ x2 = (2 : Int32) → jn_X13_stepTo_190 Q x0 x1 x3 0 (mI M17 (mR M17 x0 30) x1.toNatClampNeg) (x1 + 1) (mR M17 x0 30) M17) ∧ (x2 = (2 : Int32) → mK M17 (mR M17 x0 32) = 20 ∧ vp_in x1 (mN M17 (mR M17 x0 32)) ∧ jn_X13_stepTo_190 Q x0 x1 x3 (-(mI M17 (mR M17 x0 32) x1.toNatClampNeg)) (mI M17 (mR M17 x0 30) x1.toNatClampNeg) (x1 + 1) (mR M17 x0 30) M17)) ∧ (x2 = (1 : Int32) → mK M17 (mR M17 x0 33) = 20 ∧ vp_in x1 (mN M17 (mR M17 x0 33)) ∧ jn_X13_stepTo_190 Q x0 x1 x3 (mI M17 (mR M17 x0 33) x1.toNatClampNeg) (mI M17 (mR M17 x0 30) x1.toNatClampNeg) (x1 + 1) (mR M17 x0 30) M17)) ∧ (¬ (mI M x0 0) ≤ x4 → mK M (mR M x0 23) = 21 ∧ vp_in x4 (mN M (mR M x0 23)) ∧ mK M (mR M x0 27) = 21 ∧ vp_in (((6 * x1) + 6) + x4) (mN M (mR M x0 27)) ∧ ∀ M59 : Mem, M59 = uJ M (mR M x0 27) (((6 * x1) + 6) + x4).toNatClampNeg (mJ M (mR M x0 23) x4.toNatClampNeg) → mK M59 (mR M59 x0 28) = 21 ∧ vp_in ((6 * x1) + x4) (mN M59 (mR M59 x0 28)) ∧ mK M59 (mR M59 x0 32) = 20 ∧ vp_in x1 (mN M59 (mR M59 x0 32)) ∧ mK M59 (mR M59 x0 33) = 20 ∧ vp_in x1 (mN M59 (mR M59 x0 33)) ∧ mK M59 (mR M59 x0 29) = 20 ∧ vp_in x1 (mN M59 (mR M59 x0 29)) ∧ wp_X13_hundredths x0 x2 x4 (mI M59 (mR M59 x0 32) x1.toNatClampNeg) (mI M59 (mR M59 x0 33) x1.toNatClampNeg) (mI M59 (mR M59 x0 29) x1.toNatClampNeg) M59 (fun r64 M63 => mK M63 (mR M59 x0 28) = 21 ∧ vp_in (((6 * x1) + 6) + x4) (mN M63 (mR M59 x0 28)) ∧ ∀ M65 : Mem, M65 = uJ M63 (mR M59 x0 28) (((6 * x1) + 6) + x4).toNatClampNeg ((mJ M59 (mR M59 x0 28) ((6 * x1) + x4).toNatClampNeg) * r64.toInt64) → (lp_X13_stepTo_47 Q n) x0 x1 x2 x3 (x4 + 1) M65))
theorem P_lp_X13_stepTo_47 {G : GG} {Q : Int32 → Mem → Prop} : ∀ (n : Nat) (x0 : Nat) (x1 : Int32) (x2 : Int32) (x3 : Int32) (x4 : Int32) (M : Mem), lp_X13_stepTo_47 Q n x0 x1 x2 x3 x4 M → PW G mX13_stepTo (rmD 3 0 0) (QI Q) 47 [some (.ref x0), some (.int x1), some (.int x2), some (.int x3), some (.int x4)] [] M 0 0 := by
  intro n
  induction n with
  | zero => intro x0 x1 x2 x3 x4 M h; exact h.elim
  | succ n ih =>
    intro x0 x1 x2 x3 x4 M h
    exact (s_iload (pc := 47) dX13_stepTo_47 rfl (s_aload_n (pc := 49) dX13_stepTo_49 rfl (s_getI (pc := 50) dX13_stepTo_50 f_X13_119 rfl h.1 (s_icmp_ge (pc := 53) (tgt := 138) dX13_stepTo_53 rfl (fun c13 => have h14 := h.2.1 c13; s_aload_n (pc := 138) dX13_stepTo_138 rfl (s_getR (pc := 139) dX13_stepTo_139 f_X13_60 rfl h.1 (s_iload_n (pc := 142) dX13_stepTo_142 rfl (s_iconst (pc := 143) dX13_stepTo_143 ci_1 (s_iadd (pc := 144) dX13_stepTo_144 (s_iload_n (pc := 145) dX13_stepTo_145 rfl (s_ias (pc := 146) dX13_stepTo_146 h14.1 h14.2.1 (nmM (fun M17 e18 => have h19 := (h14.2.2) M17 e18; s_aload_n (pc := 147) dX13_stepTo_147 rfl (s_getR (pc := 148) dX13_stepTo_148 f_X13_63 rfl ((congrFun (congrArg mK e18) x0).trans h.1) (s_iload_n (pc := 151) dX13_stepTo_151 rfl (s_iconst (pc := 152) dX13_stepTo_152 ci_1 (s_iadd (pc := 153) dX13_stepTo_153 (s_aload_n (pc := 154) dX13_stepTo_154 rfl (s_getR (pc := 155) dX13_stepTo_155 f_X13_63 rfl ((congrFun (congrArg mK e18) x0).trans h.1) (s_iload_n (pc := 158) dX13_stepTo_158 rfl (s_ial (pc := 159) dX13_stepTo_159 h19.1 h19.2.1 (s_iload_n (pc := 160) dX13_stepTo_160 rfl (s_iconst (pc := 161) dX13_stepTo_161 ci_1 (s_icmp_ne (pc := 162) (tgt := 174) dX13_stepTo_162 rfl (fun c20 => have h21 := h19.2.2.1 c20; s_iload_n (pc := 174) dX13_stepTo_174 rfl (s_iconst (pc := 175) dX13_stepTo_175 ci_2 (s_icmp_ne (pc := 176) (tgt := 189) dX13_stepTo_176 rfl (fun c24 => have h25 := h21.1 c24; s_iconst (pc := 189) dX13_stepTo_189 ci_0 (s_sel (L1 := [some (.ref x0), some (.int x1), none, some (.int x3), none]) [true, true, false, true, false] rfl (P_jn_X13_stepTo_190 x0 x1 x3 0 (mI M17 (mR M17 x0 30) x1.toNatClampNeg) (x1 + 1) (mR M17 x0 30) M17 h25))) (fun c26 => have h27 := h21.2 c26; s_aload_n (pc := 179) dX13_stepTo_179 rfl (s_getR (pc := 180) dX13_stepTo_180 f_X13_69 rfl ((congrFun (congrArg mK e18) x0).trans h.1) (s_iload_n (pc := 183) dX13_stepTo_183 rfl (s_ial (pc := 184) dX13_stepTo_184 h27.1 h27.2.1 (s_ineg (pc := 185) dX13_stepTo_185 (s_goto (pc := 186) (tgt := 190) dX13_stepTo_186 rfl (s_sel (L1 := [some (.ref x0), some (.int x1), none, some (.int x3), none]) [true, true, false, true, false] rfl (P_jn_X13_stepTo_190 x0 x1 x3 (-(mI M17 (mR M17 x0 32) x1.toNatClampNeg)) (mI M17 (mR M17 x0 30) x1.toNatClampNeg) (x1 + 1) (mR M17 x0 30) M17 h27.2.2))))))))))) (fun c22 => have h23 := h19.2.2.2 c22; s_aload_n (pc := 165) dX13_stepTo_165 rfl (s_getR (pc := 166) dX13_stepTo_166 f_X13_72 rfl ((congrFun (congrArg mK e18) x0).trans h.1) (s_iload_n (pc := 169) dX13_stepTo_169 rfl (s_ial (pc := 170) dX13_stepTo_170 h23.1 h23.2.1 (s_goto (pc := 171) (tgt := 190) dX13_stepTo_171 rfl (s_sel (L1 := [some (.ref x0), some (.int x1), none, some (.int x3), none]) [true, true, false, true, false] rfl (P_jn_X13_stepTo_190 x0 x1 x3 (mI M17 (mR M17 x0 33) x1.toNatClampNeg) (mI M17 (mR M17 x0 30) x1.toNatClampNeg) (x1 + 1) (mR M17 x0 30) M17 h23.2.2))))))))))))))))))))))))))) (fun c15 => have h16 := h.2.2 c15; s_aload_n (pc := 56) dX13_stepTo_56 rfl (s_getR (pc := 57) dX13_stepTo_57 f_X13_54 rfl h.1 (s_bipush (pc := 60) dX13_stepTo_60 cb_6 (s_iload_n (pc := 62) dX13_stepTo_62 rfl (s_imul (pc := 63) dX13_stepTo_63 (s_bipush (pc := 64) dX13_stepTo_64 cb_6 (s_iadd (pc := 66) dX13_stepTo_66 (s_iload (pc := 67) dX13_stepTo_67 rfl (s_iadd (pc := 69) dX13_stepTo_69 (s_aload_n (pc := 70) dX13_stepTo_70 rfl (s_getR (pc := 71) dX13_stepTo_71 f_X13_51 rfl h.1 (s_iload (pc := 74) dX13_stepTo_74 rfl (s_lal (pc := 76) dX13_stepTo_76 h16.1 h16.2.1 (s_las (pc := 77) dX13_stepTo_77 h16.2.2.1 h16.2.2.2.1 (nmM (fun M59 e60 => have h61 := (h16.2.2.2.2) M59 e60; s_aload_n (pc := 78) dX13_stepTo_78 rfl (s_getR (pc := 79) dX13_stepTo_79 f_X13_57 rfl ((congrFun (congrArg mK e60) x0).trans h.1) (s_bipush (pc := 82) dX13_stepTo_82 cb_6 (s_iload_n (pc := 84) dX13_stepTo_84 rfl (s_imul (pc := 85) dX13_stepTo_85 (s_bipush (pc := 86) dX13_stepTo_86 cb_6 (s_iadd (pc := 88) dX13_stepTo_88 (s_iload (pc := 89) dX13_stepTo_89 rfl (s_iadd (pc := 91) dX13_stepTo_91 (s_aload_n (pc := 92) dX13_stepTo_92 rfl (s_getR (pc := 93) dX13_stepTo_93 f_X13_57 rfl ((congrFun (congrArg mK e60) x0).trans h.1) (s_bipush (pc := 96) dX13_stepTo_96 cb_6 (s_iload_n (pc := 98) dX13_stepTo_98 rfl (s_imul (pc := 99) dX13_stepTo_99 (s_iload (pc := 100) dX13_stepTo_100 rfl (s_iadd (pc := 102) dX13_stepTo_102 (s_lal (pc := 103) dX13_stepTo_103 h61.1 h61.2.1 (s_aload_n (pc := 104) dX13_stepTo_104 rfl (s_iload_n (pc := 105) dX13_stepTo_105 rfl (s_iload (pc := 106) dX13_stepTo_106 rfl (s_aload_n (pc := 108) dX13_stepTo_108 rfl (s_getR (pc := 109) dX13_stepTo_109 f_X13_69 rfl ((congrFun (congrArg mK e60) x0).trans h.1) (s_iload_n (pc := 112) dX13_stepTo_112 rfl (s_ial (pc := 113) dX13_stepTo_113 h61.2.2.1 h61.2.2.2.1 (s_aload_n (pc := 114) dX13_stepTo_114 rfl (s_getR (pc := 115) dX13_stepTo_115 f_X13_72 rfl ((congrFun (congrArg mK e60) x0).trans h.1) (s_iload_n (pc := 118) dX13_stepTo_118 rfl (s_ial (pc := 119) dX13_stepTo_119 h61.2.2.2.2.1 h61.2.2.2.2.2.1 (s_aload_n (pc := 120) dX13_stepTo_120 rfl (s_getR (pc := 121) dX13_stepTo_121 f_X13_60 rfl ((congrFun (congrArg mK e60) x0).trans h.1) (s_iload_n (pc := 124) dX13_stepTo_124 rfl (s_ial (pc := 125) dX13_stepTo_125 h61.2.2.2.2.2.2.1 h61.2.2.2.2.2.2.2.1 (s_callV (pc := 126) (As := [.int x2, .int x4, .int (mI M59 (mR M59 x0 32) x1.toNatClampNeg), .int (mI M59 (mR M59 x0 33) x1.toNatClampNeg), .int (mI M59 (mR M59 x0 29) x1.toNatClampNeg)]) (rest := [.long (mJ M59 (mR M59 x0 28) ((6 * x1) + x4).toNatClampNeg), .int (((6 * x1) + 6) + x4), .ref (mR M59 x0 28)]) (d' := 1) (mc' := 0) (ms' := 0) dX13_stepTo_126 c_X13_214 (Nat.le_of_ble_eq_true rfl) rfl ((congrFun (congrArg mK e60) x0).trans h.1) rfl rfl (Nat.le_of_ble_eq_true rfl) (rm_ok rfl rfl) ⟨Nat.le_refl 0, Nat.le_refl 0⟩ (T_X13_hundredths h61.2.2.2.2.2.2.2.2) (kkI (fun r64 M63 h62 => s_i2l (pc := 129) dX13_stepTo_129 (s_lmul (pc := 130) dX13_stepTo_130 (s_las (pc := 131) dX13_stepTo_131 h62.1 h62.2.1 (nmM (fun M65 e66 => have h67 := (h62.2.2) M65 e66; s_iinc (pc := 132) (L1 := [some (.ref x0), some (.int x1), some (.int x2), some (.int x3), some (.int (x4 + 1))]) dX13_stepTo_132 rfl ci_1 (Nat.le_of_ble_eq_true rfl) rfl (s_goto (pc := 135) (tgt := 47) dX13_stepTo_135 rfl (s_sel (L1 := [some (.ref x0), some (.int x1), some (.int x2), some (.int x3), some (.int (x4 + 1))]) [true, true, true, true, true] rfl (ih x0 x1 x2 x3 (x4 + 1) M65 h67)))))))))))))))))))))))))))))))))))))))))))))))))))))))))))))
def wp_X13_stepTo (p0 : Nat) (p1 : Int32) (p2 : Int32) (M : Mem) (Q : Int32 → Mem → Prop) : Prop := mK M p0 = 14 ∧ wp_X13_mindFrom p0 p1 M (fun M2 => mK M2 p0 = 14 ∧ mK M2 (mR M2 p0 32) = 20 ∧ vp_in p1 (mN M2 (mR M2 p0 32)) ∧ mK M2 (mR M2 p0 33) = 20 ∧ vp_in p1 (mN M2 (mR M2 p0 33)) ∧ mK M2 (mR M2 p0 29) = 20 ∧ vp_in p1 (mN M2 (mR M2 p0 29)) ∧ wp_X13_goesOn p0 p2 (mI M2 (mR M2 p0 32) p1.toNatClampNeg) (mI M2 (mR M2 p0 33) p1.toNatClampNeg) (mI M2 (mR M2 p0 29) p1.toNatClampNeg) M2 (fun r5 M4 => (¬ r5 = (0 : Int32) → mK M4 p0 = 14 ∧ mK M4 (mR M4 p0 29) = 20 ∧ vp_in p1 (mN M4 (mR M4 p0 29)) ∧ wp_X13_heldBy p2 (mI M4 (mR M4 p0 29) p1.toNatClampNeg) M4 (fun r12 M11 => ∃ n68 : Nat, lp_X13_stepTo_47 Q n68 p0 p1 p2 r12 0 M11)) ∧ (r5 = (0 : Int32) → Q 0 M4)))
theorem T_X13_stepTo {G : GG} {Q : Int32 → Mem → Prop} {M : Mem} {p0 : Nat} {p1 : Int32} {p2 : Int32} (h : wp_X13_stepTo p0 p1 p2 M Q) : PMet G mX13_stepTo 3 0 0 [.ref p0, .int p1, .int p2] M (QI Q) :=
  mk_met (by decide) rfl rfl (by
    intro w hw x9 e9
    subst e9
    simp at hw) (Nat.le_of_ble_eq_true rfl) (s_pad (L1 := [some (.ref p0), some (.int p1), some (.int p2), none, none]) 5 rfl (s_aload_n (pc := 0) dX13_stepTo_0 rfl (s_iload_n (pc := 1) dX13_stepTo_1 rfl (s_callV (pc := 2) (As := [.int p1]) (rest := []) (d' := 0) (mc' := 0) (ms' := 0) dX13_stepTo_2 c_X13_298 (Nat.le_of_ble_eq_true rfl) rfl h.1 rfl rfl (Nat.le_of_ble_eq_true rfl) (rm_ok rfl rfl) ⟨Nat.le_refl 0, Nat.le_refl 0⟩ (T_X13_mindFrom h.2) (kkV (fun M2 h1 => s_aload_n (pc := 5) dX13_stepTo_5 rfl (s_iload_n (pc := 6) dX13_stepTo_6 rfl (s_aload_n (pc := 7) dX13_stepTo_7 rfl (s_getR (pc := 8) dX13_stepTo_8 f_X13_69 rfl h1.1 (s_iload_n (pc := 11) dX13_stepTo_11 rfl (s_ial (pc := 12) dX13_stepTo_12 h1.2.1 h1.2.2.1 (s_aload_n (pc := 13) dX13_stepTo_13 rfl (s_getR (pc := 14) dX13_stepTo_14 f_X13_72 rfl h1.1 (s_iload_n (pc := 17) dX13_stepTo_17 rfl (s_ial (pc := 18) dX13_stepTo_18 h1.2.2.2.1 h1.2.2.2.2.1 (s_aload_n (pc := 19) dX13_stepTo_19 rfl (s_getR (pc := 20) dX13_stepTo_20 f_X13_60 rfl h1.1 (s_iload_n (pc := 23) dX13_stepTo_23 rfl (s_ial (pc := 24) dX13_stepTo_24 h1.2.2.2.2.2.1 h1.2.2.2.2.2.2.1 (s_callV (pc := 25) (As := [.int p2, .int (mI M2 (mR M2 p0 32) p1.toNatClampNeg), .int (mI M2 (mR M2 p0 33) p1.toNatClampNeg), .int (mI M2 (mR M2 p0 29) p1.toNatClampNeg)]) (rest := []) (d' := 2) (mc' := 0) (ms' := 0) dX13_stepTo_25 c_X13_237 (Nat.le_of_ble_eq_true rfl) rfl h1.1 rfl rfl (Nat.le_of_ble_eq_true rfl) (rm_ok rfl rfl) ⟨Nat.le_refl 0, Nat.le_refl 0⟩ (T_X13_goesOn h1.2.2.2.2.2.2.2) (kkI (fun r5 M4 h3 => s_if_ne (pc := 28) (tgt := 33) dX13_stepTo_28 rfl (fun c6 => have h7 := h3.1 c6; s_iload_n (pc := 33) dX13_stepTo_33 rfl (s_aload_n (pc := 34) dX13_stepTo_34 rfl (s_getR (pc := 35) dX13_stepTo_35 f_X13_60 rfl h7.1 (s_iload_n (pc := 38) dX13_stepTo_38 rfl (s_ial (pc := 39) dX13_stepTo_39 h7.2.1 h7.2.2.1 (s_callS (pc := 40) (As := [.int p2, .int (mI M4 (mR M4 p0 29) p1.toNatClampNeg)]) (rest := []) (d' := 0) (mc' := 0) (ms' := 0) dX13_stepTo_40 c_X13_241 rfl rfl (Nat.le_of_ble_eq_true rfl) (rm_ok rfl rfl) ⟨Nat.le_refl 0, Nat.le_refl 0⟩ (T_X13_heldBy h7.2.2.2) (kkI (fun r12 M11 h10 => s_istore_n (pc := 43) (L1 := [some (.ref p0), some (.int p1), some (.int p2), some (.int r12), none]) dX13_stepTo_43 (Nat.le_of_ble_eq_true rfl) rfl (s_iconst (pc := 44) dX13_stepTo_44 ci_0 (s_istore (pc := 45) (L1 := [some (.ref p0), some (.int p1), some (.int p2), some (.int r12), some (.int 0)]) dX13_stepTo_45 (Nat.le_of_ble_eq_true rfl) rfl (Exists.elim h10 (fun n68 hn => s_sel (L1 := [some (.ref p0), some (.int p1), some (.int p2), some (.int r12), some (.int 0)]) [true, true, true, true, true] rfl (P_lp_X13_stepTo_47 n68 p0 p1 p2 r12 0 M11 hn))))))))))))) (fun c8 => have h9 := h3.2 c8; s_iconst (pc := 31) dX13_stepTo_31 ci_0 (s_zreturn (pc := 32) dX13_stepTo_32 rfl (Or.inl rfl) (Nat.zero_le _) (Nat.zero_le _) ⟨_, rfl, h9⟩))))))))))))))))))))))))
/-! X13_closeDay -/
theorem dX13_closeDay_0 : cod mX13_closeDay 0 (.iconst 0) 1 := by decide +kernel
theorem dX13_closeDay_1 : cod mX13_closeDay 1 (.istore_n 2) 1 := by decide +kernel
theorem dX13_closeDay_2 : cod mX13_closeDay 2 (.iload_n 2) 1 := by decide +kernel
theorem dX13_closeDay_3 : cod mX13_closeDay 3 (.aload_n 0) 1 := by decide +kernel
theorem dX13_closeDay_4 : cod mX13_closeDay 4 (.getfield 119) 3 := by decide +kernel
theorem dX13_closeDay_7 : cod mX13_closeDay 7 (.if_icmp .ge 76) 3 := by decide +kernel
theorem dX13_closeDay_10 : cod mX13_closeDay 10 (.aload_n 0) 1 := by decide +kernel
theorem dX13_closeDay_11 : cod mX13_closeDay 11 (.getfield 57) 3 := by decide +kernel
theorem dX13_closeDay_14 : cod mX13_closeDay 14 (.bipush 6) 2 := by decide +kernel
theorem dX13_closeDay_16 : cod mX13_closeDay 16 (.iload_n 1) 1 := by decide +kernel
theorem dX13_closeDay_17 : cod mX13_closeDay 17 (.imul) 1 := by decide +kernel
theorem dX13_closeDay_18 : cod mX13_closeDay 18 (.iload_n 2) 1 := by decide +kernel
theorem dX13_closeDay_19 : cod mX13_closeDay 19 (.iadd) 1 := by decide +kernel
theorem dX13_closeDay_20 : cod mX13_closeDay 20 (.laload) 1 := by decide +kernel
theorem dX13_closeDay_21 : cod mX13_closeDay 21 (.lstore_n 3) 1 := by decide +kernel
theorem dX13_closeDay_22 : cod mX13_closeDay 22 (.aload_n 0) 1 := by decide +kernel
theorem dX13_closeDay_23 : cod mX13_closeDay 23 (.dup) 1 := by decide +kernel
theorem dX13_closeDay_24 : cod mX13_closeDay 24 (.getfield 291) 3 := by decide +kernel
theorem dX13_closeDay_27 : cod mX13_closeDay 27 (.lload_n 3) 1 := by decide +kernel
theorem dX13_closeDay_28 : cod mX13_closeDay 28 (.aload_n 0) 1 := by decide +kernel
theorem dX13_closeDay_29 : cod mX13_closeDay 29 (.getfield 63) 3 := by decide +kernel
theorem dX13_closeDay_32 : cod mX13_closeDay 32 (.iload_n 1) 1 := by decide +kernel
theorem dX13_closeDay_33 : cod mX13_closeDay 33 (.iaload) 1 := by decide +kernel
theorem dX13_closeDay_34 : cod mX13_closeDay 34 (.aload_n 0) 1 := by decide +kernel
theorem dX13_closeDay_35 : cod mX13_closeDay 35 (.getfield 60) 3 := by decide +kernel
theorem dX13_closeDay_38 : cod mX13_closeDay 38 (.iload_n 1) 1 := by decide +kernel
theorem dX13_closeDay_39 : cod mX13_closeDay 39 (.iaload) 1 := by decide +kernel
theorem dX13_closeDay_40 : cod mX13_closeDay 40 (.aload_n 0) 1 := by decide +kernel
theorem dX13_closeDay_41 : cod mX13_closeDay 41 (.getfield 13) 3 := by decide +kernel
theorem dX13_closeDay_44 : cod mX13_closeDay 44 (.iload_n 2) 1 := by decide +kernel
theorem dX13_closeDay_45 : cod mX13_closeDay 45 (.iaload) 1 := by decide +kernel
theorem dX13_closeDay_46 : cod mX13_closeDay 46 (.imul) 1 := by decide +kernel
theorem dX13_closeDay_47 : cod mX13_closeDay 47 (.iadd) 1 := by decide +kernel
theorem dX13_closeDay_48 : cod mX13_closeDay 48 (.i2l) 1 := by decide +kernel
theorem dX13_closeDay_49 : cod mX13_closeDay 49 (.lmul) 1 := by decide +kernel
theorem dX13_closeDay_50 : cod mX13_closeDay 50 (.ladd) 1 := by decide +kernel
theorem dX13_closeDay_51 : cod mX13_closeDay 51 (.putfield 291) 3 := by decide +kernel
theorem dX13_closeDay_54 : cod mX13_closeDay 54 (.aload_n 0) 1 := by decide +kernel
theorem dX13_closeDay_55 : cod mX13_closeDay 55 (.dup) 1 := by decide +kernel
theorem dX13_closeDay_56 : cod mX13_closeDay 56 (.getfield 295) 3 := by decide +kernel
theorem dX13_closeDay_59 : cod mX13_closeDay 59 (.aload_n 0) 1 := by decide +kernel
theorem dX13_closeDay_60 : cod mX13_closeDay 60 (.getfield 75) 3 := by decide +kernel
theorem dX13_closeDay_63 : cod mX13_closeDay 63 (.iload_n 1) 1 := by decide +kernel
theorem dX13_closeDay_64 : cod mX13_closeDay 64 (.baload) 1 := by decide +kernel
theorem dX13_closeDay_65 : cod mX13_closeDay 65 (.ifCond .eq 7) 3 := by decide +kernel
theorem dX13_closeDay_68 : cod mX13_closeDay 68 (.lload_n 3) 1 := by decide +kernel
theorem dX13_closeDay_69 : cod mX13_closeDay 69 (.goto 4) 3 := by decide +kernel
theorem dX13_closeDay_72 : cod mX13_closeDay 72 (.lconst 0) 1 := by decide +kernel
theorem dX13_closeDay_73 : cod mX13_closeDay 73 (.ladd) 1 := by decide +kernel
theorem dX13_closeDay_74 : cod mX13_closeDay 74 (.putfield 295) 3 := by decide +kernel
theorem dX13_closeDay_77 : cod mX13_closeDay 77 (.iinc 2 1) 3 := by decide +kernel
theorem dX13_closeDay_80 : cod mX13_closeDay 80 (.goto (-78)) 3 := by decide +kernel
theorem dX13_closeDay_83 : cod mX13_closeDay 83 (.return_) 1 := by decide +kernel
def jn_X13_closeDay_73 (K2 : Nat → Int32 → Int32 → Mem → Prop) (Q : Mem → Prop) (x0 : Nat) (x1 : Int32) (x2 : Int32) (s0 : Int64) (s1 : Int64) (s2 : Nat) (M : Mem) : Prop := mK M s2 = 14 ∧ ∀ M15 : Mem, M15 = uJ M s2 36 (s1 + s0) → K2 x0 x1 (x2 + 1) M15
theorem P_jn_X13_closeDay_73 {G : GG} {K2 : Nat → Int32 → Int32 → Mem → Prop} {Q : Mem → Prop} (hK2 : ∀ (x0 : Nat) (x1 : Int32) (x2 : Int32) (M : Mem), K2 x0 x1 x2 M → PW G mX13_closeDay (rmD 0 0 0) (QV Q) 2 [some (.ref x0), some (.int x1), some (.int x2), none, none] [] M 0 0) (x0 : Nat) (x1 : Int32) (x2 : Int32) (s0 : Int64) (s1 : Int64) (s2 : Nat) (M : Mem) (h : jn_X13_closeDay_73 K2 Q x0 x1 x2 s0 s1 s2 M) : PW G mX13_closeDay (rmD 0 0 0) (QV Q) 73 [some (.ref x0), some (.int x1), some (.int x2), none, none] [.long s0, .long s1, .ref s2] M 0 0 := (s_ladd (pc := 73) dX13_closeDay_73 (s_putJ (pc := 74) dX13_closeDay_74 f_X13_295 (Or.inl rfl) rfl h.1 (nmM (fun M15 e16 => have h17 := h.2 M15 e16; s_iinc (pc := 77) (L1 := [some (.ref x0), some (.int x1), some (.int (x2 + 1)), none, none]) dX13_closeDay_77 rfl ci_1 (Nat.le_of_ble_eq_true rfl) rfl (s_goto (pc := 80) (tgt := 2) dX13_closeDay_80 rfl (s_sel (L1 := [some (.ref x0), some (.int x1), some (.int (x2 + 1)), none, none]) [true, true, true, false, false] rfl (hK2 x0 x1 (x2 + 1) M15 h17)))))))
def lp_X13_closeDay_2 (Q : Mem → Prop) : Nat → Nat → Int32 → Int32 → Mem → Prop
  | 0 => fun _ _ _ _ => False
  | n + 1 => fun x0 x1 x2 M => mK M x0 = 14 ∧ ((mI M x0 0) ≤ x2 → Q M) ∧ (¬ (mI M x0 0) ≤ x2 → mK M (mR M x0 28) = 21 ∧ vp_in ((6 * x1) + x2) (mN M (mR M x0 28)) ∧ ∀ y5 : Int64, y5 = mJ M (mR M x0 28) ((6 * x1) + x2).toNatClampNeg → mK M (mR M x0 30) = 20 ∧ vp_in x1 (mN M (mR M x0 30)) ∧ mK M (mR M x0 29) = 20 ∧ vp_in x1 (mN M (mR M x0 29)) ∧ mK M (mR M x0 2) = 20 ∧ vp_in x2 (mN M (mR M x0 2)) ∧ ∀ M8 : Mem, M8 = uJ M x0 35 ((mJ M x0 35) + (y5 * (((mI M (mR M x0 30) x1.toNatClampNeg) + ((mI M (mR M x0 29) x1.toNatClampNeg) * (mI M (mR M x0 2) x2.toNatClampNeg))).toInt64))) → mK M8 (mR M8 x0 34) = 22 ∧ vp_in x1 (mN M8 (mR M8 x0 34)) ∧ ((mI M8 (mR M8 x0 34) x1.toNatClampNeg) = (0 : Int32) → jn_X13_closeDay_73 (fun fx0 fx1 fx2 fM => lp_X13_closeDay_2 Q n fx0 fx1 fx2 fM) Q x0 x1 x2 0 (mJ M8 x0 36) x0 M8) ∧ (¬ (mI M8 (mR M8 x0 34) x1.toNatClampNeg) = (0 : Int32) → jn_X13_closeDay_73 (fun fx0 fx1 fx2 fM => lp_X13_closeDay_2 Q n fx0 fx1 fx2 fM) Q x0 x1 x2 y5 (mJ M8 x0 36) x0 M8))
theorem P_lp_X13_closeDay_2 {G : GG} {Q : Mem → Prop} : ∀ (n : Nat) (x0 : Nat) (x1 : Int32) (x2 : Int32) (M : Mem), lp_X13_closeDay_2 Q n x0 x1 x2 M → PW G mX13_closeDay (rmD 0 0 0) (QV Q) 2 [some (.ref x0), some (.int x1), some (.int x2), none, none] [] M 0 0 := by
  intro n
  induction n with
  | zero => intro x0 x1 x2 M h; exact h.elim
  | succ n ih =>
    intro x0 x1 x2 M h
    exact (s_iload_n (pc := 2) dX13_closeDay_2 rfl (s_aload_n (pc := 3) dX13_closeDay_3 rfl (s_getI (pc := 4) dX13_closeDay_4 f_X13_119 rfl h.1 (s_icmp_ge (pc := 7) (tgt := 83) dX13_closeDay_7 rfl (fun c1 => have h2 := h.2.1 c1; s_return (pc := 83) dX13_closeDay_83 rfl (Nat.zero_le _) (Nat.zero_le _) ⟨rfl, h2⟩) (fun c3 => have h4 := h.2.2 c3; s_aload_n (pc := 10) dX13_closeDay_10 rfl (s_getR (pc := 11) dX13_closeDay_11 f_X13_57 rfl h.1 (s_bipush (pc := 14) dX13_closeDay_14 cb_6 (s_iload_n (pc := 16) dX13_closeDay_16 rfl (s_imul (pc := 17) dX13_closeDay_17 (s_iload_n (pc := 18) dX13_closeDay_18 rfl (s_iadd (pc := 19) dX13_closeDay_19 (s_lal (pc := 20) dX13_closeDay_20 h4.1 h4.2.1 (nmJ (fun y5 e6 => have h7 := h4.2.2 y5 e6; s_lstore_n (pc := 21) (L1 := [some (.ref x0), some (.int x1), some (.int x2), some (.long y5), none]) dX13_closeDay_21 (Nat.le_of_ble_eq_true rfl) rfl (s_aload_n (pc := 22) dX13_closeDay_22 rfl (s_dup (pc := 23) dX13_closeDay_23 rfl (s_getJ (pc := 24) dX13_closeDay_24 f_X13_291 rfl h.1 (s_lload_n (pc := 27) dX13_closeDay_27 rfl (s_aload_n (pc := 28) dX13_closeDay_28 rfl (s_getR (pc := 29) dX13_closeDay_29 f_X13_63 rfl h.1 (s_iload_n (pc := 32) dX13_closeDay_32 rfl (s_ial (pc := 33) dX13_closeDay_33 h7.1 h7.2.1 (s_aload_n (pc := 34) dX13_closeDay_34 rfl (s_getR (pc := 35) dX13_closeDay_35 f_X13_60 rfl h.1 (s_iload_n (pc := 38) dX13_closeDay_38 rfl (s_ial (pc := 39) dX13_closeDay_39 h7.2.2.1 h7.2.2.2.1 (s_aload_n (pc := 40) dX13_closeDay_40 rfl (s_getR (pc := 41) dX13_closeDay_41 f_X13_13 rfl h.1 (s_iload_n (pc := 44) dX13_closeDay_44 rfl (s_ial (pc := 45) dX13_closeDay_45 h7.2.2.2.2.1 h7.2.2.2.2.2.1 (s_imul (pc := 46) dX13_closeDay_46 (s_iadd (pc := 47) dX13_closeDay_47 (s_i2l (pc := 48) dX13_closeDay_48 (s_lmul (pc := 49) dX13_closeDay_49 (s_ladd (pc := 50) dX13_closeDay_50 (s_putJ (pc := 51) dX13_closeDay_51 f_X13_291 (Or.inl rfl) rfl h.1 (nmM (fun M8 e9 => have h10 := h7.2.2.2.2.2.2 M8 e9; s_aload_n (pc := 54) dX13_closeDay_54 rfl (s_dup (pc := 55) dX13_closeDay_55 rfl (s_getJ (pc := 56) dX13_closeDay_56 f_X13_295 rfl ((congrFun (congrArg mK e9) x0).trans h.1) (s_aload_n (pc := 59) dX13_closeDay_59 rfl (s_getR (pc := 60) dX13_closeDay_60 f_X13_75 rfl ((congrFun (congrArg mK e9) x0).trans h.1) (s_iload_n (pc := 63) dX13_closeDay_63 rfl (s_zal (pc := 64) dX13_closeDay_64 h10.1 h10.2.1 (s_if_eq (pc := 65) (tgt := 72) dX13_closeDay_65 rfl (fun c11 => have h12 := h10.2.2.1 c11; s_lconst (pc := 72) (v := 0) dX13_closeDay_72 rfl (s_sel (L1 := [some (.ref x0), some (.int x1), some (.int x2), none, none]) [true, true, true, false, false] rfl (P_jn_X13_closeDay_73 ih x0 x1 x2 0 (mJ M8 x0 36) x0 M8 h12))) (fun c13 => have h14 := h10.2.2.2 c13; s_lload_n (pc := 68) dX13_closeDay_68 rfl (s_goto (pc := 69) (tgt := 73) dX13_closeDay_69 rfl (s_sel (L1 := [some (.ref x0), some (.int x1), some (.int x2), none, none]) [true, true, true, false, false] rfl (P_jn_X13_closeDay_73 ih x0 x1 x2 y5 (mJ M8 x0 36) x0 M8 h14)))))))))))))))))))))))))))))))))))))))))))))))))
def wp_X13_closeDay (p0 : Nat) (p1 : Int32) (M : Mem) (Q : Mem → Prop) : Prop := ∃ n18 : Nat, lp_X13_closeDay_2 Q n18 p0 p1 0 M
theorem T_X13_closeDay {G : GG} {Q : Mem → Prop} {M : Mem} {p0 : Nat} {p1 : Int32} (h : wp_X13_closeDay p0 p1 M Q) : PMet G mX13_closeDay 0 0 0 [.ref p0, .int p1] M (QV Q) :=
  mk_met (by decide) rfl rfl (by
    intro w hw x9 e9
    subst e9
    simp at hw) (Nat.le_of_ble_eq_true rfl) (s_pad (L1 := [some (.ref p0), some (.int p1), none, none, none]) 5 rfl (s_iconst (pc := 0) dX13_closeDay_0 ci_0 (s_istore_n (pc := 1) (L1 := [some (.ref p0), some (.int p1), some (.int 0), none, none]) dX13_closeDay_1 (Nat.le_of_ble_eq_true rfl) rfl (Exists.elim h (fun n18 hn => s_sel (L1 := [some (.ref p0), some (.int p1), some (.int 0), none, none]) [true, true, true, false, false] rfl (P_lp_X13_closeDay_2 n18 p0 p1 0 M hn))))))
/-! X13_goAll -/
theorem dX13_goAll_0 : cod mX13_goAll 0 (.aload_n 0) 1 := by decide +kernel
theorem dX13_goAll_1 : cod mX13_goAll 1 (.invokevirtual 278) 3 := by decide +kernel
theorem dX13_goAll_4 : cod mX13_goAll 4 (.aload_n 0) 1 := by decide +kernel
theorem dX13_goAll_5 : cod mX13_goAll 5 (.lconst 0) 1 := by decide +kernel
theorem dX13_goAll_6 : cod mX13_goAll 6 (.putfield 291) 3 := by decide +kernel
theorem dX13_goAll_9 : cod mX13_goAll 9 (.aload_n 0) 1 := by decide +kernel
theorem dX13_goAll_10 : cod mX13_goAll 10 (.lconst 0) 1 := by decide +kernel
theorem dX13_goAll_11 : cod mX13_goAll 11 (.putfield 295) 3 := by decide +kernel
theorem dX13_goAll_14 : cod mX13_goAll 14 (.iconst 0) 1 := by decide +kernel
theorem dX13_goAll_15 : cod mX13_goAll 15 (.istore_n 3) 1 := by decide +kernel
theorem dX13_goAll_16 : cod mX13_goAll 16 (.iload_n 3) 1 := by decide +kernel
theorem dX13_goAll_17 : cod mX13_goAll 17 (.aload_n 0) 1 := by decide +kernel
theorem dX13_goAll_18 : cod mX13_goAll 18 (.getfield 119) 3 := by decide +kernel
theorem dX13_goAll_21 : cod mX13_goAll 21 (.if_icmp .ge 35) 3 := by decide +kernel
theorem dX13_goAll_24 : cod mX13_goAll 24 (.aload_n 0) 1 := by decide +kernel
theorem dX13_goAll_25 : cod mX13_goAll 25 (.getfield 54) 3 := by decide +kernel
theorem dX13_goAll_28 : cod mX13_goAll 28 (.iload_n 3) 1 := by decide +kernel
theorem dX13_goAll_29 : cod mX13_goAll 29 (.aload_n 0) 1 := by decide +kernel
theorem dX13_goAll_30 : cod mX13_goAll 30 (.getfield 7) 3 := by decide +kernel
theorem dX13_goAll_33 : cod mX13_goAll 33 (.iload_n 3) 1 := by decide +kernel
theorem dX13_goAll_34 : cod mX13_goAll 34 (.iaload) 1 := by decide +kernel
theorem dX13_goAll_35 : cod mX13_goAll 35 (.i2l) 1 := by decide +kernel
theorem dX13_goAll_36 : cod mX13_goAll 36 (.lastore) 1 := by decide +kernel
theorem dX13_goAll_37 : cod mX13_goAll 37 (.aload_n 0) 1 := by decide +kernel
theorem dX13_goAll_38 : cod mX13_goAll 38 (.getfield 57) 3 := by decide +kernel
theorem dX13_goAll_41 : cod mX13_goAll 41 (.iload_n 3) 1 := by decide +kernel
theorem dX13_goAll_42 : cod mX13_goAll 42 (.aload_n 0) 1 := by decide +kernel
theorem dX13_goAll_43 : cod mX13_goAll 43 (.getfield 7) 3 := by decide +kernel
theorem dX13_goAll_46 : cod mX13_goAll 46 (.iload_n 3) 1 := by decide +kernel
theorem dX13_goAll_47 : cod mX13_goAll 47 (.iaload) 1 := by decide +kernel
theorem dX13_goAll_48 : cod mX13_goAll 48 (.i2l) 1 := by decide +kernel
theorem dX13_goAll_49 : cod mX13_goAll 49 (.lastore) 1 := by decide +kernel
theorem dX13_goAll_50 : cod mX13_goAll 50 (.iinc 3 1) 3 := by decide +kernel
theorem dX13_goAll_53 : cod mX13_goAll 53 (.goto (-37)) 3 := by decide +kernel
theorem dX13_goAll_56 : cod mX13_goAll 56 (.aload_n 0) 1 := by decide +kernel
theorem dX13_goAll_57 : cod mX13_goAll 57 (.getfield 60) 3 := by decide +kernel
theorem dX13_goAll_60 : cod mX13_goAll 60 (.iconst 0) 1 := by decide +kernel
theorem dX13_goAll_61 : cod mX13_goAll 61 (.iconst 0) 1 := by decide +kernel
theorem dX13_goAll_62 : cod mX13_goAll 62 (.iastore) 1 := by decide +kernel
theorem dX13_goAll_63 : cod mX13_goAll 63 (.aload_n 0) 1 := by decide +kernel
theorem dX13_goAll_64 : cod mX13_goAll 64 (.getfield 63) 3 := by decide +kernel
theorem dX13_goAll_67 : cod mX13_goAll 67 (.iconst 0) 1 := by decide +kernel
theorem dX13_goAll_68 : cod mX13_goAll 68 (.iconst 0) 1 := by decide +kernel
theorem dX13_goAll_69 : cod mX13_goAll 69 (.iastore) 1 := by decide +kernel
theorem dX13_goAll_70 : cod mX13_goAll 70 (.aload_n 0) 1 := by decide +kernel
theorem dX13_goAll_71 : cod mX13_goAll 71 (.getfield 75) 3 := by decide +kernel
theorem dX13_goAll_74 : cod mX13_goAll 74 (.iconst 0) 1 := by decide +kernel
theorem dX13_goAll_75 : cod mX13_goAll 75 (.iconst 0) 1 := by decide +kernel
theorem dX13_goAll_76 : cod mX13_goAll 76 (.bastore) 1 := by decide +kernel
theorem dX13_goAll_77 : cod mX13_goAll 77 (.iconst 0) 1 := by decide +kernel
theorem dX13_goAll_78 : cod mX13_goAll 78 (.istore_n 3) 1 := by decide +kernel
theorem dX13_goAll_79 : cod mX13_goAll 79 (.aload_n 0) 1 := by decide +kernel
theorem dX13_goAll_80 : cod mX13_goAll 80 (.iconst 0) 1 := by decide +kernel
theorem dX13_goAll_81 : cod mX13_goAll 81 (.iload_n 1) 1 := by decide +kernel
theorem dX13_goAll_82 : cod mX13_goAll 82 (.iload_n 2) 1 := by decide +kernel
theorem dX13_goAll_83 : cod mX13_goAll 83 (.invokevirtual 301) 3 := by decide +kernel
theorem dX13_goAll_86 : cod mX13_goAll 86 (.iload_n 3) 1 := by decide +kernel
theorem dX13_goAll_87 : cod mX13_goAll 87 (.ifCond .lt 76) 3 := by decide +kernel
theorem dX13_goAll_90 : cod mX13_goAll 90 (.aload_n 0) 1 := by decide +kernel
theorem dX13_goAll_91 : cod mX13_goAll 91 (.getfield 66) 3 := by decide +kernel
theorem dX13_goAll_94 : cod mX13_goAll 94 (.iload_n 3) 1 := by decide +kernel
theorem dX13_goAll_95 : cod mX13_goAll 95 (.dup2) 1 := by decide +kernel
theorem dX13_goAll_96 : cod mX13_goAll 96 (.iaload) 1 := by decide +kernel
theorem dX13_goAll_97 : cod mX13_goAll 97 (.iconst 1) 1 := by decide +kernel
theorem dX13_goAll_98 : cod mX13_goAll 98 (.iadd) 1 := by decide +kernel
theorem dX13_goAll_99 : cod mX13_goAll 99 (.iastore) 1 := by decide +kernel
theorem dX13_goAll_100 : cod mX13_goAll 100 (.aload_n 0) 1 := by decide +kernel
theorem dX13_goAll_101 : cod mX13_goAll 101 (.getfield 66) 3 := by decide +kernel
theorem dX13_goAll_104 : cod mX13_goAll 104 (.iload_n 3) 1 := by decide +kernel
theorem dX13_goAll_105 : cod mX13_goAll 105 (.iaload) 1 := by decide +kernel
theorem dX13_goAll_106 : cod mX13_goAll 106 (.iconst 3) 1 := by decide +kernel
theorem dX13_goAll_107 : cod mX13_goAll 107 (.if_icmp .ne 9) 3 := by decide +kernel
theorem dX13_goAll_110 : cod mX13_goAll 110 (.iinc 3 (-1)) 3 := by decide +kernel
theorem dX13_goAll_113 : cod mX13_goAll 113 (.goto (-27)) 3 := by decide +kernel
theorem dX13_goAll_116 : cod mX13_goAll 116 (.aload_n 0) 1 := by decide +kernel
theorem dX13_goAll_117 : cod mX13_goAll 117 (.iload_n 3) 1 := by decide +kernel
theorem dX13_goAll_118 : cod mX13_goAll 118 (.aload_n 0) 1 := by decide +kernel
theorem dX13_goAll_119 : cod mX13_goAll 119 (.getfield 66) 3 := by decide +kernel
theorem dX13_goAll_122 : cod mX13_goAll 122 (.iload_n 3) 1 := by decide +kernel
theorem dX13_goAll_123 : cod mX13_goAll 123 (.iaload) 1 := by decide +kernel
theorem dX13_goAll_124 : cod mX13_goAll 124 (.invokevirtual 304) 3 := by decide +kernel
theorem dX13_goAll_127 : cod mX13_goAll 127 (.ifCond .eq (-41)) 3 := by decide +kernel
theorem dX13_goAll_130 : cod mX13_goAll 130 (.iload_n 3) 1 := by decide +kernel
theorem dX13_goAll_131 : cod mX13_goAll 131 (.iconst 1) 1 := by decide +kernel
theorem dX13_goAll_132 : cod mX13_goAll 132 (.iadd) 1 := by decide +kernel
theorem dX13_goAll_133 : cod mX13_goAll 133 (.aload_n 0) 1 := by decide +kernel
theorem dX13_goAll_134 : cod mX13_goAll 134 (.getfield 29) 3 := by decide +kernel
theorem dX13_goAll_137 : cod mX13_goAll 137 (.if_icmp .ne 13) 3 := by decide +kernel
theorem dX13_goAll_140 : cod mX13_goAll 140 (.aload_n 0) 1 := by decide +kernel
theorem dX13_goAll_141 : cod mX13_goAll 141 (.iload_n 3) 1 := by decide +kernel
theorem dX13_goAll_142 : cod mX13_goAll 142 (.iconst 1) 1 := by decide +kernel
theorem dX13_goAll_143 : cod mX13_goAll 143 (.iadd) 1 := by decide +kernel
theorem dX13_goAll_144 : cod mX13_goAll 144 (.invokevirtual 307) 3 := by decide +kernel
theorem dX13_goAll_147 : cod mX13_goAll 147 (.goto (-61)) 3 := by decide +kernel
theorem dX13_goAll_150 : cod mX13_goAll 150 (.iinc 3 1) 3 := by decide +kernel
theorem dX13_goAll_153 : cod mX13_goAll 153 (.aload_n 0) 1 := by decide +kernel
theorem dX13_goAll_154 : cod mX13_goAll 154 (.iload_n 3) 1 := by decide +kernel
theorem dX13_goAll_155 : cod mX13_goAll 155 (.iload_n 1) 1 := by decide +kernel
theorem dX13_goAll_156 : cod mX13_goAll 156 (.iload_n 2) 1 := by decide +kernel
theorem dX13_goAll_157 : cod mX13_goAll 157 (.invokevirtual 301) 3 := by decide +kernel
theorem dX13_goAll_160 : cod mX13_goAll 160 (.goto (-74)) 3 := by decide +kernel
theorem dX13_goAll_163 : cod mX13_goAll 163 (.return_) 1 := by decide +kernel
def lp_X13_goAll_86 (Q : Mem → Prop) : Nat → Nat → Int32 → Int32 → Int32 → Mem → Prop
  | 0 => fun _ _ _ _ _ => False
  | n + 1 => fun x0 x1 x2 x3 M => (x3 < (0 : Int32) → Q M) ∧ (¬ x3 < (0 : Int32) → mK M x0 = 14 ∧ mK M (mR M x0 31) = 20 ∧ vp_in x3 (mN M (mR M x0 31)) ∧ vp_in x3 (mN M (mR M x0 31)) ∧ ∀ M28 : Mem, M28 = uI M (mR M x0 31) x3.toNatClampNeg ((mI M (mR M x0 31) x3.toNatClampNeg) + 1) → mK M28 (mR M28 x0 31) = 20 ∧ vp_in x3 (mN M28 (mR M28 x0 31)) ∧ (¬ (mI M28 (mR M28 x0 31) x3.toNatClampNeg) = (3 : Int32) → vp_in x3 (mN M28 (mR M28 x0 31)) ∧ wp_X13_stepTo x0 x3 (mI M28 (mR M28 x0 31) x3.toNatClampNeg) M28 (fun r37 M36 => (r37 = (0 : Int32) → (lp_X13_goAll_86 Q n) x0 x1 x2 x3 M36) ∧ (¬ r37 = (0 : Int32) → mK M36 x0 = 14 ∧ (¬ (x3 + 1) = (mI M36 x0 9) → wp_X13_openHour x0 (x3 + 1) x1 x2 M36 (fun M47 => (lp_X13_goAll_86 Q n) x0 x1 x2 (x3 + 1) M47)) ∧ ((x3 + 1) = (mI M36 x0 9) → wp_X13_closeDay x0 (x3 + 1) M36 (fun M49 => (lp_X13_goAll_86 Q n) x0 x1 x2 x3 M49))))) ∧ ((mI M28 (mR M28 x0 31) x3.toNatClampNeg) = (3 : Int32) → (lp_X13_goAll_86 Q n) x0 x1 x2 (x3 + (-1)) M28))
theorem P_lp_X13_goAll_86 {G : GG} {Q : Mem → Prop} : ∀ (n : Nat) (x0 : Nat) (x1 : Int32) (x2 : Int32) (x3 : Int32) (M : Mem), lp_X13_goAll_86 Q n x0 x1 x2 x3 M → PW G mX13_goAll (rmD 5 0 0) (QV Q) 86 [some (.ref x0), some (.int x1), some (.int x2), some (.int x3)] [] M 0 0 := by
  intro n
  induction n with
  | zero => intro x0 x1 x2 x3 M h; exact h.elim
  | succ n ih =>
    intro x0 x1 x2 x3 M h
    exact (s_iload_n (pc := 86) dX13_goAll_86 rfl (s_if_lt (pc := 87) (tgt := 163) dX13_goAll_87 rfl (fun c24 => have h25 := h.1 c24; s_return (pc := 163) dX13_goAll_163 rfl (Nat.zero_le _) (Nat.zero_le _) ⟨rfl, h25⟩) (fun c26 => have h27 := h.2 c26; s_aload_n (pc := 90) dX13_goAll_90 rfl (s_getR (pc := 91) dX13_goAll_91 f_X13_66 rfl h27.1 (s_iload_n (pc := 94) dX13_goAll_94 rfl (s_dup2 (pc := 95) dX13_goAll_95 rfl rfl (s_ial (pc := 96) dX13_goAll_96 h27.2.1 h27.2.2.1 (s_iconst (pc := 97) dX13_goAll_97 ci_1 (s_iadd (pc := 98) dX13_goAll_98 (s_ias (pc := 99) dX13_goAll_99 h27.2.1 h27.2.2.2.1 (nmM (fun M28 e29 => have h30 := (h27.2.2.2.2) M28 e29; s_aload_n (pc := 100) dX13_goAll_100 rfl (s_getR (pc := 101) dX13_goAll_101 f_X13_66 rfl ((congrFun (congrArg mK e29) x0).trans h27.1) (s_iload_n (pc := 104) dX13_goAll_104 rfl (s_ial (pc := 105) dX13_goAll_105 h30.1 h30.2.1 (s_iconst (pc := 106) dX13_goAll_106 ci_3 (s_icmp_ne (pc := 107) (tgt := 116) dX13_goAll_107 rfl (fun c31 => have h32 := h30.2.2.1 c31; s_aload_n (pc := 116) dX13_goAll_116 rfl (s_iload_n (pc := 117) dX13_goAll_117 rfl (s_aload_n (pc := 118) dX13_goAll_118 rfl (s_getR (pc := 119) dX13_goAll_119 f_X13_66 rfl ((congrFun (congrArg mK e29) x0).trans h27.1) (s_iload_n (pc := 122) dX13_goAll_122 rfl (s_ial (pc := 123) dX13_goAll_123 h30.1 h32.1 (s_callV (pc := 124) (As := [.int x3, .int (mI M28 (mR M28 x0 31) x3.toNatClampNeg)]) (rest := []) (d' := 3) (mc' := 0) (ms' := 0) dX13_goAll_124 c_X13_304 (Nat.le_of_ble_eq_true rfl) rfl ((congrFun (congrArg mK e29) x0).trans h27.1) rfl rfl (Nat.le_of_ble_eq_true rfl) (rm_ok rfl rfl) ⟨Nat.le_refl 0, Nat.le_refl 0⟩ (T_X13_stepTo h32.2) (kkI (fun r37 M36 h35 => s_if_eq (pc := 127) (tgt := 86) dX13_goAll_127 rfl (fun c38 => have h39 := h35.1 c38; s_sel (L1 := [some (.ref x0), some (.int x1), some (.int x2), some (.int x3)]) [true, true, true, true] rfl (ih x0 x1 x2 x3 M36 h39)) (fun c40 => have h41 := h35.2 c40; s_iload_n (pc := 130) dX13_goAll_130 rfl (s_iconst (pc := 131) dX13_goAll_131 ci_1 (s_iadd (pc := 132) dX13_goAll_132 (s_aload_n (pc := 133) dX13_goAll_133 rfl (s_getI (pc := 134) dX13_goAll_134 f_X13_29 rfl h41.1 (s_icmp_ne (pc := 137) (tgt := 150) dX13_goAll_137 rfl (fun c42 => have h43 := h41.2.1 c42; s_iinc (pc := 150) (L1 := [some (.ref x0), some (.int x1), some (.int x2), some (.int (x3 + 1))]) dX13_goAll_150 rfl ci_1 (Nat.le_of_ble_eq_true rfl) rfl (s_aload_n (pc := 153) dX13_goAll_153 rfl (s_iload_n (pc := 154) dX13_goAll_154 rfl (s_iload_n (pc := 155) dX13_goAll_155 rfl (s_iload_n (pc := 156) dX13_goAll_156 rfl (s_callV (pc := 157) (As := [.int (x3 + 1), .int x1, .int x2]) (rest := []) (d' := 4) (mc' := 0) (ms' := 0) dX13_goAll_157 c_X13_301 (Nat.le_of_ble_eq_true rfl) rfl h41.1 rfl rfl (Nat.le_of_ble_eq_true rfl) (rm_ok rfl rfl) ⟨Nat.le_refl 0, Nat.le_refl 0⟩ (T_X13_openHour h43) (kkV (fun M47 h46 => s_goto (pc := 160) (tgt := 86) dX13_goAll_160 rfl (s_sel (L1 := [some (.ref x0), some (.int x1), some (.int x2), some (.int (x3 + 1))]) [true, true, true, true] rfl (ih x0 x1 x2 (x3 + 1) M47 h46)))))))))) (fun c44 => have h45 := h41.2.2 c44; s_aload_n (pc := 140) dX13_goAll_140 rfl (s_iload_n (pc := 141) dX13_goAll_141 rfl (s_iconst (pc := 142) dX13_goAll_142 ci_1 (s_iadd (pc := 143) dX13_goAll_143 (s_callV (pc := 144) (As := [.int (x3 + 1)]) (rest := []) (d' := 0) (mc' := 0) (ms' := 0) dX13_goAll_144 c_X13_307 (Nat.le_of_ble_eq_true rfl) rfl h41.1 rfl rfl (Nat.le_of_ble_eq_true rfl) (rm_ok rfl rfl) ⟨Nat.le_refl 0, Nat.le_refl 0⟩ (T_X13_closeDay h45) (kkV (fun M49 h48 => s_goto (pc := 147) (tgt := 86) dX13_goAll_147 rfl (s_sel (L1 := [some (.ref x0), some (.int x1), some (.int x2), some (.int x3)]) [true, true, true, true] rfl (ih x0 x1 x2 x3 M49 h48)))))))))))))))))))))))) (fun c33 => have h34 := h30.2.2.2 c33; s_iinc (pc := 110) (L1 := [some (.ref x0), some (.int x1), some (.int x2), some (.int (x3 + (-1)))]) dX13_goAll_110 rfl ci_m1 (Nat.le_of_ble_eq_true rfl) rfl (s_goto (pc := 113) (tgt := 86) dX13_goAll_113 rfl (s_sel (L1 := [some (.ref x0), some (.int x1), some (.int x2), some (.int (x3 + (-1)))]) [true, true, true, true] rfl (ih x0 x1 x2 (x3 + (-1)) M28 h34)))))))))))))))))))))
def lp_X13_goAll_16 (Q : Mem → Prop) : Nat → Nat → Int32 → Int32 → Int32 → Mem → Prop
  | 0 => fun _ _ _ _ _ => False
  | n + 1 => fun x0 x1 x2 x3 M => mK M x0 = 14 ∧ ((mI M x0 0) ≤ x3 → mK M (mR M x0 29) = 20 ∧ vp_in (0 : Int32) (mN M (mR M x0 29)) ∧ ∀ M13 : Mem, M13 = uI M (mR M x0 29) (0 : Int32).toNatClampNeg 0 → mK M13 (mR M13 x0 30) = 20 ∧ vp_in (0 : Int32) (mN M13 (mR M13 x0 30)) ∧ ∀ M16 : Mem, M16 = uI M13 (mR M13 x0 30) (0 : Int32).toNatClampNeg 0 → mK M16 (mR M16 x0 34) = 22 ∧ vp_in (0 : Int32) (mN M16 (mR M16 x0 34)) ∧ ∀ M19 : Mem, M19 = uI M16 (mR M16 x0 34) (0 : Int32).toNatClampNeg (vp_nar .boolean 0) → wp_X13_openHour x0 0 x1 x2 M19 (fun M23 => ∃ n50 : Nat, lp_X13_goAll_86 Q n50 x0 x1 x2 0 M23)) ∧ (¬ (mI M x0 0) ≤ x3 → mK M (mR M x0 1) = 20 ∧ vp_in x3 (mN M (mR M x0 1)) ∧ mK M (mR M x0 27) = 21 ∧ vp_in x3 (mN M (mR M x0 27)) ∧ ∀ M51 : Mem, M51 = uJ M (mR M x0 27) x3.toNatClampNeg ((mI M (mR M x0 1) x3.toNatClampNeg).toInt64) → mK M51 (mR M51 x0 1) = 20 ∧ vp_in x3 (mN M51 (mR M51 x0 1)) ∧ mK M51 (mR M51 x0 28) = 21 ∧ vp_in x3 (mN M51 (mR M51 x0 28)) ∧ ∀ M54 : Mem, M54 = uJ M51 (mR M51 x0 28) x3.toNatClampNeg ((mI M51 (mR M51 x0 1) x3.toNatClampNeg).toInt64) → (lp_X13_goAll_16 Q n) x0 x1 x2 (x3 + 1) M54)
theorem P_lp_X13_goAll_16 {G : GG} {Q : Mem → Prop} : ∀ (n : Nat) (x0 : Nat) (x1 : Int32) (x2 : Int32) (x3 : Int32) (M : Mem), lp_X13_goAll_16 Q n x0 x1 x2 x3 M → PW G mX13_goAll (rmD 5 0 0) (QV Q) 16 [some (.ref x0), some (.int x1), some (.int x2), some (.int x3)] [] M 0 0 := by
  intro n
  induction n with
  | zero => intro x0 x1 x2 x3 M h; exact h.elim
  | succ n ih =>
    intro x0 x1 x2 x3 M h
    exact (s_iload_n (pc := 16) dX13_goAll_16 rfl (s_aload_n (pc := 17) dX13_goAll_17 rfl (s_getI (pc := 18) dX13_goAll_18 f_X13_119 rfl h.1 (s_icmp_ge (pc := 21) (tgt := 56) dX13_goAll_21 rfl (fun c9 => have h10 := h.2.1 c9; s_aload_n (pc := 56) dX13_goAll_56 rfl (s_getR (pc := 57) dX13_goAll_57 f_X13_60 rfl h.1 (s_iconst (pc := 60) dX13_goAll_60 ci_0 (s_iconst (pc := 61) dX13_goAll_61 ci_0 (s_ias (pc := 62) dX13_goAll_62 h10.1 h10.2.1 (nmM (fun M13 e14 => have h15 := (h10.2.2) M13 e14; s_aload_n (pc := 63) dX13_goAll_63 rfl (s_getR (pc := 64) dX13_goAll_64 f_X13_63 rfl ((congrFun (congrArg mK e14) x0).trans h.1) (s_iconst (pc := 67) dX13_goAll_67 ci_0 (s_iconst (pc := 68) dX13_goAll_68 ci_0 (s_ias (pc := 69) dX13_goAll_69 h15.1 h15.2.1 (nmM (fun M16 e17 => have h18 := (h15.2.2) M16 e17; s_aload_n (pc := 70) dX13_goAll_70 rfl (s_getR (pc := 71) dX13_goAll_71 f_X13_75 rfl ((congrFun (congrArg mK e17) x0).trans ((congrFun (congrArg mK e14) x0).trans h.1)) (s_iconst (pc := 74) dX13_goAll_74 ci_0 (s_iconst (pc := 75) dX13_goAll_75 ci_0 (s_zas (pc := 76) dX13_goAll_76 h18.1 h18.2.1 (nmM (fun M19 e20 => have h21 := (h18.2.2) M19 e20; s_iconst (pc := 77) dX13_goAll_77 ci_0 (s_istore_n (pc := 78) (L1 := [some (.ref x0), some (.int x1), some (.int x2), some (.int 0)]) dX13_goAll_78 (Nat.le_of_ble_eq_true rfl) rfl (s_aload_n (pc := 79) dX13_goAll_79 rfl (s_iconst (pc := 80) dX13_goAll_80 ci_0 (s_iload_n (pc := 81) dX13_goAll_81 rfl (s_iload_n (pc := 82) dX13_goAll_82 rfl (s_callV (pc := 83) (As := [.int 0, .int x1, .int x2]) (rest := []) (d' := 4) (mc' := 0) (ms' := 0) dX13_goAll_83 c_X13_301 (Nat.le_of_ble_eq_true rfl) rfl ((congrFun (congrArg mK e20) x0).trans ((congrFun (congrArg mK e17) x0).trans ((congrFun (congrArg mK e14) x0).trans h.1))) rfl rfl (Nat.le_of_ble_eq_true rfl) (rm_ok rfl rfl) ⟨Nat.le_refl 0, Nat.le_refl 0⟩ (T_X13_openHour h21) (kkV (fun M23 h22 => Exists.elim h22 (fun n50 hn => s_sel (L1 := [some (.ref x0), some (.int x1), some (.int x2), some (.int 0)]) [true, true, true, true] rfl (P_lp_X13_goAll_86 n50 x0 x1 x2 0 M23 hn))))))))))))))))))))))))))))) (fun c11 => have h12 := h.2.2 c11; s_aload_n (pc := 24) dX13_goAll_24 rfl (s_getR (pc := 25) dX13_goAll_25 f_X13_54 rfl h.1 (s_iload_n (pc := 28) dX13_goAll_28 rfl (s_aload_n (pc := 29) dX13_goAll_29 rfl (s_getR (pc := 30) dX13_goAll_30 f_X13_7 rfl h.1 (s_iload_n (pc := 33) dX13_goAll_33 rfl (s_ial (pc := 34) dX13_goAll_34 h12.1 h12.2.1 (s_i2l (pc := 35) dX13_goAll_35 (s_las (pc := 36) dX13_goAll_36 h12.2.2.1 h12.2.2.2.1 (nmM (fun M51 e52 => have h53 := (h12.2.2.2.2) M51 e52; s_aload_n (pc := 37) dX13_goAll_37 rfl (s_getR (pc := 38) dX13_goAll_38 f_X13_57 rfl ((congrFun (congrArg mK e52) x0).trans h.1) (s_iload_n (pc := 41) dX13_goAll_41 rfl (s_aload_n (pc := 42) dX13_goAll_42 rfl (s_getR (pc := 43) dX13_goAll_43 f_X13_7 rfl ((congrFun (congrArg mK e52) x0).trans h.1) (s_iload_n (pc := 46) dX13_goAll_46 rfl (s_ial (pc := 47) dX13_goAll_47 h53.1 h53.2.1 (s_i2l (pc := 48) dX13_goAll_48 (s_las (pc := 49) dX13_goAll_49 h53.2.2.1 h53.2.2.2.1 (nmM (fun M54 e55 => have h56 := (h53.2.2.2.2) M54 e55; s_iinc (pc := 50) (L1 := [some (.ref x0), some (.int x1), some (.int x2), some (.int (x3 + 1))]) dX13_goAll_50 rfl ci_1 (Nat.le_of_ble_eq_true rfl) rfl (s_goto (pc := 53) (tgt := 16) dX13_goAll_53 rfl (s_sel (L1 := [some (.ref x0), some (.int x1), some (.int x2), some (.int (x3 + 1))]) [true, true, true, true] rfl (ih x0 x1 x2 (x3 + 1) M54 h56))))))))))))))))))))))))))))
def wp_X13_goAll (p0 : Nat) (p1 : Int32) (p2 : Int32) (M : Mem) (Q : Mem → Prop) : Prop := mK M p0 = 14 ∧ wp_X13_findChanceMean p0 M (fun M2 => mK M2 p0 = 14 ∧ ∀ M3 : Mem, M3 = uJ M2 p0 35 0 → ∀ M6 : Mem, M6 = uJ M3 p0 36 0 → ∃ n57 : Nat, lp_X13_goAll_16 Q n57 p0 p1 p2 0 M6)
theorem T_X13_goAll {G : GG} {Q : Mem → Prop} {M : Mem} {p0 : Nat} {p1 : Int32} {p2 : Int32} (h : wp_X13_goAll p0 p1 p2 M Q) : PMet G mX13_goAll 5 0 0 [.ref p0, .int p1, .int p2] M (QV Q) :=
  mk_met (by decide) rfl rfl (by
    intro w hw x9 e9
    subst e9
    simp at hw) (Nat.le_of_ble_eq_true rfl) (s_pad (L1 := [some (.ref p0), some (.int p1), some (.int p2), none]) 4 rfl (s_aload_n (pc := 0) dX13_goAll_0 rfl (s_callV (pc := 1) (As := []) (rest := []) (d' := 0) (mc' := 0) (ms' := 0) dX13_goAll_1 c_X13_278 (Nat.le_of_ble_eq_true rfl) rfl h.1 rfl rfl (Nat.le_of_ble_eq_true rfl) (rm_ok rfl rfl) ⟨Nat.le_refl 0, Nat.le_refl 0⟩ (T_X13_findChanceMean h.2) (kkV (fun M2 h1 => s_aload_n (pc := 4) dX13_goAll_4 rfl (s_lconst (pc := 5) (v := 0) dX13_goAll_5 rfl (s_putJ (pc := 6) dX13_goAll_6 f_X13_291 (Or.inl rfl) rfl h1.1 (nmM (fun M3 e4 => have h5 := h1.2 M3 e4; s_aload_n (pc := 9) dX13_goAll_9 rfl (s_lconst (pc := 10) (v := 0) dX13_goAll_10 rfl (s_putJ (pc := 11) dX13_goAll_11 f_X13_295 (Or.inl rfl) rfl ((congrFun (congrArg mK e4) p0).trans h1.1) (nmM (fun M6 e7 => have h8 := h5 M6 e7; s_iconst (pc := 14) dX13_goAll_14 ci_0 (s_istore_n (pc := 15) (L1 := [some (.ref p0), some (.int p1), some (.int p2), some (.int 0)]) dX13_goAll_15 (Nat.le_of_ble_eq_true rfl) rfl (Exists.elim h8 (fun n57 hn => s_sel (L1 := [some (.ref p0), some (.int p1), some (.int p2), some (.int 0)]) [true, true, true, true] rfl (P_lp_X13_goAll_16 n57 p0 p1 p2 0 M6 hn)))))))))))))))))
/-! X13_bestWay -/
theorem dX13_bestWay_0 : cod mX13_bestWay 0 (.aload_n 0) 1 := by decide +kernel
theorem dX13_bestWay_1 : cod mX13_bestWay 1 (.iconst 0) 1 := by decide +kernel
theorem dX13_bestWay_2 : cod mX13_bestWay 2 (.putfield 115) 3 := by decide +kernel
theorem dX13_bestWay_5 : cod mX13_bestWay 5 (.iload_n 1) 1 := by decide +kernel
theorem dX13_bestWay_6 : cod mX13_bestWay 6 (.i2l) 1 := by decide +kernel
theorem dX13_bestWay_7 : cod mX13_bestWay 7 (.lconst 0) 1 := by decide +kernel
theorem dX13_bestWay_8 : cod mX13_bestWay 8 (.ldc2_w 273) 3 := by decide +kernel
theorem dX13_bestWay_11 : cod mX13_bestWay 11 (.invokestatic 122) 3 := by decide +kernel
theorem dX13_bestWay_14 : cod mX13_bestWay 14 (.ifCond .eq 15) 3 := by decide +kernel
theorem dX13_bestWay_17 : cod mX13_bestWay 17 (.iload_n 2) 1 := by decide +kernel
theorem dX13_bestWay_18 : cod mX13_bestWay 18 (.i2l) 1 := by decide +kernel
theorem dX13_bestWay_19 : cod mX13_bestWay 19 (.lconst 0) 1 := by decide +kernel
theorem dX13_bestWay_20 : cod mX13_bestWay 20 (.ldc2_w 346) 3 := by decide +kernel
theorem dX13_bestWay_23 : cod mX13_bestWay 23 (.invokestatic 122) 3 := by decide +kernel
theorem dX13_bestWay_26 : cod mX13_bestWay 26 (.ifCond .ne 5) 3 := by decide +kernel
theorem dX13_bestWay_29 : cod mX13_bestWay 29 (.iconst (-1)) 1 := by decide +kernel
theorem dX13_bestWay_30 : cod mX13_bestWay 30 (.ireturn) 1 := by decide +kernel
theorem dX13_bestWay_31 : cod mX13_bestWay 31 (.aload_n 0) 1 := by decide +kernel
theorem dX13_bestWay_32 : cod mX13_bestWay 32 (.iload_n 1) 1 := by decide +kernel
theorem dX13_bestWay_33 : cod mX13_bestWay 33 (.invokevirtual 176) 3 := by decide +kernel
theorem dX13_bestWay_36 : cod mX13_bestWay 36 (.ifCond .ge 9) 3 := by decide +kernel
theorem dX13_bestWay_39 : cod mX13_bestWay 39 (.aload_n 0) 1 := by decide +kernel
theorem dX13_bestWay_40 : cod mX13_bestWay 40 (.iload_n 1) 1 := by decide +kernel
theorem dX13_bestWay_41 : cod mX13_bestWay 41 (.invokevirtual 176) 3 := by decide +kernel
theorem dX13_bestWay_44 : cod mX13_bestWay 44 (.ireturn) 1 := by decide +kernel
theorem dX13_bestWay_45 : cod mX13_bestWay 45 (.aload_n 0) 1 := by decide +kernel
theorem dX13_bestWay_46 : cod mX13_bestWay 46 (.getfield 103) 3 := by decide +kernel
theorem dX13_bestWay_49 : cod mX13_bestWay 49 (.iload_n 1) 1 := by decide +kernel
theorem dX13_bestWay_50 : cod mX13_bestWay 50 (.iaload) 1 := by decide +kernel
theorem dX13_bestWay_51 : cod mX13_bestWay 51 (.ifCond .eq 6) 3 := by decide +kernel
theorem dX13_bestWay_54 : cod mX13_bestWay 54 (.bipush (-12)) 2 := by decide +kernel
theorem dX13_bestWay_56 : cod mX13_bestWay 56 (.ireturn) 1 := by decide +kernel
theorem dX13_bestWay_57 : cod mX13_bestWay 57 (.aload_n 0) 1 := by decide +kernel
theorem dX13_bestWay_58 : cod mX13_bestWay 58 (.getfield 106) 3 := by decide +kernel
theorem dX13_bestWay_61 : cod mX13_bestWay 61 (.iload_n 1) 1 := by decide +kernel
theorem dX13_bestWay_62 : cod mX13_bestWay 62 (.iaload) 1 := by decide +kernel
theorem dX13_bestWay_63 : cod mX13_bestWay 63 (.i2l) 1 := by decide +kernel
theorem dX13_bestWay_64 : cod mX13_bestWay 64 (.lconst 1) 1 := by decide +kernel
theorem dX13_bestWay_65 : cod mX13_bestWay 65 (.ldc2_w 174) 3 := by decide +kernel
theorem dX13_bestWay_68 : cod mX13_bestWay 68 (.invokestatic 122) 3 := by decide +kernel
theorem dX13_bestWay_71 : cod mX13_bestWay 71 (.istore_n 3) 1 := by decide +kernel
theorem dX13_bestWay_72 : cod mX13_bestWay 72 (.iconst 0) 1 := by decide +kernel
theorem dX13_bestWay_73 : cod mX13_bestWay 73 (.istore 4) 2 := by decide +kernel
theorem dX13_bestWay_75 : cod mX13_bestWay 75 (.iload 4) 2 := by decide +kernel
theorem dX13_bestWay_77 : cod mX13_bestWay 77 (.aload_n 0) 1 := by decide +kernel
theorem dX13_bestWay_78 : cod mX13_bestWay 78 (.getfield 106) 3 := by decide +kernel
theorem dX13_bestWay_81 : cod mX13_bestWay 81 (.iload_n 1) 1 := by decide +kernel
theorem dX13_bestWay_82 : cod mX13_bestWay 82 (.iaload) 1 := by decide +kernel
theorem dX13_bestWay_83 : cod mX13_bestWay 83 (.if_icmp .ge 41) 3 := by decide +kernel
theorem dX13_bestWay_86 : cod mX13_bestWay 86 (.iload_n 3) 1 := by decide +kernel
theorem dX13_bestWay_87 : cod mX13_bestWay 87 (.ifCond .eq 29) 3 := by decide +kernel
theorem dX13_bestWay_90 : cod mX13_bestWay 90 (.aload_n 0) 1 := by decide +kernel
theorem dX13_bestWay_91 : cod mX13_bestWay 91 (.getfield 109) 3 := by decide +kernel
theorem dX13_bestWay_94 : cod mX13_bestWay 94 (.bipush 100) 2 := by decide +kernel
theorem dX13_bestWay_96 : cod mX13_bestWay 96 (.iload_n 1) 1 := by decide +kernel
theorem dX13_bestWay_97 : cod mX13_bestWay 97 (.imul) 1 := by decide +kernel
theorem dX13_bestWay_98 : cod mX13_bestWay 98 (.iload 4) 2 := by decide +kernel
theorem dX13_bestWay_100 : cod mX13_bestWay 100 (.iadd) 1 := by decide +kernel
theorem dX13_bestWay_101 : cod mX13_bestWay 101 (.laload) 1 := by decide +kernel
theorem dX13_bestWay_102 : cod mX13_bestWay 102 (.lconst 0) 1 := by decide +kernel
theorem dX13_bestWay_103 : cod mX13_bestWay 103 (.ldc2_w 348) 3 := by decide +kernel
theorem dX13_bestWay_106 : cod mX13_bestWay 106 (.invokestatic 122) 3 := by decide +kernel
theorem dX13_bestWay_109 : cod mX13_bestWay 109 (.ifCond .eq 7) 3 := by decide +kernel
theorem dX13_bestWay_112 : cod mX13_bestWay 112 (.iconst 1) 1 := by decide +kernel
theorem dX13_bestWay_113 : cod mX13_bestWay 113 (.goto 4) 3 := by decide +kernel
theorem dX13_bestWay_116 : cod mX13_bestWay 116 (.iconst 0) 1 := by decide +kernel
theorem dX13_bestWay_117 : cod mX13_bestWay 117 (.istore_n 3) 1 := by decide +kernel
theorem dX13_bestWay_118 : cod mX13_bestWay 118 (.iinc 4 1) 3 := by decide +kernel
theorem dX13_bestWay_121 : cod mX13_bestWay 121 (.goto (-46)) 3 := by decide +kernel
theorem dX13_bestWay_124 : cod mX13_bestWay 124 (.iload_n 3) 1 := by decide +kernel
theorem dX13_bestWay_125 : cod mX13_bestWay 125 (.ifCond .ne 6) 3 := by decide +kernel
theorem dX13_bestWay_128 : cod mX13_bestWay 128 (.bipush (-13)) 2 := by decide +kernel
theorem dX13_bestWay_130 : cod mX13_bestWay 130 (.ireturn) 1 := by decide +kernel
theorem dX13_bestWay_131 : cod mX13_bestWay 131 (.aload_n 0) 1 := by decide +kernel
theorem dX13_bestWay_132 : cod mX13_bestWay 132 (.invokevirtual 228) 3 := by decide +kernel
theorem dX13_bestWay_135 : cod mX13_bestWay 135 (.ifCond .ne 6) 3 := by decide +kernel
theorem dX13_bestWay_138 : cod mX13_bestWay 138 (.bipush (-3)) 2 := by decide +kernel
theorem dX13_bestWay_140 : cod mX13_bestWay 140 (.ireturn) 1 := by decide +kernel
theorem dX13_bestWay_141 : cod mX13_bestWay 141 (.iconst (-1)) 1 := by decide +kernel
theorem dX13_bestWay_142 : cod mX13_bestWay 142 (.istore 4) 2 := by decide +kernel
theorem dX13_bestWay_144 : cod mX13_bestWay 144 (.lconst 0) 1 := by decide +kernel
theorem dX13_bestWay_145 : cod mX13_bestWay 145 (.lstore 5) 2 := by decide +kernel
theorem dX13_bestWay_147 : cod mX13_bestWay 147 (.iconst 0) 1 := by decide +kernel
theorem dX13_bestWay_148 : cod mX13_bestWay 148 (.istore 7) 2 := by decide +kernel
theorem dX13_bestWay_150 : cod mX13_bestWay 150 (.iload 7) 2 := by decide +kernel
theorem dX13_bestWay_152 : cod mX13_bestWay 152 (.aload_n 0) 1 := by decide +kernel
theorem dX13_bestWay_153 : cod mX13_bestWay 153 (.getfield 106) 3 := by decide +kernel
theorem dX13_bestWay_156 : cod mX13_bestWay 156 (.iload_n 1) 1 := by decide +kernel
theorem dX13_bestWay_157 : cod mX13_bestWay 157 (.iaload) 1 := by decide +kernel
theorem dX13_bestWay_158 : cod mX13_bestWay 158 (.if_icmp .ge 52) 3 := by decide +kernel
theorem dX13_bestWay_161 : cod mX13_bestWay 161 (.aload_n 0) 1 := by decide +kernel
theorem dX13_bestWay_162 : cod mX13_bestWay 162 (.aload_n 0) 1 := by decide +kernel
theorem dX13_bestWay_163 : cod mX13_bestWay 163 (.getfield 109) 3 := by decide +kernel
theorem dX13_bestWay_166 : cod mX13_bestWay 166 (.bipush 100) 2 := by decide +kernel
theorem dX13_bestWay_168 : cod mX13_bestWay 168 (.iload_n 1) 1 := by decide +kernel
theorem dX13_bestWay_169 : cod mX13_bestWay 169 (.imul) 1 := by decide +kernel
theorem dX13_bestWay_170 : cod mX13_bestWay 170 (.iload 7) 2 := by decide +kernel
theorem dX13_bestWay_172 : cod mX13_bestWay 172 (.iadd) 1 := by decide +kernel
theorem dX13_bestWay_173 : cod mX13_bestWay 173 (.laload) 1 := by decide +kernel
theorem dX13_bestWay_174 : cod mX13_bestWay 174 (.l2i) 1 := by decide +kernel
theorem dX13_bestWay_175 : cod mX13_bestWay 175 (.iload_n 2) 1 := by decide +kernel
theorem dX13_bestWay_176 : cod mX13_bestWay 176 (.invokevirtual 315) 3 := by decide +kernel
theorem dX13_bestWay_179 : cod mX13_bestWay 179 (.iload 4) 2 := by decide +kernel
theorem dX13_bestWay_181 : cod mX13_bestWay 181 (.ifCond .lt 13) 3 := by decide +kernel
theorem dX13_bestWay_184 : cod mX13_bestWay 184 (.aload_n 0) 1 := by decide +kernel
theorem dX13_bestWay_185 : cod mX13_bestWay 185 (.getfield 291) 3 := by decide +kernel
theorem dX13_bestWay_188 : cod mX13_bestWay 188 (.lload 5) 2 := by decide +kernel
theorem dX13_bestWay_190 : cod mX13_bestWay 190 (.lcmp) 1 := by decide +kernel
theorem dX13_bestWay_191 : cod mX13_bestWay 191 (.ifCond .le 13) 3 := by decide +kernel
theorem dX13_bestWay_194 : cod mX13_bestWay 194 (.iload 7) 2 := by decide +kernel
theorem dX13_bestWay_196 : cod mX13_bestWay 196 (.istore 4) 2 := by decide +kernel
theorem dX13_bestWay_198 : cod mX13_bestWay 198 (.aload_n 0) 1 := by decide +kernel
theorem dX13_bestWay_199 : cod mX13_bestWay 199 (.getfield 291) 3 := by decide +kernel
theorem dX13_bestWay_202 : cod mX13_bestWay 202 (.lstore 5) 2 := by decide +kernel
theorem dX13_bestWay_204 : cod mX13_bestWay 204 (.iinc 7 1) 3 := by decide +kernel
theorem dX13_bestWay_207 : cod mX13_bestWay 207 (.goto (-57)) 3 := by decide +kernel
theorem dX13_bestWay_210 : cod mX13_bestWay 210 (.iload 4) 2 := by decide +kernel
theorem dX13_bestWay_212 : cod mX13_bestWay 212 (.ireturn) 1 := by decide +kernel
def jn_X13_bestWay_204 (K150 : Nat → Int32 → Int32 → Int32 → Int64 → Int32 → Mem → Prop) (Q : Int32 → Mem → Prop) (x0 : Nat) (x1 : Int32) (x2 : Int32) (x4 : Int32) (x5 : Int64) (x7 : Int32) (M : Mem) : Prop := K150 x0 x1 x2 x4 x5 (x7 + 1) M
theorem P_jn_X13_bestWay_204 {G : GG} {K150 : Nat → Int32 → Int32 → Int32 → Int64 → Int32 → Mem → Prop} {Q : Int32 → Mem → Prop} (hK150 : ∀ (x0 : Nat) (x1 : Int32) (x2 : Int32) (x4 : Int32) (x5 : Int64) (x7 : Int32) (M : Mem), K150 x0 x1 x2 x4 x5 x7 M → PW G mX13_bestWay (rmD 6 0 0) (QI Q) 150 [some (.ref x0), some (.int x1), some (.int x2), none, some (.int x4), some (.long x5), none, some (.int x7)] [] M 0 0) (x0 : Nat) (x1 : Int32) (x2 : Int32) (x4 : Int32) (x5 : Int64) (x7 : Int32) (M : Mem) (h : jn_X13_bestWay_204 K150 Q x0 x1 x2 x4 x5 x7 M) : PW G mX13_bestWay (rmD 6 0 0) (QI Q) 204 [some (.ref x0), some (.int x1), some (.int x2), none, some (.int x4), some (.long x5), none, some (.int x7)] [] M 0 0 := (s_iinc (pc := 204) (L1 := [some (.ref x0), some (.int x1), some (.int x2), none, some (.int x4), some (.long x5), none, some (.int (x7 + 1))]) dX13_bestWay_204 rfl ci_1 (Nat.le_of_ble_eq_true rfl) rfl (s_goto (pc := 207) (tgt := 150) dX13_bestWay_207 rfl (s_sel (L1 := [some (.ref x0), some (.int x1), some (.int x2), none, some (.int x4), some (.long x5), none, some (.int (x7 + 1))]) [true, true, true, false, true, true, false, true] rfl (hK150 x0 x1 x2 x4 x5 (x7 + 1) M h))))
def jn_X13_bestWay_194 (K150 : Nat → Int32 → Int32 → Int32 → Int64 → Int32 → Mem → Prop) (Q : Int32 → Mem → Prop) (x0 : Nat) (x1 : Int32) (x2 : Int32) (x7 : Int32) (M : Mem) : Prop := mK M x0 = 14 ∧ ∀ y57 : Int64, y57 = mJ M x0 35 → jn_X13_bestWay_204 K150 Q x0 x1 x2 x7 y57 x7 M
theorem P_jn_X13_bestWay_194 {G : GG} {K150 : Nat → Int32 → Int32 → Int32 → Int64 → Int32 → Mem → Prop} {Q : Int32 → Mem → Prop} (hK150 : ∀ (x0 : Nat) (x1 : Int32) (x2 : Int32) (x4 : Int32) (x5 : Int64) (x7 : Int32) (M : Mem), K150 x0 x1 x2 x4 x5 x7 M → PW G mX13_bestWay (rmD 6 0 0) (QI Q) 150 [some (.ref x0), some (.int x1), some (.int x2), none, some (.int x4), some (.long x5), none, some (.int x7)] [] M 0 0) (x0 : Nat) (x1 : Int32) (x2 : Int32) (x7 : Int32) (M : Mem) (h : jn_X13_bestWay_194 K150 Q x0 x1 x2 x7 M) : PW G mX13_bestWay (rmD 6 0 0) (QI Q) 194 [some (.ref x0), some (.int x1), some (.int x2), none, none, none, none, some (.int x7)] [] M 0 0 := (s_iload (pc := 194) dX13_bestWay_194 rfl (s_istore (pc := 196) (L1 := [some (.ref x0), some (.int x1), some (.int x2), none, some (.int x7), none, none, some (.int x7)]) dX13_bestWay_196 (Nat.le_of_ble_eq_true rfl) rfl (s_aload_n (pc := 198) dX13_bestWay_198 rfl (s_getJ (pc := 199) dX13_bestWay_199 f_X13_291 rfl h.1 (nmJ (fun y57 e58 => have h59 := h.2 y57 e58; s_lstore (pc := 202) (L1 := [some (.ref x0), some (.int x1), some (.int x2), none, some (.int x7), some (.long y57), none, some (.int x7)]) dX13_bestWay_202 (Nat.le_of_ble_eq_true rfl) rfl (s_sel (L1 := [some (.ref x0), some (.int x1), some (.int x2), none, some (.int x7), some (.long y57), none, some (.int x7)]) [true, true, true, false, true, true, false, true] rfl (P_jn_X13_bestWay_204 hK150 x0 x1 x2 x7 y57 x7 M h59))))))))
def lp_X13_bestWay_150 (Q : Int32 → Mem → Prop) : Nat → Nat → Int32 → Int32 → Int32 → Int64 → Int32 → Mem → Prop
  | 0 => fun _ _ _ _ _ _ _ => False
  | n + 1 => fun x0 x1 x2 x4 x5 x7 M => mK M x0 = 14 ∧ mK M (mR M x0 53) = 20 ∧ vp_in x1 (mN M (mR M x0 53)) ∧ ((mI M (mR M x0 53) x1.toNatClampNeg) ≤ x7 → Q x4 M) ∧ (¬ (mI M (mR M x0 53) x1.toNatClampNeg) ≤ x7 → mK M (mR M x0 54) = 21 ∧ vp_in ((100 * x1) + x7) (mN M (mR M x0 54)) ∧ wp_X13_goAll x0 ((mJ M (mR M x0 54) ((100 * x1) + x7).toNatClampNeg).toInt32) x2 M (fun M52 => (x4 < (0 : Int32) → jn_X13_bestWay_194 (fun fx0 fx1 fx2 fx4 fx5 fx7 fM => lp_X13_bestWay_150 Q n fx0 fx1 fx2 fx4 fx5 fx7 fM) Q x0 x1 x2 x7 M52) ∧ (¬ x4 < (0 : Int32) → mK M52 x0 = 14 ∧ ((mJ M52 x0 35) ≤ x5 → jn_X13_bestWay_204 (fun fx0 fx1 fx2 fx4 fx5 fx7 fM => lp_X13_bestWay_150 Q n fx0 fx1 fx2 fx4 fx5 fx7 fM) Q x0 x1 x2 x4 x5 x7 M52) ∧ (¬ (mJ M52 x0 35) ≤ x5 → jn_X13_bestWay_194 (fun fx0 fx1 fx2 fx4 fx5 fx7 fM => lp_X13_bestWay_150 Q n fx0 fx1 fx2 fx4 fx5 fx7 fM) Q x0 x1 x2 x7 M52))))
theorem P_lp_X13_bestWay_150 {G : GG} {Q : Int32 → Mem → Prop} : ∀ (n : Nat) (x0 : Nat) (x1 : Int32) (x2 : Int32) (x4 : Int32) (x5 : Int64) (x7 : Int32) (M : Mem), lp_X13_bestWay_150 Q n x0 x1 x2 x4 x5 x7 M → PW G mX13_bestWay (rmD 6 0 0) (QI Q) 150 [some (.ref x0), some (.int x1), some (.int x2), none, some (.int x4), some (.long x5), none, some (.int x7)] [] M 0 0 := by
  intro n
  induction n with
  | zero => intro x0 x1 x2 x4 x5 x7 M h; exact h.elim
  | succ n ih =>
    intro x0 x1 x2 x4 x5 x7 M h
    exact (s_iload (pc := 150) dX13_bestWay_150 rfl (s_aload_n (pc := 152) dX13_bestWay_152 rfl (s_getR (pc := 153) dX13_bestWay_153 f_X13_106 rfl h.1 (s_iload_n (pc := 156) dX13_bestWay_156 rfl (s_ial (pc := 157) dX13_bestWay_157 h.2.1 h.2.2.1 (s_icmp_ge (pc := 158) (tgt := 210) dX13_bestWay_158 rfl (fun c47 => have h48 := h.2.2.2.1 c47; s_iload (pc := 210) dX13_bestWay_210 rfl (s_ireturn (pc := 212) dX13_bestWay_212 rfl (Nat.zero_le _) (Nat.zero_le _) ⟨_, rfl, h48⟩)) (fun c49 => have h50 := h.2.2.2.2 c49; s_aload_n (pc := 161) dX13_bestWay_161 rfl (s_aload_n (pc := 162) dX13_bestWay_162 rfl (s_getR (pc := 163) dX13_bestWay_163 f_X13_109 rfl h.1 (s_bipush (pc := 166) dX13_bestWay_166 cb_100 (s_iload_n (pc := 168) dX13_bestWay_168 rfl (s_imul (pc := 169) dX13_bestWay_169 (s_iload (pc := 170) dX13_bestWay_170 rfl (s_iadd (pc := 172) dX13_bestWay_172 (s_lal (pc := 173) dX13_bestWay_173 h50.1 h50.2.1 (s_l2i (pc := 174) dX13_bestWay_174 (s_iload_n (pc := 175) dX13_bestWay_175 rfl (s_callV (pc := 176) (As := [.int ((mJ M (mR M x0 54) ((100 * x1) + x7).toNatClampNeg).toInt32), .int x2]) (rest := []) (d' := 5) (mc' := 0) (ms' := 0) dX13_bestWay_176 c_X13_315 (Nat.le_of_ble_eq_true rfl) rfl h.1 rfl rfl (Nat.le_of_ble_eq_true rfl) (rm_ok rfl rfl) ⟨Nat.le_refl 0, Nat.le_refl 0⟩ (T_X13_goAll h50.2.2) (kkV (fun M52 h51 => s_iload (pc := 179) dX13_bestWay_179 rfl (s_if_lt (pc := 181) (tgt := 194) dX13_bestWay_181 rfl (fun c53 => have h54 := h51.1 c53; s_sel (L1 := [some (.ref x0), some (.int x1), some (.int x2), none, none, none, none, some (.int x7)]) [true, true, true, false, false, false, false, true] rfl (P_jn_X13_bestWay_194 ih x0 x1 x2 x7 M52 h54)) (fun c55 => have h56 := h51.2 c55; s_aload_n (pc := 184) dX13_bestWay_184 rfl (s_getJ (pc := 185) dX13_bestWay_185 f_X13_291 rfl h56.1 (s_lload (pc := 188) dX13_bestWay_188 rfl (s_lif_le (pc := 190) (tgt := 204) dX13_bestWay_190 dX13_bestWay_191 rfl (fun c60 => have h61 := h56.2.1 c60; s_sel (L1 := [some (.ref x0), some (.int x1), some (.int x2), none, some (.int x4), some (.long x5), none, some (.int x7)]) [true, true, true, false, true, true, false, true] rfl (P_jn_X13_bestWay_204 ih x0 x1 x2 x4 x5 x7 M52 h61)) (fun c62 => have h63 := h56.2.2 c62; s_sel (L1 := [some (.ref x0), some (.int x1), some (.int x2), none, none, none, none, some (.int x7)]) [true, true, true, false, false, false, false, true] rfl (P_jn_X13_bestWay_194 ih x0 x1 x2 x7 M52 h63)))))))))))))))))))))))))))
def jn_X13_bestWay_117 (K75 : Nat → Int32 → Int32 → Int32 → Int32 → Mem → Prop) (Q : Int32 → Mem → Prop) (x0 : Nat) (x1 : Int32) (x2 : Int32) (x4 : Int32) (s0 : Int32) (M : Mem) : Prop := K75 x0 x1 x2 s0 (x4 + 1) M
theorem P_jn_X13_bestWay_117 {G : GG} {K75 : Nat → Int32 → Int32 → Int32 → Int32 → Mem → Prop} {Q : Int32 → Mem → Prop} (hK75 : ∀ (x0 : Nat) (x1 : Int32) (x2 : Int32) (x3 : Int32) (x4 : Int32) (M : Mem), K75 x0 x1 x2 x3 x4 M → PW G mX13_bestWay (rmD 6 0 0) (QI Q) 75 [some (.ref x0), some (.int x1), some (.int x2), some (.int x3), some (.int x4), none, none, none] [] M 0 0) (x0 : Nat) (x1 : Int32) (x2 : Int32) (x4 : Int32) (s0 : Int32) (M : Mem) (h : jn_X13_bestWay_117 K75 Q x0 x1 x2 x4 s0 M) : PW G mX13_bestWay (rmD 6 0 0) (QI Q) 117 [some (.ref x0), some (.int x1), some (.int x2), none, some (.int x4), none, none, none] [.int s0] M 0 0 := (s_istore_n (pc := 117) (L1 := [some (.ref x0), some (.int x1), some (.int x2), some (.int s0), some (.int x4), none, none, none]) dX13_bestWay_117 (Nat.le_of_ble_eq_true rfl) rfl (s_iinc (pc := 118) (L1 := [some (.ref x0), some (.int x1), some (.int x2), some (.int s0), some (.int (x4 + 1)), none, none, none]) dX13_bestWay_118 rfl ci_1 (Nat.le_of_ble_eq_true rfl) rfl (s_goto (pc := 121) (tgt := 75) dX13_bestWay_121 rfl (s_sel (L1 := [some (.ref x0), some (.int x1), some (.int x2), some (.int s0), some (.int (x4 + 1)), none, none, none]) [true, true, true, true, true, false, false, false] rfl (hK75 x0 x1 x2 s0 (x4 + 1) M h)))))
def jn_X13_bestWay_116 (K75 : Nat → Int32 → Int32 → Int32 → Int32 → Mem → Prop) (Q : Int32 → Mem → Prop) (x0 : Nat) (x1 : Int32) (x2 : Int32) (x4 : Int32) (M : Mem) : Prop := jn_X13_bestWay_117 K75 Q x0 x1 x2 x4 0 M
theorem P_jn_X13_bestWay_116 {G : GG} {K75 : Nat → Int32 → Int32 → Int32 → Int32 → Mem → Prop} {Q : Int32 → Mem → Prop} (hK75 : ∀ (x0 : Nat) (x1 : Int32) (x2 : Int32) (x3 : Int32) (x4 : Int32) (M : Mem), K75 x0 x1 x2 x3 x4 M → PW G mX13_bestWay (rmD 6 0 0) (QI Q) 75 [some (.ref x0), some (.int x1), some (.int x2), some (.int x3), some (.int x4), none, none, none] [] M 0 0) (x0 : Nat) (x1 : Int32) (x2 : Int32) (x4 : Int32) (M : Mem) (h : jn_X13_bestWay_116 K75 Q x0 x1 x2 x4 M) : PW G mX13_bestWay (rmD 6 0 0) (QI Q) 116 [some (.ref x0), some (.int x1), some (.int x2), none, some (.int x4), none, none, none] [] M 0 0 := (s_iconst (pc := 116) dX13_bestWay_116 ci_0 (s_sel (L1 := [some (.ref x0), some (.int x1), some (.int x2), none, some (.int x4), none, none, none]) [true, true, true, false, true, false, false, false] rfl (P_jn_X13_bestWay_117 hK75 x0 x1 x2 x4 0 M h)))
def lp_X13_bestWay_75 (Q : Int32 → Mem → Prop) : Nat → Nat → Int32 → Int32 → Int32 → Int32 → Mem → Prop
  | 0 => fun _ _ _ _ _ _ => False
  | n + 1 => fun x0 x1 x2 x3 x4 M => mK M x0 = 14 ∧ mK M (mR M x0 53) = 20 ∧ vp_in x1 (mN M (mR M x0 53)) ∧ ((mI M (mR M x0 53) x1.toNatClampNeg) ≤ x4 → (¬ x3 = (0 : Int32) → wp_X13_isReady x0 M (fun r42 M41 => (¬ r42 = (0 : Int32) → ∃ n64 : Nat, lp_X13_bestWay_150 Q n64 x0 x1 x2 (-1) 0 0 M41) ∧ (r42 = (0 : Int32) → Q (-3) M41))) ∧ (x3 = (0 : Int32) → Q (-13) M)) ∧ (¬ (mI M (mR M x0 53) x1.toNatClampNeg) ≤ x4 → (x3 = (0 : Int32) → jn_X13_bestWay_116 (fun fx0 fx1 fx2 fx3 fx4 fM => lp_X13_bestWay_75 Q n fx0 fx1 fx2 fx3 fx4 fM) Q x0 x1 x2 x4 M) ∧ (¬ x3 = (0 : Int32) → mK M (mR M x0 54) = 21 ∧ vp_in ((100 * x1) + x4) (mN M (mR M x0 54)) ∧ wp_X13_in (mJ M (mR M x0 54) ((100 * x1) + x4).toNatClampNeg) 0 5 M (fun r71 M70 => (r71 = (0 : Int32) → jn_X13_bestWay_116 (fun fx0 fx1 fx2 fx3 fx4 fM => lp_X13_bestWay_75 Q n fx0 fx1 fx2 fx3 fx4 fM) Q x0 x1 x2 x4 M70) ∧ (¬ r71 = (0 : Int32) → jn_X13_bestWay_117 (fun fx0 fx1 fx2 fx3 fx4 fM => lp_X13_bestWay_75 Q n fx0 fx1 fx2 fx3 fx4 fM) Q x0 x1 x2 x4 1 M70))))
theorem P_lp_X13_bestWay_75 {G : GG} {Q : Int32 → Mem → Prop} : ∀ (n : Nat) (x0 : Nat) (x1 : Int32) (x2 : Int32) (x3 : Int32) (x4 : Int32) (M : Mem), lp_X13_bestWay_75 Q n x0 x1 x2 x3 x4 M → PW G mX13_bestWay (rmD 6 0 0) (QI Q) 75 [some (.ref x0), some (.int x1), some (.int x2), some (.int x3), some (.int x4), none, none, none] [] M 0 0 := by
  intro n
  induction n with
  | zero => intro x0 x1 x2 x3 x4 M h; exact h.elim
  | succ n ih =>
    intro x0 x1 x2 x3 x4 M h
    exact (s_iload (pc := 75) dX13_bestWay_75 rfl (s_aload_n (pc := 77) dX13_bestWay_77 rfl (s_getR (pc := 78) dX13_bestWay_78 f_X13_106 rfl h.1 (s_iload_n (pc := 81) dX13_bestWay_81 rfl (s_ial (pc := 82) dX13_bestWay_82 h.2.1 h.2.2.1 (s_icmp_ge (pc := 83) (tgt := 124) dX13_bestWay_83 rfl (fun c32 => have h33 := h.2.2.2.1 c32; s_iload_n (pc := 124) dX13_bestWay_124 rfl (s_if_ne (pc := 125) (tgt := 131) dX13_bestWay_125 rfl (fun c36 => have h37 := h33.1 c36; s_aload_n (pc := 131) dX13_bestWay_131 rfl (s_callV (pc := 132) (As := []) (rest := []) (d' := 1) (mc' := 0) (ms' := 0) dX13_bestWay_132 c_X13_228 (Nat.le_of_ble_eq_true rfl) rfl h.1 rfl rfl (Nat.le_of_ble_eq_true rfl) (rm_ok rfl rfl) ⟨Nat.le_refl 0, Nat.le_refl 0⟩ (T_X13_isReady h37) (kkI (fun r42 M41 h40 => s_if_ne (pc := 135) (tgt := 141) dX13_bestWay_135 rfl (fun c43 => have h44 := h40.1 c43; s_iconst (pc := 141) dX13_bestWay_141 ci_m1 (s_istore (pc := 142) (L1 := [some (.ref x0), some (.int x1), some (.int x2), some (.int x3), some (.int (-1)), none, none, none]) dX13_bestWay_142 (Nat.le_of_ble_eq_true rfl) rfl (s_lconst (pc := 144) (v := 0) dX13_bestWay_144 rfl (s_lstore (pc := 145) (L1 := [some (.ref x0), some (.int x1), some (.int x2), some (.int x3), some (.int (-1)), some (.long 0), none, none]) dX13_bestWay_145 (Nat.le_of_ble_eq_true rfl) rfl (s_iconst (pc := 147) dX13_bestWay_147 ci_0 (s_istore (pc := 148) (L1 := [some (.ref x0), some (.int x1), some (.int x2), some (.int x3), some (.int (-1)), some (.long 0), none, some (.int 0)]) dX13_bestWay_148 (Nat.le_of_ble_eq_true rfl) rfl (Exists.elim h44 (fun n64 hn => s_sel (L1 := [some (.ref x0), some (.int x1), some (.int x2), none, some (.int (-1)), some (.long 0), none, some (.int 0)]) [true, true, true, false, true, true, false, true] rfl (P_lp_X13_bestWay_150 n64 x0 x1 x2 (-1) 0 0 M41 hn))))))))) (fun c45 => have h46 := h40.2 c45; s_bipush (pc := 138) dX13_bestWay_138 cb_m3 (s_ireturn (pc := 140) dX13_bestWay_140 rfl (Nat.zero_le _) (Nat.zero_le _) ⟨_, rfl, h46⟩)))))) (fun c38 => have h39 := h33.2 c38; s_bipush (pc := 128) dX13_bestWay_128 cb_m13 (s_ireturn (pc := 130) dX13_bestWay_130 rfl (Nat.zero_le _) (Nat.zero_le _) ⟨_, rfl, h39⟩)))) (fun c34 => have h35 := h.2.2.2.2 c34; s_iload_n (pc := 86) dX13_bestWay_86 rfl (s_if_eq (pc := 87) (tgt := 116) dX13_bestWay_87 rfl (fun c65 => have h66 := h35.1 c65; s_sel (L1 := [some (.ref x0), some (.int x1), some (.int x2), none, some (.int x4), none, none, none]) [true, true, true, false, true, false, false, false] rfl (P_jn_X13_bestWay_116 ih x0 x1 x2 x4 M h66)) (fun c67 => have h68 := h35.2 c67; s_aload_n (pc := 90) dX13_bestWay_90 rfl (s_getR (pc := 91) dX13_bestWay_91 f_X13_109 rfl h.1 (s_bipush (pc := 94) dX13_bestWay_94 cb_100 (s_iload_n (pc := 96) dX13_bestWay_96 rfl (s_imul (pc := 97) dX13_bestWay_97 (s_iload (pc := 98) dX13_bestWay_98 rfl (s_iadd (pc := 100) dX13_bestWay_100 (s_lal (pc := 101) dX13_bestWay_101 h68.1 h68.2.1 (s_lconst (pc := 102) (v := 0) dX13_bestWay_102 rfl (s_ldc2 (pc := 103) dX13_bestWay_103 k_X13_348 (s_callS (pc := 106) (As := [.long (mJ M (mR M x0 54) ((100 * x1) + x4).toNatClampNeg), .long 0, .long 5]) (rest := []) (d' := 0) (mc' := 0) (ms' := 0) dX13_bestWay_106 c_X13_122 rfl rfl (Nat.le_of_ble_eq_true rfl) (rm_ok rfl rfl) ⟨Nat.le_refl 0, Nat.le_refl 0⟩ (T_X13_in h68.2.2) (kkI (fun r71 M70 h69 => s_if_eq (pc := 109) (tgt := 116) dX13_bestWay_109 rfl (fun c72 => have h73 := h69.1 c72; s_sel (L1 := [some (.ref x0), some (.int x1), some (.int x2), none, some (.int x4), none, none, none]) [true, true, true, false, true, false, false, false] rfl (P_jn_X13_bestWay_116 ih x0 x1 x2 x4 M70 h73)) (fun c74 => have h75 := h69.2 c74; s_iconst (pc := 112) dX13_bestWay_112 ci_1 (s_goto (pc := 113) (tgt := 117) dX13_bestWay_113 rfl (s_sel (L1 := [some (.ref x0), some (.int x1), some (.int x2), none, some (.int x4), none, none, none]) [true, true, true, false, true, false, false, false] rfl (P_jn_X13_bestWay_117 ih x0 x1 x2 x4 1 M70 h75)))))))))))))))))))))))))
def wp_X13_bestWay (p0 : Nat) (p1 : Int32) (p2 : Int32) (M : Mem) (Q : Int32 → Mem → Prop) : Prop := mK M p0 = 14 ∧ ∀ M1 : Mem, M1 = uI M p0 12 0 → wp_X13_in p1.toInt64 0 7 M1 (fun r6 M5 => (r6 = (0 : Int32) → Q (-1) M5) ∧ (¬ r6 = (0 : Int32) → wp_X13_in p2.toInt64 0 49 M5 (fun r13 M12 => (¬ r13 = (0 : Int32) → mK M12 p0 = 14 ∧ wp_X13_wrongRow p0 p1 M12 (fun r20 M19 => ((0 : Int32) ≤ r20 → mK M19 p0 = 14 ∧ mK M19 (mR M19 p0 52) = 20 ∧ vp_in p1 (mN M19 (mR M19 p0 52)) ∧ ((mI M19 (mR M19 p0 52) p1.toNatClampNeg) = (0 : Int32) → mK M19 (mR M19 p0 53) = 20 ∧ vp_in p1 (mN M19 (mR M19 p0 53)) ∧ wp_X13_in ((mI M19 (mR M19 p0 53) p1.toNatClampNeg).toInt64) 1 6 M19 (fun r31 M30 => ∃ n76 : Nat, lp_X13_bestWay_75 Q n76 p0 p1 p2 r31 0 M30)) ∧ (¬ (mI M19 (mR M19 p0 52) p1.toNatClampNeg) = (0 : Int32) → Q (-12) M19)) ∧ (¬ (0 : Int32) ≤ r20 → mK M19 p0 = 14 ∧ wp_X13_wrongRow p0 p1 M19 (fun r79 M78 => Q r79 M78)))) ∧ (r13 = (0 : Int32) → Q (-1) M12))))
theorem T_X13_bestWay {G : GG} {Q : Int32 → Mem → Prop} {M : Mem} {p0 : Nat} {p1 : Int32} {p2 : Int32} (h : wp_X13_bestWay p0 p1 p2 M Q) : PMet G mX13_bestWay 6 0 0 [.ref p0, .int p1, .int p2] M (QI Q) :=
  mk_met (by decide) rfl rfl (by
    intro w hw x9 e9
    subst e9
    simp at hw) (Nat.le_of_ble_eq_true rfl) (s_pad (L1 := [some (.ref p0), some (.int p1), some (.int p2), none, none, none, none, none]) 8 rfl (s_aload_n (pc := 0) dX13_bestWay_0 rfl (s_iconst (pc := 1) dX13_bestWay_1 ci_0 (s_putI (pc := 2) dX13_bestWay_2 f_X13_115 (Or.inl rfl) (Or.inl rfl) h.1 (nmM (fun M1 e2 => have h3 := h.2 M1 e2; s_iload_n (pc := 5) dX13_bestWay_5 rfl (s_i2l (pc := 6) dX13_bestWay_6 (s_lconst (pc := 7) (v := 0) dX13_bestWay_7 rfl (s_ldc2 (pc := 8) dX13_bestWay_8 k_X13_273 (s_callS (pc := 11) (As := [.long p1.toInt64, .long 0, .long 7]) (rest := []) (d' := 0) (mc' := 0) (ms' := 0) dX13_bestWay_11 c_X13_122 rfl rfl (Nat.le_of_ble_eq_true rfl) (rm_ok rfl rfl) ⟨Nat.le_refl 0, Nat.le_refl 0⟩ (T_X13_in h3) (kkI (fun r6 M5 h4 => s_if_eq (pc := 14) (tgt := 29) dX13_bestWay_14 rfl (fun c7 => have h8 := h4.1 c7; s_iconst (pc := 29) dX13_bestWay_29 ci_m1 (s_ireturn (pc := 30) dX13_bestWay_30 rfl (Nat.zero_le _) (Nat.zero_le _) ⟨_, rfl, h8⟩)) (fun c9 => have h10 := h4.2 c9; s_iload_n (pc := 17) dX13_bestWay_17 rfl (s_i2l (pc := 18) dX13_bestWay_18 (s_lconst (pc := 19) (v := 0) dX13_bestWay_19 rfl (s_ldc2 (pc := 20) dX13_bestWay_20 k_X13_346 (s_callS (pc := 23) (As := [.long p2.toInt64, .long 0, .long 49]) (rest := []) (d' := 0) (mc' := 0) (ms' := 0) dX13_bestWay_23 c_X13_122 rfl rfl (Nat.le_of_ble_eq_true rfl) (rm_ok rfl rfl) ⟨Nat.le_refl 0, Nat.le_refl 0⟩ (T_X13_in h10) (kkI (fun r13 M12 h11 => s_if_ne (pc := 26) (tgt := 31) dX13_bestWay_26 rfl (fun c14 => have h15 := h11.1 c14; s_aload_n (pc := 31) dX13_bestWay_31 rfl (s_iload_n (pc := 32) dX13_bestWay_32 rfl (s_callV (pc := 33) (As := [.int p1]) (rest := []) (d' := 1) (mc' := 0) (ms' := 0) dX13_bestWay_33 c_X13_176 (Nat.le_of_ble_eq_true rfl) rfl h15.1 rfl rfl (Nat.le_of_ble_eq_true rfl) (rm_ok rfl rfl) ⟨Nat.le_refl 0, Nat.le_refl 0⟩ (T_X13_wrongRow h15.2) (kkI (fun r20 M19 h18 => s_if_ge (pc := 36) (tgt := 45) dX13_bestWay_36 rfl (fun c21 => have h22 := h18.1 c21; s_aload_n (pc := 45) dX13_bestWay_45 rfl (s_getR (pc := 46) dX13_bestWay_46 f_X13_103 rfl h22.1 (s_iload_n (pc := 49) dX13_bestWay_49 rfl (s_ial (pc := 50) dX13_bestWay_50 h22.2.1 h22.2.2.1 (s_if_eq (pc := 51) (tgt := 57) dX13_bestWay_51 rfl (fun c25 => have h26 := h22.2.2.2.1 c25; s_aload_n (pc := 57) dX13_bestWay_57 rfl (s_getR (pc := 58) dX13_bestWay_58 f_X13_106 rfl h22.1 (s_iload_n (pc := 61) dX13_bestWay_61 rfl (s_ial (pc := 62) dX13_bestWay_62 h26.1 h26.2.1 (s_i2l (pc := 63) dX13_bestWay_63 (s_lconst (pc := 64) (v := 1) dX13_bestWay_64 rfl (s_ldc2 (pc := 65) dX13_bestWay_65 k_X13_174 (s_callS (pc := 68) (As := [.long ((mI M19 (mR M19 p0 53) p1.toNatClampNeg).toInt64), .long 1, .long 6]) (rest := []) (d' := 0) (mc' := 0) (ms' := 0) dX13_bestWay_68 c_X13_122 rfl rfl (Nat.le_of_ble_eq_true rfl) (rm_ok rfl rfl) ⟨Nat.le_refl 0, Nat.le_refl 0⟩ (T_X13_in h26.2.2) (kkI (fun r31 M30 h29 => s_istore_n (pc := 71) (L1 := [some (.ref p0), some (.int p1), some (.int p2), some (.int r31), none, none, none, none]) dX13_bestWay_71 (Nat.le_of_ble_eq_true rfl) rfl (s_iconst (pc := 72) dX13_bestWay_72 ci_0 (s_istore (pc := 73) (L1 := [some (.ref p0), some (.int p1), some (.int p2), some (.int r31), some (.int 0), none, none, none]) dX13_bestWay_73 (Nat.le_of_ble_eq_true rfl) rfl (Exists.elim h29 (fun n76 hn => s_sel (L1 := [some (.ref p0), some (.int p1), some (.int p2), some (.int r31), some (.int 0), none, none, none]) [true, true, true, true, true, false, false, false] rfl (P_lp_X13_bestWay_75 n76 p0 p1 p2 r31 0 M30 hn))))))))))))))) (fun c27 => have h28 := h22.2.2.2.2 c27; s_bipush (pc := 54) dX13_bestWay_54 cb_m12 (s_ireturn (pc := 56) dX13_bestWay_56 rfl (Nat.zero_le _) (Nat.zero_le _) ⟨_, rfl, h28⟩))))))) (fun c23 => have h24 := h18.2 c23; s_aload_n (pc := 39) dX13_bestWay_39 rfl (s_iload_n (pc := 40) dX13_bestWay_40 rfl (s_callV (pc := 41) (As := [.int p1]) (rest := []) (d' := 1) (mc' := 0) (ms' := 0) dX13_bestWay_41 c_X13_176 (Nat.le_of_ble_eq_true rfl) rfl h24.1 rfl rfl (Nat.le_of_ble_eq_true rfl) (rm_ok rfl rfl) ⟨Nat.le_refl 0, Nat.le_refl 0⟩ (T_X13_wrongRow h24.2) (kkI (fun r79 M78 h77 => s_ireturn (pc := 44) dX13_bestWay_44 rfl (Nat.zero_le _) (Nat.zero_le _) ⟨_, rfl, h77⟩)))))))))) (fun c16 => have h17 := h11.2 c16; s_iconst (pc := 29) dX13_bestWay_29 ci_m1 (s_ireturn (pc := 30) dX13_bestWay_30 rfl (Nat.zero_le _) (Nat.zero_le _) ⟨_, rfl, h17⟩)))))))))))))))))))))
/-! X13_wrongWay -/
theorem dX13_wrongWay_0 : cod mX13_wrongWay 0 (.iload_n 1) 1 := by decide +kernel
theorem dX13_wrongWay_1 : cod mX13_wrongWay 1 (.i2l) 1 := by decide +kernel
theorem dX13_wrongWay_2 : cod mX13_wrongWay 2 (.lconst 0) 1 := by decide +kernel
theorem dX13_wrongWay_3 : cod mX13_wrongWay 3 (.ldc2_w 273) 3 := by decide +kernel
theorem dX13_wrongWay_6 : cod mX13_wrongWay 6 (.invokestatic 122) 3 := by decide +kernel
theorem dX13_wrongWay_9 : cod mX13_wrongWay 9 (.ifCond .ne 7) 3 := by decide +kernel
theorem dX13_wrongWay_12 : cod mX13_wrongWay 12 (.iconst (-1)) 1 := by decide +kernel
theorem dX13_wrongWay_13 : cod mX13_wrongWay 13 (.goto 33) 3 := by decide +kernel
theorem dX13_wrongWay_16 : cod mX13_wrongWay 16 (.aload_n 0) 1 := by decide +kernel
theorem dX13_wrongWay_17 : cod mX13_wrongWay 17 (.getfield 94) 3 := by decide +kernel
theorem dX13_wrongWay_20 : cod mX13_wrongWay 20 (.iload_n 1) 1 := by decide +kernel
theorem dX13_wrongWay_21 : cod mX13_wrongWay 21 (.iaload) 1 := by decide +kernel
theorem dX13_wrongWay_22 : cod mX13_wrongWay 22 (.ifCond .ne 8) 3 := by decide +kernel
theorem dX13_wrongWay_25 : cod mX13_wrongWay 25 (.bipush (-11)) 2 := by decide +kernel
theorem dX13_wrongWay_27 : cod mX13_wrongWay 27 (.goto 19) 3 := by decide +kernel
theorem dX13_wrongWay_30 : cod mX13_wrongWay 30 (.aload_n 0) 1 := by decide +kernel
theorem dX13_wrongWay_31 : cod mX13_wrongWay 31 (.getfield 94) 3 := by decide +kernel
theorem dX13_wrongWay_34 : cod mX13_wrongWay 34 (.iload_n 1) 1 := by decide +kernel
theorem dX13_wrongWay_35 : cod mX13_wrongWay 35 (.iaload) 1 := by decide +kernel
theorem dX13_wrongWay_36 : cod mX13_wrongWay 36 (.iconst 1) 1 := by decide +kernel
theorem dX13_wrongWay_37 : cod mX13_wrongWay 37 (.if_icmp .eq 8) 3 := by decide +kernel
theorem dX13_wrongWay_40 : cod mX13_wrongWay 40 (.bipush (-12)) 2 := by decide +kernel
theorem dX13_wrongWay_42 : cod mX13_wrongWay 42 (.goto 4) 3 := by decide +kernel
theorem dX13_wrongWay_45 : cod mX13_wrongWay 45 (.iconst 0) 1 := by decide +kernel
theorem dX13_wrongWay_46 : cod mX13_wrongWay 46 (.ireturn) 1 := by decide +kernel
def wp_X13_wrongWay (p0 : Nat) (p1 : Int32) (M : Mem) (Q : Int32 → Mem → Prop) : Prop := wp_X13_in p1.toInt64 0 7 M (fun r3 M2 => (¬ r3 = (0 : Int32) → mK M2 p0 = 14 ∧ mK M2 (mR M2 p0 49) = 20 ∧ vp_in p1 (mN M2 (mR M2 p0 49)) ∧ (¬ (mI M2 (mR M2 p0 49) p1.toNatClampNeg) = (0 : Int32) → vp_in p1 (mN M2 (mR M2 p0 49)) ∧ ((mI M2 (mR M2 p0 49) p1.toNatClampNeg) = (1 : Int32) → Q 0 M2) ∧ (¬ (mI M2 (mR M2 p0 49) p1.toNatClampNeg) = (1 : Int32) → Q (-12) M2)) ∧ ((mI M2 (mR M2 p0 49) p1.toNatClampNeg) = (0 : Int32) → Q (-11) M2)) ∧ (r3 = (0 : Int32) → Q (-1) M2))
theorem T_X13_wrongWay {G : GG} {Q : Int32 → Mem → Prop} {M : Mem} {p0 : Nat} {p1 : Int32} (h : wp_X13_wrongWay p0 p1 M Q) : PMet G mX13_wrongWay 1 0 0 [.ref p0, .int p1] M (QI Q) :=
  mk_met (by decide) rfl rfl (by
    intro w hw x9 e9
    subst e9
    simp at hw) (Nat.le_of_ble_eq_true rfl) (s_pad (L1 := [some (.ref p0), some (.int p1)]) 2 rfl (s_iload_n (pc := 0) dX13_wrongWay_0 rfl (s_i2l (pc := 1) dX13_wrongWay_1 (s_lconst (pc := 2) (v := 0) dX13_wrongWay_2 rfl (s_ldc2 (pc := 3) dX13_wrongWay_3 k_X13_273 (s_callS (pc := 6) (As := [.long p1.toInt64, .long 0, .long 7]) (rest := []) (d' := 0) (mc' := 0) (ms' := 0) dX13_wrongWay_6 c_X13_122 rfl rfl (Nat.le_of_ble_eq_true rfl) (rm_ok rfl rfl) ⟨Nat.le_refl 0, Nat.le_refl 0⟩ (T_X13_in h) (kkI (fun r3 M2 h1 => s_if_ne (pc := 9) (tgt := 16) dX13_wrongWay_9 rfl (fun c4 => have h5 := h1.1 c4; s_aload_n (pc := 16) dX13_wrongWay_16 rfl (s_getR (pc := 17) dX13_wrongWay_17 f_X13_94 rfl h5.1 (s_iload_n (pc := 20) dX13_wrongWay_20 rfl (s_ial (pc := 21) dX13_wrongWay_21 h5.2.1 h5.2.2.1 (s_if_ne (pc := 22) (tgt := 30) dX13_wrongWay_22 rfl (fun c8 => have h9 := h5.2.2.2.1 c8; s_aload_n (pc := 30) dX13_wrongWay_30 rfl (s_getR (pc := 31) dX13_wrongWay_31 f_X13_94 rfl h5.1 (s_iload_n (pc := 34) dX13_wrongWay_34 rfl (s_ial (pc := 35) dX13_wrongWay_35 h5.2.1 h9.1 (s_iconst (pc := 36) dX13_wrongWay_36 ci_1 (s_icmp_eq (pc := 37) (tgt := 45) dX13_wrongWay_37 rfl (fun c12 => have h13 := h9.2.1 c12; s_iconst (pc := 45) dX13_wrongWay_45 ci_0 (s_ireturn (pc := 46) dX13_wrongWay_46 rfl (Nat.zero_le _) (Nat.zero_le _) ⟨_, rfl, h13⟩)) (fun c14 => have h15 := h9.2.2 c14; s_bipush (pc := 40) dX13_wrongWay_40 cb_m12 (s_goto (pc := 42) (tgt := 46) dX13_wrongWay_42 rfl (s_ireturn (pc := 46) dX13_wrongWay_46 rfl (Nat.zero_le _) (Nat.zero_le _) ⟨_, rfl, h15⟩))))))))) (fun c10 => have h11 := h5.2.2.2.2 c10; s_bipush (pc := 25) dX13_wrongWay_25 cb_m11 (s_goto (pc := 27) (tgt := 46) dX13_wrongWay_27 rfl (s_ireturn (pc := 46) dX13_wrongWay_46 rfl (Nat.zero_le _) (Nat.zero_le _) ⟨_, rfl, h11⟩)))))))) (fun c6 => have h7 := h1.2 c6; s_iconst (pc := 12) dX13_wrongWay_12 ci_m1 (s_goto (pc := 13) (tgt := 46) dX13_wrongWay_13 rfl (s_ireturn (pc := 46) dX13_wrongWay_46 rfl (Nat.zero_le _) (Nat.zero_le _) ⟨_, rfl, h7⟩)))))))))))
/-! X13_calls -/
theorem dX13_calls_0 : cod mX13_calls 0 (.aload_n 0) 1 := by decide +kernel
theorem dX13_calls_1 : cod mX13_calls 1 (.iconst 0) 1 := by decide +kernel
theorem dX13_calls_2 : cod mX13_calls 2 (.putfield 115) 3 := by decide +kernel
theorem dX13_calls_5 : cod mX13_calls 5 (.iload_n 2) 1 := by decide +kernel
theorem dX13_calls_6 : cod mX13_calls 6 (.i2l) 1 := by decide +kernel
theorem dX13_calls_7 : cod mX13_calls 7 (.lconst 0) 1 := by decide +kernel
theorem dX13_calls_8 : cod mX13_calls 8 (.lconst 1) 1 := by decide +kernel
theorem dX13_calls_9 : cod mX13_calls 9 (.invokestatic 122) 3 := by decide +kernel
theorem dX13_calls_12 : cod mX13_calls 12 (.ifCond .ne 7) 3 := by decide +kernel
theorem dX13_calls_15 : cod mX13_calls 15 (.iconst (-1)) 1 := by decide +kernel
theorem dX13_calls_16 : cod mX13_calls 16 (.goto 8) 3 := by decide +kernel
theorem dX13_calls_19 : cod mX13_calls 19 (.aload_n 0) 1 := by decide +kernel
theorem dX13_calls_20 : cod mX13_calls 20 (.iload_n 1) 1 := by decide +kernel
theorem dX13_calls_21 : cod mX13_calls 21 (.invokevirtual 275) 3 := by decide +kernel
theorem dX13_calls_24 : cod mX13_calls 24 (.istore_n 3) 1 := by decide +kernel
theorem dX13_calls_25 : cod mX13_calls 25 (.iload_n 3) 1 := by decide +kernel
theorem dX13_calls_26 : cod mX13_calls 26 (.ifCond .ge 5) 3 := by decide +kernel
theorem dX13_calls_29 : cod mX13_calls 29 (.iload_n 3) 1 := by decide +kernel
theorem dX13_calls_30 : cod mX13_calls 30 (.ireturn) 1 := by decide +kernel
theorem dX13_calls_31 : cod mX13_calls 31 (.aload_n 0) 1 := by decide +kernel
theorem dX13_calls_32 : cod mX13_calls 32 (.invokevirtual 228) 3 := by decide +kernel
theorem dX13_calls_35 : cod mX13_calls 35 (.ifCond .ne 6) 3 := by decide +kernel
theorem dX13_calls_38 : cod mX13_calls 38 (.bipush (-3)) 2 := by decide +kernel
theorem dX13_calls_40 : cod mX13_calls 40 (.ireturn) 1 := by decide +kernel
theorem dX13_calls_41 : cod mX13_calls 41 (.aload_n 0) 1 := by decide +kernel
theorem dX13_calls_42 : cod mX13_calls 42 (.invokevirtual 278) 3 := by decide +kernel
theorem dX13_calls_45 : cod mX13_calls 45 (.aload_n 0) 1 := by decide +kernel
theorem dX13_calls_46 : cod mX13_calls 46 (.invokevirtual 231) 3 := by decide +kernel
theorem dX13_calls_49 : cod mX13_calls 49 (.aload_n 0) 1 := by decide +kernel
theorem dX13_calls_50 : cod mX13_calls 50 (.aload_n 0) 1 := by decide +kernel
theorem dX13_calls_51 : cod mX13_calls 51 (.getfield 97) 3 := by decide +kernel
theorem dX13_calls_54 : cod mX13_calls 54 (.iload_n 1) 1 := by decide +kernel
theorem dX13_calls_55 : cod mX13_calls 55 (.iaload) 1 := by decide +kernel
theorem dX13_calls_56 : cod mX13_calls 56 (.aload_n 0) 1 := by decide +kernel
theorem dX13_calls_57 : cod mX13_calls 57 (.getfield 100) 3 := by decide +kernel
theorem dX13_calls_60 : cod mX13_calls 60 (.iload_n 1) 1 := by decide +kernel
theorem dX13_calls_61 : cod mX13_calls 61 (.iaload) 1 := by decide +kernel
theorem dX13_calls_62 : cod mX13_calls 62 (.aload_n 0) 1 := by decide +kernel
theorem dX13_calls_63 : cod mX13_calls 63 (.getfield 190) 3 := by decide +kernel
theorem dX13_calls_66 : cod mX13_calls 66 (.invokevirtual 281) 3 := by decide +kernel
theorem dX13_calls_69 : cod mX13_calls 69 (.iload_n 2) 1 := by decide +kernel
theorem dX13_calls_70 : cod mX13_calls 70 (.ifCond .ne 10) 3 := by decide +kernel
theorem dX13_calls_73 : cod mX13_calls 73 (.aload_n 0) 1 := by decide +kernel
theorem dX13_calls_74 : cod mX13_calls 74 (.getfield 267) 3 := by decide +kernel
theorem dX13_calls_77 : cod mX13_calls 77 (.goto 7) 3 := by decide +kernel
theorem dX13_calls_80 : cod mX13_calls 80 (.aload_n 0) 1 := by decide +kernel
theorem dX13_calls_81 : cod mX13_calls 81 (.getfield 270) 3 := by decide +kernel
theorem dX13_calls_84 : cod mX13_calls 84 (.ireturn) 1 := by decide +kernel
def jn_X13_calls_24 (Q : Int32 → Mem → Prop) (x0 : Nat) (x1 : Int32) (x2 : Int32) (s0 : Int32) (M : Mem) : Prop := ((0 : Int32) ≤ s0 → mK M x0 = 14 ∧ wp_X13_isReady x0 M (fun r20 M19 => (¬ r20 = (0 : Int32) → mK M19 x0 = 14 ∧ wp_X13_findChanceMean x0 M19 (fun M26 => mK M26 x0 = 14 ∧ wp_X13_setMind x0 M26 (fun M28 => mK M28 x0 = 14 ∧ mK M28 (mR M28 x0 50) = 20 ∧ vp_in x1 (mN M28 (mR M28 x0 50)) ∧ mK M28 (mR M28 x0 51) = 20 ∧ vp_in x1 (mN M28 (mR M28 x0 51)) ∧ wp_X13_call x0 (mI M28 (mR M28 x0 50) x1.toNatClampNeg) (mI M28 (mR M28 x0 51) x1.toNatClampNeg) (mI M28 x0 11) M28 (fun M30 => (¬ x2 = (0 : Int32) → mK M30 x0 = 14 ∧ Q (mI M30 x0 25) M30) ∧ (x2 = (0 : Int32) → mK M30 x0 = 14 ∧ Q (mI M30 x0 24) M30))))) ∧ (r20 = (0 : Int32) → Q (-3) M19))) ∧ (¬ (0 : Int32) ≤ s0 → Q s0 M)
theorem P_jn_X13_calls_24 {G : GG} {Q : Int32 → Mem → Prop} (x0 : Nat) (x1 : Int32) (x2 : Int32) (s0 : Int32) (M : Mem) (h : jn_X13_calls_24 Q x0 x1 x2 s0 M) : PW G mX13_calls (rmD 4 0 0) (QI Q) 24 [some (.ref x0), some (.int x1), some (.int x2), none] [.int s0] M 0 0 := (s_istore_n (pc := 24) (L1 := [some (.ref x0), some (.int x1), some (.int x2), some (.int s0)]) dX13_calls_24 (Nat.le_of_ble_eq_true rfl) rfl (s_iload_n (pc := 25) dX13_calls_25 rfl (s_if_ge (pc := 26) (tgt := 31) dX13_calls_26 rfl (fun c14 => have h15 := h.1 c14; s_aload_n (pc := 31) dX13_calls_31 rfl (s_callV (pc := 32) (As := []) (rest := []) (d' := 1) (mc' := 0) (ms' := 0) dX13_calls_32 c_X13_228 (Nat.le_of_ble_eq_true rfl) rfl h15.1 rfl rfl (Nat.le_of_ble_eq_true rfl) (rm_ok rfl rfl) ⟨Nat.le_refl 0, Nat.le_refl 0⟩ (T_X13_isReady h15.2) (kkI (fun r20 M19 h18 => s_if_ne (pc := 35) (tgt := 41) dX13_calls_35 rfl (fun c21 => have h22 := h18.1 c21; s_aload_n (pc := 41) dX13_calls_41 rfl (s_callV (pc := 42) (As := []) (rest := []) (d' := 0) (mc' := 0) (ms' := 0) dX13_calls_42 c_X13_278 (Nat.le_of_ble_eq_true rfl) rfl h22.1 rfl rfl (Nat.le_of_ble_eq_true rfl) (rm_ok rfl rfl) ⟨Nat.le_refl 0, Nat.le_refl 0⟩ (T_X13_findChanceMean h22.2) (kkV (fun M26 h25 => s_aload_n (pc := 45) dX13_calls_45 rfl (s_callV (pc := 46) (As := []) (rest := []) (d' := 0) (mc' := 0) (ms' := 0) dX13_calls_46 c_X13_231 (Nat.le_of_ble_eq_true rfl) rfl h25.1 rfl rfl (Nat.le_of_ble_eq_true rfl) (rm_ok rfl rfl) ⟨Nat.le_refl 0, Nat.le_refl 0⟩ (T_X13_setMind h25.2) (kkV (fun M28 h27 => s_aload_n (pc := 49) dX13_calls_49 rfl (s_aload_n (pc := 50) dX13_calls_50 rfl (s_getR (pc := 51) dX13_calls_51 f_X13_97 rfl h27.1 (s_iload_n (pc := 54) dX13_calls_54 rfl (s_ial (pc := 55) dX13_calls_55 h27.2.1 h27.2.2.1 (s_aload_n (pc := 56) dX13_calls_56 rfl (s_getR (pc := 57) dX13_calls_57 f_X13_100 rfl h27.1 (s_iload_n (pc := 60) dX13_calls_60 rfl (s_ial (pc := 61) dX13_calls_61 h27.2.2.2.1 h27.2.2.2.2.1 (s_aload_n (pc := 62) dX13_calls_62 rfl (s_getI (pc := 63) dX13_calls_63 f_X13_190 rfl h27.1 (s_callV (pc := 66) (As := [.int (mI M28 (mR M28 x0 50) x1.toNatClampNeg), .int (mI M28 (mR M28 x0 51) x1.toNatClampNeg), .int (mI M28 x0 11)]) (rest := []) (d' := 3) (mc' := 0) (ms' := 0) dX13_calls_66 c_X13_281 (Nat.le_of_ble_eq_true rfl) rfl h27.1 rfl rfl (Nat.le_of_ble_eq_true rfl) (rm_ok rfl rfl) ⟨Nat.le_refl 0, Nat.le_refl 0⟩ (T_X13_call h27.2.2.2.2.2) (kkV (fun M30 h29 => s_iload_n (pc := 69) dX13_calls_69 rfl (s_if_ne (pc := 70) (tgt := 80) dX13_calls_70 rfl (fun c31 => have h32 := h29.1 c31; s_aload_n (pc := 80) dX13_calls_80 rfl (s_getI (pc := 81) dX13_calls_81 f_X13_270 rfl h32.1 (s_ireturn (pc := 84) dX13_calls_84 rfl (Nat.zero_le _) (Nat.zero_le _) ⟨_, rfl, h32.2⟩))) (fun c33 => have h34 := h29.2 c33; s_aload_n (pc := 73) dX13_calls_73 rfl (s_getI (pc := 74) dX13_calls_74 f_X13_267 rfl h34.1 (s_goto (pc := 77) (tgt := 84) dX13_calls_77 rfl (s_ireturn (pc := 84) dX13_calls_84 rfl (Nat.zero_le _) (Nat.zero_le _) ⟨_, rfl, h34.2⟩))))))))))))))))))))))))) (fun c23 => have h24 := h18.2 c23; s_bipush (pc := 38) dX13_calls_38 cb_m3 (s_ireturn (pc := 40) dX13_calls_40 rfl (Nat.zero_le _) (Nat.zero_le _) ⟨_, rfl, h24⟩)))))) (fun c16 => have h17 := h.2 c16; s_iload_n (pc := 29) dX13_calls_29 rfl (s_ireturn (pc := 30) dX13_calls_30 rfl (Nat.zero_le _) (Nat.zero_le _) ⟨_, rfl, h17⟩)))))
def wp_X13_calls (p0 : Nat) (p1 : Int32) (p2 : Int32) (M : Mem) (Q : Int32 → Mem → Prop) : Prop := mK M p0 = 14 ∧ ∀ M1 : Mem, M1 = uI M p0 12 0 → wp_X13_in p2.toInt64 0 1 M1 (fun r6 M5 => (¬ r6 = (0 : Int32) → mK M5 p0 = 14 ∧ wp_X13_wrongWay p0 p1 M5 (fun r13 M12 => jn_X13_calls_24 Q p0 p1 p2 r13 M12)) ∧ (r6 = (0 : Int32) → jn_X13_calls_24 Q p0 p1 p2 (-1) M5))
theorem T_X13_calls {G : GG} {Q : Int32 → Mem → Prop} {M : Mem} {p0 : Nat} {p1 : Int32} {p2 : Int32} (h : wp_X13_calls p0 p1 p2 M Q) : PMet G mX13_calls 4 0 0 [.ref p0, .int p1, .int p2] M (QI Q) :=
  mk_met (by decide) rfl rfl (by
    intro w hw x9 e9
    subst e9
    simp at hw) (Nat.le_of_ble_eq_true rfl) (s_pad (L1 := [some (.ref p0), some (.int p1), some (.int p2), none]) 4 rfl (s_aload_n (pc := 0) dX13_calls_0 rfl (s_iconst (pc := 1) dX13_calls_1 ci_0 (s_putI (pc := 2) dX13_calls_2 f_X13_115 (Or.inl rfl) (Or.inl rfl) h.1 (nmM (fun M1 e2 => have h3 := h.2 M1 e2; s_iload_n (pc := 5) dX13_calls_5 rfl (s_i2l (pc := 6) dX13_calls_6 (s_lconst (pc := 7) (v := 0) dX13_calls_7 rfl (s_lconst (pc := 8) (v := 1) dX13_calls_8 rfl (s_callS (pc := 9) (As := [.long p2.toInt64, .long 0, .long 1]) (rest := []) (d' := 0) (mc' := 0) (ms' := 0) dX13_calls_9 c_X13_122 rfl rfl (Nat.le_of_ble_eq_true rfl) (rm_ok rfl rfl) ⟨Nat.le_refl 0, Nat.le_refl 0⟩ (T_X13_in h3) (kkI (fun r6 M5 h4 => s_if_ne (pc := 12) (tgt := 19) dX13_calls_12 rfl (fun c7 => have h8 := h4.1 c7; s_aload_n (pc := 19) dX13_calls_19 rfl (s_iload_n (pc := 20) dX13_calls_20 rfl (s_callV (pc := 21) (As := [.int p1]) (rest := []) (d' := 1) (mc' := 0) (ms' := 0) dX13_calls_21 c_X13_275 (Nat.le_of_ble_eq_true rfl) rfl h8.1 rfl rfl (Nat.le_of_ble_eq_true rfl) (rm_ok rfl rfl) ⟨Nat.le_refl 0, Nat.le_refl 0⟩ (T_X13_wrongWay h8.2) (kkI (fun r13 M12 h11 => s_sel (L1 := [some (.ref p0), some (.int p1), some (.int p2), none]) [true, true, true, false] rfl (P_jn_X13_calls_24 p0 p1 p2 r13 M12 h11)))))) (fun c9 => have h10 := h4.2 c9; s_iconst (pc := 15) dX13_calls_15 ci_m1 (s_goto (pc := 16) (tgt := 24) dX13_calls_16 rfl (s_sel (L1 := [some (.ref p0), some (.int p1), some (.int p2), none]) [true, true, true, false] rfl (P_jn_X13_calls_24 p0 p1 p2 (-1) M5 h10))))))))))))))))
/-! X13_isWorth -/
theorem dX13_isWorth_0 : cod mX13_isWorth 0 (.iload_n 1) 1 := by decide +kernel
theorem dX13_isWorth_1 : cod mX13_isWorth 1 (.i2l) 1 := by decide +kernel
theorem dX13_isWorth_2 : cod mX13_isWorth 2 (.lconst 0) 1 := by decide +kernel
theorem dX13_isWorth_3 : cod mX13_isWorth 3 (.aload_n 0) 1 := by decide +kernel
theorem dX13_isWorth_4 : cod mX13_isWorth 4 (.getfield 119) 3 := by decide +kernel
theorem dX13_isWorth_7 : cod mX13_isWorth 7 (.iconst 1) 1 := by decide +kernel
theorem dX13_isWorth_8 : cod mX13_isWorth 8 (.isub) 1 := by decide +kernel
theorem dX13_isWorth_9 : cod mX13_isWorth 9 (.i2l) 1 := by decide +kernel
theorem dX13_isWorth_10 : cod mX13_isWorth 10 (.invokestatic 122) 3 := by decide +kernel
theorem dX13_isWorth_13 : cod mX13_isWorth 13 (.ireturn) 1 := by decide +kernel
def wp_X13_isWorth (p0 : Nat) (p1 : Int32) (M : Mem) (Q : Int32 → Mem → Prop) : Prop := mK M p0 = 14 ∧ wp_X13_in p1.toInt64 0 (((mI M p0 0) - 1).toInt64) M (fun r3 M2 => (r3 = 0 ∨ r3 = 1) ∧ Q r3 M2)
theorem T_X13_isWorth {G : GG} {Q : Int32 → Mem → Prop} {M : Mem} {p0 : Nat} {p1 : Int32} (h : wp_X13_isWorth p0 p1 M Q) : PMet G mX13_isWorth 1 0 0 [.ref p0, .int p1] M (QI Q) :=
  mk_met (by decide) rfl rfl (by
    intro w hw x9 e9
    subst e9
    simp at hw) (Nat.le_of_ble_eq_true rfl) (s_pad (L1 := [some (.ref p0), some (.int p1)]) 2 rfl (s_iload_n (pc := 0) dX13_isWorth_0 rfl (s_i2l (pc := 1) dX13_isWorth_1 (s_lconst (pc := 2) (v := 0) dX13_isWorth_2 rfl (s_aload_n (pc := 3) dX13_isWorth_3 rfl (s_getI (pc := 4) dX13_isWorth_4 f_X13_119 rfl h.1 (s_iconst (pc := 7) dX13_isWorth_7 ci_1 (s_isub (pc := 8) dX13_isWorth_8 (s_i2l (pc := 9) dX13_isWorth_9 (s_callS (pc := 10) (As := [.long p1.toInt64, .long 0, .long (((mI M p0 0) - 1).toInt64)]) (rest := []) (d' := 0) (mc' := 0) (ms' := 0) dX13_isWorth_10 c_X13_122 rfl rfl (Nat.le_of_ble_eq_true rfl) (rm_ok rfl rfl) ⟨Nat.le_refl 0, Nat.le_refl 0⟩ (T_X13_in h.2) (kkI (fun r3 M2 h1 => s_zreturn (pc := 13) dX13_isWorth_13 rfl h1.1 (Nat.zero_le _) (Nat.zero_le _) ⟨_, rfl, h1.2⟩))))))))))))
/-! X13_chance -/
theorem dX13_chance_0 : cod mX13_chance 0 (.aload_n 0) 1 := by decide +kernel
theorem dX13_chance_1 : cod mX13_chance 1 (.iconst 0) 1 := by decide +kernel
theorem dX13_chance_2 : cod mX13_chance 2 (.putfield 115) 3 := by decide +kernel
theorem dX13_chance_5 : cod mX13_chance 5 (.iload_n 1) 1 := by decide +kernel
theorem dX13_chance_6 : cod mX13_chance 6 (.i2l) 1 := by decide +kernel
theorem dX13_chance_7 : cod mX13_chance 7 (.lconst 0) 1 := by decide +kernel
theorem dX13_chance_8 : cod mX13_chance 8 (.ldc2_w 196) 3 := by decide +kernel
theorem dX13_chance_11 : cod mX13_chance 11 (.invokestatic 122) 3 := by decide +kernel
theorem dX13_chance_14 : cod mX13_chance 14 (.ifCond .eq 36) 3 := by decide +kernel
theorem dX13_chance_17 : cod mX13_chance 17 (.aload_n 0) 1 := by decide +kernel
theorem dX13_chance_18 : cod mX13_chance 18 (.iload_n 2) 1 := by decide +kernel
theorem dX13_chance_19 : cod mX13_chance 19 (.invokevirtual 193) 3 := by decide +kernel
theorem dX13_chance_22 : cod mX13_chance 22 (.ifCond .eq 28) 3 := by decide +kernel
theorem dX13_chance_25 : cod mX13_chance 25 (.iload_n 3) 1 := by decide +kernel
theorem dX13_chance_26 : cod mX13_chance 26 (.iload 4) 2 := by decide +kernel
theorem dX13_chance_28 : cod mX13_chance 28 (.invokestatic 202) 3 := by decide +kernel
theorem dX13_chance_31 : cod mX13_chance 31 (.ifCond .eq 19) 3 := by decide +kernel
theorem dX13_chance_34 : cod mX13_chance 34 (.aload_n 0) 1 := by decide +kernel
theorem dX13_chance_35 : cod mX13_chance 35 (.iload_n 1) 1 := by decide +kernel
theorem dX13_chance_36 : cod mX13_chance 36 (.iload_n 2) 1 := by decide +kernel
theorem dX13_chance_37 : cod mX13_chance 37 (.iload_n 3) 1 := by decide +kernel
theorem dX13_chance_38 : cod mX13_chance 38 (.iload 4) 2 := by decide +kernel
theorem dX13_chance_40 : cod mX13_chance 40 (.aload_n 0) 1 := by decide +kernel
theorem dX13_chance_41 : cod mX13_chance 41 (.getfield 190) 3 := by decide +kernel
theorem dX13_chance_44 : cod mX13_chance 44 (.invokevirtual 214) 3 := by decide +kernel
theorem dX13_chance_47 : cod mX13_chance 47 (.goto 4) 3 := by decide +kernel
theorem dX13_chance_50 : cod mX13_chance 50 (.iconst (-1)) 1 := by decide +kernel
theorem dX13_chance_51 : cod mX13_chance 51 (.ireturn) 1 := by decide +kernel
def wp_X13_chance (p0 : Nat) (p1 : Int32) (p2 : Int32) (p3 : Int32) (p4 : Int32) (M : Mem) (Q : Int32 → Mem → Prop) : Prop := mK M p0 = 14 ∧ ∀ M1 : Mem, M1 = uI M p0 12 0 → wp_X13_in p1.toInt64 0 2 M1 (fun r6 M5 => (r6 = (0 : Int32) → Q (-1) M5) ∧ (¬ r6 = (0 : Int32) → mK M5 p0 = 14 ∧ wp_X13_isWorth p0 p2 M5 (fun r13 M12 => (r13 = (0 : Int32) → Q (-1) M12) ∧ (¬ r13 = (0 : Int32) → wp_X13_isSlate p3 p4 M12 (fun r20 M19 => (r20 = (0 : Int32) → Q (-1) M19) ∧ (¬ r20 = (0 : Int32) → mK M19 p0 = 14 ∧ wp_X13_hundredths p0 p1 p2 p3 p4 (mI M19 p0 11) M19 (fun r27 M26 => Q r27 M26)))))))
theorem T_X13_chance {G : GG} {Q : Int32 → Mem → Prop} {M : Mem} {p0 : Nat} {p1 : Int32} {p2 : Int32} {p3 : Int32} {p4 : Int32} (h : wp_X13_chance p0 p1 p2 p3 p4 M Q) : PMet G mX13_chance 2 0 0 [.ref p0, .int p1, .int p2, .int p3, .int p4] M (QI Q) :=
  mk_met (by decide) rfl rfl (by
    intro w hw x9 e9
    subst e9
    simp at hw) (Nat.le_of_ble_eq_true rfl) (s_pad (L1 := [some (.ref p0), some (.int p1), some (.int p2), some (.int p3), some (.int p4)]) 5 rfl (s_aload_n (pc := 0) dX13_chance_0 rfl (s_iconst (pc := 1) dX13_chance_1 ci_0 (s_putI (pc := 2) dX13_chance_2 f_X13_115 (Or.inl rfl) (Or.inl rfl) h.1 (nmM (fun M1 e2 => have h3 := h.2 M1 e2; s_iload_n (pc := 5) dX13_chance_5 rfl (s_i2l (pc := 6) dX13_chance_6 (s_lconst (pc := 7) (v := 0) dX13_chance_7 rfl (s_ldc2 (pc := 8) dX13_chance_8 k_X13_196 (s_callS (pc := 11) (As := [.long p1.toInt64, .long 0, .long 2]) (rest := []) (d' := 0) (mc' := 0) (ms' := 0) dX13_chance_11 c_X13_122 rfl rfl (Nat.le_of_ble_eq_true rfl) (rm_ok rfl rfl) ⟨Nat.le_refl 0, Nat.le_refl 0⟩ (T_X13_in h3) (kkI (fun r6 M5 h4 => s_if_eq (pc := 14) (tgt := 50) dX13_chance_14 rfl (fun c7 => have h8 := h4.1 c7; s_iconst (pc := 50) dX13_chance_50 ci_m1 (s_ireturn (pc := 51) dX13_chance_51 rfl (Nat.zero_le _) (Nat.zero_le _) ⟨_, rfl, h8⟩)) (fun c9 => have h10 := h4.2 c9; s_aload_n (pc := 17) dX13_chance_17 rfl (s_iload_n (pc := 18) dX13_chance_18 rfl (s_callV (pc := 19) (As := [.int p2]) (rest := []) (d' := 1) (mc' := 0) (ms' := 0) dX13_chance_19 c_X13_193 (Nat.le_of_ble_eq_true rfl) rfl h10.1 rfl rfl (Nat.le_of_ble_eq_true rfl) (rm_ok rfl rfl) ⟨Nat.le_refl 0, Nat.le_refl 0⟩ (T_X13_isWorth h10.2) (kkI (fun r13 M12 h11 => s_if_eq (pc := 22) (tgt := 50) dX13_chance_22 rfl (fun c14 => have h15 := h11.1 c14; s_iconst (pc := 50) dX13_chance_50 ci_m1 (s_ireturn (pc := 51) dX13_chance_51 rfl (Nat.zero_le _) (Nat.zero_le _) ⟨_, rfl, h15⟩)) (fun c16 => have h17 := h11.2 c16; s_iload_n (pc := 25) dX13_chance_25 rfl (s_iload (pc := 26) dX13_chance_26 rfl (s_callS (pc := 28) (As := [.int p3, .int p4]) (rest := []) (d' := 1) (mc' := 0) (ms' := 0) dX13_chance_28 c_X13_202 rfl rfl (Nat.le_of_ble_eq_true rfl) (rm_ok rfl rfl) ⟨Nat.le_refl 0, Nat.le_refl 0⟩ (T_X13_isSlate h17) (kkI (fun r20 M19 h18 => s_if_eq (pc := 31) (tgt := 50) dX13_chance_31 rfl (fun c21 => have h22 := h18.1 c21; s_iconst (pc := 50) dX13_chance_50 ci_m1 (s_ireturn (pc := 51) dX13_chance_51 rfl (Nat.zero_le _) (Nat.zero_le _) ⟨_, rfl, h22⟩)) (fun c23 => have h24 := h18.2 c23; s_aload_n (pc := 34) dX13_chance_34 rfl (s_iload_n (pc := 35) dX13_chance_35 rfl (s_iload_n (pc := 36) dX13_chance_36 rfl (s_iload_n (pc := 37) dX13_chance_37 rfl (s_iload (pc := 38) dX13_chance_38 rfl (s_aload_n (pc := 40) dX13_chance_40 rfl (s_getI (pc := 41) dX13_chance_41 f_X13_190 rfl h24.1 (s_callV (pc := 44) (As := [.int p1, .int p2, .int p3, .int p4, .int (mI M19 p0 11)]) (rest := []) (d' := 1) (mc' := 0) (ms' := 0) dX13_chance_44 c_X13_214 (Nat.le_of_ble_eq_true rfl) rfl h24.1 rfl rfl (Nat.le_of_ble_eq_true rfl) (rm_ok rfl rfl) ⟨Nat.le_refl 0, Nat.le_refl 0⟩ (T_X13_hundredths h24.2) (kkI (fun r27 M26 h25 => s_goto (pc := 47) (tgt := 51) dX13_chance_47 rfl (s_ireturn (pc := 51) dX13_chance_51 rfl (Nat.zero_le _) (Nat.zero_le _) ⟨_, rfl, h25⟩)))))))))))))))))))))))))))))))))
/-! X13_comes -/
theorem dX13_comes_0 : cod mX13_comes 0 (.aload_n 0) 1 := by decide +kernel
theorem dX13_comes_1 : cod mX13_comes 1 (.getfield 42) 3 := by decide +kernel
theorem dX13_comes_4 : cod mX13_comes 4 (.iload_n 1) 1 := by decide +kernel
theorem dX13_comes_5 : cod mX13_comes 5 (.iaload) 1 := by decide +kernel
theorem dX13_comes_6 : cod mX13_comes 6 (.istore_n 2) 1 := by decide +kernel
theorem dX13_comes_7 : cod mX13_comes 7 (.aload_n 0) 1 := by decide +kernel
theorem dX13_comes_8 : cod mX13_comes 8 (.getfield 45) 3 := by decide +kernel
theorem dX13_comes_11 : cod mX13_comes 11 (.iload_n 1) 1 := by decide +kernel
theorem dX13_comes_12 : cod mX13_comes 12 (.iaload) 1 := by decide +kernel
theorem dX13_comes_13 : cod mX13_comes 13 (.istore_n 3) 1 := by decide +kernel
theorem dX13_comes_14 : cod mX13_comes 14 (.aload_n 0) 1 := by decide +kernel
theorem dX13_comes_15 : cod mX13_comes 15 (.getfield 39) 3 := by decide +kernel
theorem dX13_comes_18 : cod mX13_comes 18 (.iload_n 1) 1 := by decide +kernel
theorem dX13_comes_19 : cod mX13_comes 19 (.iaload) 1 := by decide +kernel
theorem dX13_comes_20 : cod mX13_comes 20 (.lookupswitch 267 #[(99, 116), (107, 237), (109, 207), (119, 44)]) 44 := by decide +kernel
theorem dX13_comes_64 : cod mX13_comes 64 (.iload_n 2) 1 := by decide +kernel
theorem dX13_comes_65 : cod mX13_comes 65 (.i2l) 1 := by decide +kernel
theorem dX13_comes_66 : cod mX13_comes 66 (.lconst 1) 1 := by decide +kernel
theorem dX13_comes_67 : cod mX13_comes 67 (.ldc2_w 126) 3 := by decide +kernel
theorem dX13_comes_70 : cod mX13_comes 70 (.invokestatic 122) 3 := by decide +kernel
theorem dX13_comes_73 : cod mX13_comes 73 (.ifCond .eq 29) 3 := by decide +kernel
theorem dX13_comes_76 : cod mX13_comes 76 (.iload_n 3) 1 := by decide +kernel
theorem dX13_comes_77 : cod mX13_comes 77 (.bipush 99) 2 := by decide +kernel
theorem dX13_comes_79 : cod mX13_comes 79 (.if_icmp .gt 23) 3 := by decide +kernel
theorem dX13_comes_82 : cod mX13_comes 82 (.aload_n 0) 1 := by decide +kernel
theorem dX13_comes_83 : cod mX13_comes 83 (.getfield 119) 3 := by decide +kernel
theorem dX13_comes_86 : cod mX13_comes 86 (.bipush 6) 2 := by decide +kernel
theorem dX13_comes_88 : cod mX13_comes 88 (.if_icmp .eq 14) 3 := by decide +kernel
theorem dX13_comes_91 : cod mX13_comes 91 (.aload_n 0) 1 := by decide +kernel
theorem dX13_comes_92 : cod mX13_comes 92 (.invokevirtual 131) 3 := by decide +kernel
theorem dX13_comes_95 : cod mX13_comes 95 (.iload_n 2) 1 := by decide +kernel
theorem dX13_comes_96 : cod mX13_comes 96 (.iadd) 1 := by decide +kernel
theorem dX13_comes_97 : cod mX13_comes 97 (.bipush 100) 2 := by decide +kernel
theorem dX13_comes_99 : cod mX13_comes 99 (.if_icmp .le 5) 3 := by decide +kernel
theorem dX13_comes_102 : cod mX13_comes 102 (.iconst 0) 1 := by decide +kernel
theorem dX13_comes_103 : cod mX13_comes 103 (.ireturn) 1 := by decide +kernel
theorem dX13_comes_104 : cod mX13_comes 104 (.aload_n 0) 1 := by decide +kernel
theorem dX13_comes_105 : cod mX13_comes 105 (.getfield 7) 3 := by decide +kernel
theorem dX13_comes_108 : cod mX13_comes 108 (.aload_n 0) 1 := by decide +kernel
theorem dX13_comes_109 : cod mX13_comes 109 (.getfield 119) 3 := by decide +kernel
theorem dX13_comes_112 : cod mX13_comes 112 (.iload_n 2) 1 := by decide +kernel
theorem dX13_comes_113 : cod mX13_comes 113 (.iastore) 1 := by decide +kernel
theorem dX13_comes_114 : cod mX13_comes 114 (.aload_n 0) 1 := by decide +kernel
theorem dX13_comes_115 : cod mX13_comes 115 (.getfield 13) 3 := by decide +kernel
theorem dX13_comes_118 : cod mX13_comes 118 (.aload_n 0) 1 := by decide +kernel
theorem dX13_comes_119 : cod mX13_comes 119 (.getfield 119) 3 := by decide +kernel
theorem dX13_comes_122 : cod mX13_comes 122 (.iload_n 3) 1 := by decide +kernel
theorem dX13_comes_123 : cod mX13_comes 123 (.iastore) 1 := by decide +kernel
theorem dX13_comes_124 : cod mX13_comes 124 (.aload_n 0) 1 := by decide +kernel
theorem dX13_comes_125 : cod mX13_comes 125 (.dup) 1 := by decide +kernel
theorem dX13_comes_126 : cod mX13_comes 126 (.getfield 119) 3 := by decide +kernel
theorem dX13_comes_129 : cod mX13_comes 129 (.iconst 1) 1 := by decide +kernel
theorem dX13_comes_130 : cod mX13_comes 130 (.iadd) 1 := by decide +kernel
theorem dX13_comes_131 : cod mX13_comes 131 (.putfield 119) 3 := by decide +kernel
theorem dX13_comes_134 : cod mX13_comes 134 (.iconst 1) 1 := by decide +kernel
theorem dX13_comes_135 : cod mX13_comes 135 (.ireturn) 1 := by decide +kernel
theorem dX13_comes_136 : cod mX13_comes 136 (.iload_n 2) 1 := by decide +kernel
theorem dX13_comes_137 : cod mX13_comes 137 (.iconst 4) 1 := by decide +kernel
theorem dX13_comes_138 : cod mX13_comes 138 (.if_icmp .gt 40) 3 := by decide +kernel
theorem dX13_comes_141 : cod mX13_comes 141 (.iload_n 3) 1 := by decide +kernel
theorem dX13_comes_142 : cod mX13_comes 142 (.bipush 100) 2 := by decide +kernel
theorem dX13_comes_144 : cod mX13_comes 144 (.if_icmp .gt 34) 3 := by decide +kernel
theorem dX13_comes_147 : cod mX13_comes 147 (.aload_n 0) 1 := by decide +kernel
theorem dX13_comes_148 : cod mX13_comes 148 (.getfield 48) 3 := by decide +kernel
theorem dX13_comes_151 : cod mX13_comes 151 (.iload_n 1) 1 := by decide +kernel
theorem dX13_comes_152 : cod mX13_comes 152 (.iaload) 1 := by decide +kernel
theorem dX13_comes_153 : cod mX13_comes 153 (.bipush 99) 2 := by decide +kernel
theorem dX13_comes_155 : cod mX13_comes 155 (.if_icmp .gt 23) 3 := by decide +kernel
theorem dX13_comes_158 : cod mX13_comes 158 (.aload_n 0) 1 := by decide +kernel
theorem dX13_comes_159 : cod mX13_comes 159 (.getfield 128) 3 := by decide +kernel
theorem dX13_comes_162 : cod mX13_comes 162 (.bipush 6) 2 := by decide +kernel
theorem dX13_comes_164 : cod mX13_comes 164 (.if_icmp .eq 14) 3 := by decide +kernel
theorem dX13_comes_167 : cod mX13_comes 167 (.aload_n 0) 1 := by decide +kernel
theorem dX13_comes_168 : cod mX13_comes 168 (.invokevirtual 168) 3 := by decide +kernel
theorem dX13_comes_171 : cod mX13_comes 171 (.iload_n 3) 1 := by decide +kernel
theorem dX13_comes_172 : cod mX13_comes 172 (.iadd) 1 := by decide +kernel
theorem dX13_comes_173 : cod mX13_comes 173 (.bipush 100) 2 := by decide +kernel
theorem dX13_comes_175 : cod mX13_comes 175 (.if_icmp .le 5) 3 := by decide +kernel
theorem dX13_comes_178 : cod mX13_comes 178 (.iconst 0) 1 := by decide +kernel
theorem dX13_comes_179 : cod mX13_comes 179 (.ireturn) 1 := by decide +kernel
theorem dX13_comes_180 : cod mX13_comes 180 (.aload_n 0) 1 := by decide +kernel
theorem dX13_comes_181 : cod mX13_comes 181 (.getfield 16) 3 := by decide +kernel
theorem dX13_comes_184 : cod mX13_comes 184 (.aload_n 0) 1 := by decide +kernel
theorem dX13_comes_185 : cod mX13_comes 185 (.getfield 128) 3 := by decide +kernel
theorem dX13_comes_188 : cod mX13_comes 188 (.iload_n 2) 1 := by decide +kernel
theorem dX13_comes_189 : cod mX13_comes 189 (.iastore) 1 := by decide +kernel
theorem dX13_comes_190 : cod mX13_comes 190 (.aload_n 0) 1 := by decide +kernel
theorem dX13_comes_191 : cod mX13_comes 191 (.getfield 19) 3 := by decide +kernel
theorem dX13_comes_194 : cod mX13_comes 194 (.aload_n 0) 1 := by decide +kernel
theorem dX13_comes_195 : cod mX13_comes 195 (.getfield 128) 3 := by decide +kernel
theorem dX13_comes_198 : cod mX13_comes 198 (.iload_n 3) 1 := by decide +kernel
theorem dX13_comes_199 : cod mX13_comes 199 (.iastore) 1 := by decide +kernel
theorem dX13_comes_200 : cod mX13_comes 200 (.aload_n 0) 1 := by decide +kernel
theorem dX13_comes_201 : cod mX13_comes 201 (.getfield 22) 3 := by decide +kernel
theorem dX13_comes_204 : cod mX13_comes 204 (.aload_n 0) 1 := by decide +kernel
theorem dX13_comes_205 : cod mX13_comes 205 (.getfield 128) 3 := by decide +kernel
theorem dX13_comes_208 : cod mX13_comes 208 (.aload_n 0) 1 := by decide +kernel
theorem dX13_comes_209 : cod mX13_comes 209 (.getfield 48) 3 := by decide +kernel
theorem dX13_comes_212 : cod mX13_comes 212 (.iload_n 1) 1 := by decide +kernel
theorem dX13_comes_213 : cod mX13_comes 213 (.iaload) 1 := by decide +kernel
theorem dX13_comes_214 : cod mX13_comes 214 (.iastore) 1 := by decide +kernel
theorem dX13_comes_215 : cod mX13_comes 215 (.aload_n 0) 1 := by decide +kernel
theorem dX13_comes_216 : cod mX13_comes 216 (.dup) 1 := by decide +kernel
theorem dX13_comes_217 : cod mX13_comes 217 (.getfield 128) 3 := by decide +kernel
theorem dX13_comes_220 : cod mX13_comes 220 (.iconst 1) 1 := by decide +kernel
theorem dX13_comes_221 : cod mX13_comes 221 (.iadd) 1 := by decide +kernel
theorem dX13_comes_222 : cod mX13_comes 222 (.putfield 128) 3 := by decide +kernel
theorem dX13_comes_225 : cod mX13_comes 225 (.iconst 1) 1 := by decide +kernel
theorem dX13_comes_226 : cod mX13_comes 226 (.ireturn) 1 := by decide +kernel
theorem dX13_comes_227 : cod mX13_comes 227 (.aload_n 0) 1 := by decide +kernel
theorem dX13_comes_228 : cod mX13_comes 228 (.iload_n 2) 1 := by decide +kernel
theorem dX13_comes_229 : cod mX13_comes 229 (.bipush 20) 2 := by decide +kernel
theorem dX13_comes_231 : cod mX13_comes 231 (.if_icmp .le 10) 3 := by decide +kernel
theorem dX13_comes_234 : cod mX13_comes 234 (.aload_n 0) 1 := by decide +kernel
theorem dX13_comes_235 : cod mX13_comes 235 (.getfield 25) 3 := by decide +kernel
theorem dX13_comes_238 : cod mX13_comes 238 (.goto 4) 3 := by decide +kernel
theorem dX13_comes_241 : cod mX13_comes 241 (.iload_n 2) 1 := by decide +kernel
theorem dX13_comes_242 : cod mX13_comes 242 (.putfield 25) 3 := by decide +kernel
theorem dX13_comes_245 : cod mX13_comes 245 (.iload_n 2) 1 := by decide +kernel
theorem dX13_comes_246 : cod mX13_comes 246 (.bipush 20) 2 := by decide +kernel
theorem dX13_comes_248 : cod mX13_comes 248 (.if_icmp .gt 7) 3 := by decide +kernel
theorem dX13_comes_251 : cod mX13_comes 251 (.iconst 1) 1 := by decide +kernel
theorem dX13_comes_252 : cod mX13_comes 252 (.goto 4) 3 := by decide +kernel
theorem dX13_comes_255 : cod mX13_comes 255 (.iconst 0) 1 := by decide +kernel
theorem dX13_comes_256 : cod mX13_comes 256 (.ireturn) 1 := by decide +kernel
theorem dX13_comes_257 : cod mX13_comes 257 (.aload_n 0) 1 := by decide +kernel
theorem dX13_comes_258 : cod mX13_comes 258 (.iload_n 2) 1 := by decide +kernel
theorem dX13_comes_259 : cod mX13_comes 259 (.bipush 9) 2 := by decide +kernel
theorem dX13_comes_261 : cod mX13_comes 261 (.if_icmp .le 10) 3 := by decide +kernel
theorem dX13_comes_264 : cod mX13_comes 264 (.aload_n 0) 1 := by decide +kernel
theorem dX13_comes_265 : cod mX13_comes 265 (.getfield 171) 3 := by decide +kernel
theorem dX13_comes_268 : cod mX13_comes 268 (.goto 4) 3 := by decide +kernel
theorem dX13_comes_271 : cod mX13_comes 271 (.iload_n 2) 1 := by decide +kernel
theorem dX13_comes_272 : cod mX13_comes 272 (.putfield 171) 3 := by decide +kernel
theorem dX13_comes_275 : cod mX13_comes 275 (.iload_n 2) 1 := by decide +kernel
theorem dX13_comes_276 : cod mX13_comes 276 (.bipush 9) 2 := by decide +kernel
theorem dX13_comes_278 : cod mX13_comes 278 (.if_icmp .gt 7) 3 := by decide +kernel
theorem dX13_comes_281 : cod mX13_comes 281 (.iconst 1) 1 := by decide +kernel
theorem dX13_comes_282 : cod mX13_comes 282 (.goto 4) 3 := by decide +kernel
theorem dX13_comes_285 : cod mX13_comes 285 (.iconst 0) 1 := by decide +kernel
theorem dX13_comes_286 : cod mX13_comes 286 (.ireturn) 1 := by decide +kernel
theorem dX13_comes_287 : cod mX13_comes 287 (.aload_n 0) 1 := by decide +kernel
theorem dX13_comes_288 : cod mX13_comes 288 (.iload_n 2) 1 := by decide +kernel
theorem dX13_comes_289 : cod mX13_comes 289 (.i2l) 1 := by decide +kernel
theorem dX13_comes_290 : cod mX13_comes 290 (.lconst 1) 1 := by decide +kernel
theorem dX13_comes_291 : cod mX13_comes 291 (.ldc2_w 174) 3 := by decide +kernel
theorem dX13_comes_294 : cod mX13_comes 294 (.invokestatic 122) 3 := by decide +kernel
theorem dX13_comes_297 : cod mX13_comes 297 (.ifCond .eq 7) 3 := by decide +kernel
theorem dX13_comes_300 : cod mX13_comes 300 (.iload_n 2) 1 := by decide +kernel
theorem dX13_comes_301 : cod mX13_comes 301 (.goto 7) 3 := by decide +kernel
theorem dX13_comes_304 : cod mX13_comes 304 (.aload_n 0) 1 := by decide +kernel
theorem dX13_comes_305 : cod mX13_comes 305 (.getfield 29) 3 := by decide +kernel
theorem dX13_comes_308 : cod mX13_comes 308 (.putfield 29) 3 := by decide +kernel
theorem dX13_comes_311 : cod mX13_comes 311 (.iload_n 2) 1 := by decide +kernel
theorem dX13_comes_312 : cod mX13_comes 312 (.i2l) 1 := by decide +kernel
theorem dX13_comes_313 : cod mX13_comes 313 (.lconst 1) 1 := by decide +kernel
theorem dX13_comes_314 : cod mX13_comes 314 (.ldc2_w 174) 3 := by decide +kernel
theorem dX13_comes_317 : cod mX13_comes 317 (.invokestatic 122) 3 := by decide +kernel
theorem dX13_comes_320 : cod mX13_comes 320 (.ireturn) 1 := by decide +kernel
def jn_X13_comes_272 (Q : Int32 → Mem → Prop) (x2 : Int32) (s0 : Int32) (s1 : Nat) (M : Mem) : Prop := mK M s1 = 14 ∧ ∀ M50 : Mem, M50 = uI M s1 8 s0 → ((9 : Int32) < x2 → Q 0 M50) ∧ (¬ (9 : Int32) < x2 → Q 1 M50)
theorem P_jn_X13_comes_272 {G : GG} {Q : Int32 → Mem → Prop} (x2 : Int32) (s0 : Int32) (s1 : Nat) (M : Mem) (h : jn_X13_comes_272 Q x2 s0 s1 M) : PW G mX13_comes (rmD 1 0 0) (QI Q) 272 [none, none, some (.int x2), none] [.int s0, .ref s1] M 0 0 := (s_putI (pc := 272) dX13_comes_272 f_X13_171 (Or.inl rfl) (Or.inl rfl) h.1 (nmM (fun M50 e51 => have h52 := h.2 M50 e51; s_iload_n (pc := 275) dX13_comes_275 rfl (s_bipush (pc := 276) dX13_comes_276 cb_9 (s_icmp_gt (pc := 278) (tgt := 285) dX13_comes_278 rfl (fun c53 => have h54 := h52.1 c53; s_iconst (pc := 285) dX13_comes_285 ci_0 (s_zreturn (pc := 286) dX13_comes_286 rfl (Or.inl rfl) (Nat.zero_le _) (Nat.zero_le _) ⟨_, rfl, h54⟩)) (fun c55 => have h56 := h52.2 c55; s_iconst (pc := 281) dX13_comes_281 ci_1 (s_goto (pc := 282) (tgt := 286) dX13_comes_282 rfl (s_zreturn (pc := 286) dX13_comes_286 rfl (Or.inr rfl) (Nat.zero_le _) (Nat.zero_le _) ⟨_, rfl, h56⟩))))))))
def jn_X13_comes_242 (Q : Int32 → Mem → Prop) (x2 : Int32) (s0 : Int32) (s1 : Nat) (M : Mem) : Prop := mK M s1 = 14 ∧ ∀ M63 : Mem, M63 = uI M s1 7 s0 → ((20 : Int32) < x2 → Q 0 M63) ∧ (¬ (20 : Int32) < x2 → Q 1 M63)
theorem P_jn_X13_comes_242 {G : GG} {Q : Int32 → Mem → Prop} (x2 : Int32) (s0 : Int32) (s1 : Nat) (M : Mem) (h : jn_X13_comes_242 Q x2 s0 s1 M) : PW G mX13_comes (rmD 1 0 0) (QI Q) 242 [none, none, some (.int x2), none] [.int s0, .ref s1] M 0 0 := (s_putI (pc := 242) dX13_comes_242 f_X13_25 (Or.inl rfl) (Or.inl rfl) h.1 (nmM (fun M63 e64 => have h65 := h.2 M63 e64; s_iload_n (pc := 245) dX13_comes_245 rfl (s_bipush (pc := 246) dX13_comes_246 cb_20 (s_icmp_gt (pc := 248) (tgt := 255) dX13_comes_248 rfl (fun c66 => have h67 := h65.1 c66; s_iconst (pc := 255) dX13_comes_255 ci_0 (s_zreturn (pc := 256) dX13_comes_256 rfl (Or.inl rfl) (Nat.zero_le _) (Nat.zero_le _) ⟨_, rfl, h67⟩)) (fun c68 => have h69 := h65.2 c68; s_iconst (pc := 251) dX13_comes_251 ci_1 (s_goto (pc := 252) (tgt := 256) dX13_comes_252 rfl (s_zreturn (pc := 256) dX13_comes_256 rfl (Or.inr rfl) (Nat.zero_le _) (Nat.zero_le _) ⟨_, rfl, h69⟩))))))))
def jn_X13_comes_308 (Q : Int32 → Mem → Prop) (x2 : Int32) (s0 : Int32) (s1 : Nat) (M : Mem) : Prop := mK M s1 = 14 ∧ ∀ M111 : Mem, M111 = uI M s1 9 s0 → wp_X13_in x2.toInt64 1 6 M111 (fun r116 M115 => (r116 = 0 ∨ r116 = 1) ∧ Q r116 M115)
theorem P_jn_X13_comes_308 {G : GG} {Q : Int32 → Mem → Prop} (x2 : Int32) (s0 : Int32) (s1 : Nat) (M : Mem) (h : jn_X13_comes_308 Q x2 s0 s1 M) : PW G mX13_comes (rmD 1 0 0) (QI Q) 308 [none, none, some (.int x2), none] [.int s0, .ref s1] M 0 0 := (s_putI (pc := 308) dX13_comes_308 f_X13_29 (Or.inl rfl) (Or.inl rfl) h.1 (nmM (fun M111 e112 => have h113 := h.2 M111 e112; s_iload_n (pc := 311) dX13_comes_311 rfl (s_i2l (pc := 312) dX13_comes_312 (s_lconst (pc := 313) (v := 1) dX13_comes_313 rfl (s_ldc2 (pc := 314) dX13_comes_314 k_X13_174 (s_callS (pc := 317) (As := [.long x2.toInt64, .long 1, .long 6]) (rest := []) (d' := 0) (mc' := 0) (ms' := 0) dX13_comes_317 c_X13_122 rfl rfl (Nat.le_of_ble_eq_true rfl) (rm_ok rfl rfl) ⟨Nat.le_refl 0, Nat.le_refl 0⟩ (T_X13_in h113) (kkI (fun r116 M115 h114 => s_zreturn (pc := 320) dX13_comes_320 rfl h114.1 (Nat.zero_le _) (Nat.zero_le _) ⟨_, rfl, h114.2⟩)))))))))
def wp_X13_comes (p0 : Nat) (p1 : Int32) (M : Mem) (Q : Int32 → Mem → Prop) : Prop := mK M p0 = 14 ∧ mK M (mR M p0 20) = 20 ∧ vp_in p1 (mN M (mR M p0 20)) ∧ ∀ y1 : Int32, y1 = mI M (mR M p0 20) p1.toNatClampNeg → mK M (mR M p0 21) = 20 ∧ vp_in p1 (mN M (mR M p0 21)) ∧ ∀ y4 : Int32, y4 = mI M (mR M p0 21) p1.toNatClampNeg → mK M (mR M p0 19) = 20 ∧ vp_in p1 (mN M (mR M p0 19)) ∧ ((mI M (mR M p0 19) p1.toNatClampNeg) = 99 → ((4 : Int32) < y1 → Q 0 M) ∧ (¬ (4 : Int32) < y1 → ((100 : Int32) < y4 → Q 0 M) ∧ (¬ (100 : Int32) < y4 → mK M (mR M p0 22) = 20 ∧ vp_in p1 (mN M (mR M p0 22)) ∧ ((99 : Int32) < (mI M (mR M p0 22) p1.toNatClampNeg) → Q 0 M) ∧ (¬ (99 : Int32) < (mI M (mR M p0 22) p1.toNatClampNeg) → ((mI M p0 3) = (6 : Int32) → Q 0 M) ∧ (¬ (mI M p0 3) = (6 : Int32) → wp_X13_partsTogether p0 M (fun r27 M26 => ((r27 + y4) ≤ (100 : Int32) → mK M26 p0 = 14 ∧ mK M26 (mR M26 p0 4) = 20 ∧ vp_in (mI M26 p0 3) (mN M26 (mR M26 p0 4)) ∧ ∀ M32 : Mem, M32 = uI M26 (mR M26 p0 4) (mI M26 p0 3).toNatClampNeg y1 → mK M32 (mR M32 p0 5) = 20 ∧ vp_in (mI M32 p0 3) (mN M32 (mR M32 p0 5)) ∧ ∀ M35 : Mem, M35 = uI M32 (mR M32 p0 5) (mI M32 p0 3).toNatClampNeg y4 → mK M35 (mR M35 p0 22) = 20 ∧ vp_in p1 (mN M35 (mR M35 p0 22)) ∧ mK M35 (mR M35 p0 6) = 20 ∧ vp_in (mI M35 p0 3) (mN M35 (mR M35 p0 6)) ∧ ∀ M38 : Mem, M38 = uI M35 (mR M35 p0 6) (mI M35 p0 3).toNatClampNeg (mI M35 (mR M35 p0 22) p1.toNatClampNeg) → ∀ M41 : Mem, M41 = uI M38 p0 3 ((mI M38 p0 3) + 1) → Q 1 M41) ∧ (¬ (r27 + y4) ≤ (100 : Int32) → Q 0 M26))))))) ∧ ((mI M (mR M p0 19) p1.toNatClampNeg) = 107 → (y1 ≤ (9 : Int32) → jn_X13_comes_272 Q y1 y1 p0 M) ∧ (¬ y1 ≤ (9 : Int32) → jn_X13_comes_272 Q y1 (mI M p0 8) p0 M)) ∧ ((mI M (mR M p0 19) p1.toNatClampNeg) = 109 → (y1 ≤ (20 : Int32) → jn_X13_comes_242 Q y1 y1 p0 M) ∧ (¬ y1 ≤ (20 : Int32) → jn_X13_comes_242 Q y1 (mI M p0 7) p0 M)) ∧ ((mI M (mR M p0 19) p1.toNatClampNeg) = 119 → wp_X13_in y1.toInt64 1 100 M (fun r74 M73 => (r74 = (0 : Int32) → Q 0 M73) ∧ (¬ r74 = (0 : Int32) → ((99 : Int32) < y4 → Q 0 M73) ∧ (¬ (99 : Int32) < y4 → mK M73 p0 = 14 ∧ ((mI M73 p0 0) = (6 : Int32) → Q 0 M73) ∧ (¬ (mI M73 p0 0) = (6 : Int32) → wp_X13_chancesTogether p0 M73 (fun r89 M88 => ((r89 + y1) ≤ (100 : Int32) → mK M88 p0 = 14 ∧ mK M88 (mR M88 p0 1) = 20 ∧ vp_in (mI M88 p0 0) (mN M88 (mR M88 p0 1)) ∧ ∀ M94 : Mem, M94 = uI M88 (mR M88 p0 1) (mI M88 p0 0).toNatClampNeg y1 → mK M94 (mR M94 p0 2) = 20 ∧ vp_in (mI M94 p0 0) (mN M94 (mR M94 p0 2)) ∧ ∀ M97 : Mem, M97 = uI M94 (mR M94 p0 2) (mI M94 p0 0).toNatClampNeg y4 → ∀ M100 : Mem, M100 = uI M97 p0 0 ((mI M97 p0 0) + 1) → Q 1 M100) ∧ (¬ (r89 + y1) ≤ (100 : Int32) → Q 0 M88))))))) ∧ (¬ (mI M (mR M p0 19) p1.toNatClampNeg) = 99 → ¬ (mI M (mR M p0 19) p1.toNatClampNeg) = 107 → ¬ (mI M (mR M p0 19) p1.toNatClampNeg) = 109 → ¬ (mI M (mR M p0 19) p1.toNatClampNeg) = 119 → wp_X13_in y1.toInt64 1 6 M (fun r106 M105 => (r106 = (0 : Int32) → mK M105 p0 = 14 ∧ jn_X13_comes_308 Q y1 (mI M105 p0 9) p0 M105) ∧ (¬ r106 = (0 : Int32) → jn_X13_comes_308 Q y1 y1 p0 M105)))
theorem T_X13_comes {G : GG} {Q : Int32 → Mem → Prop} {M : Mem} {p0 : Nat} {p1 : Int32} (h : wp_X13_comes p0 p1 M Q) : PMet G mX13_comes 1 0 0 [.ref p0, .int p1] M (QI Q) :=
  mk_met (by decide) rfl rfl (by
    intro w hw x9 e9
    subst e9
    simp at hw) (Nat.le_of_ble_eq_true rfl) (s_pad (L1 := [some (.ref p0), some (.int p1), none, none]) 4 rfl (s_aload_n (pc := 0) dX13_comes_0 rfl (s_getR (pc := 1) dX13_comes_1 f_X13_42 rfl h.1 (s_iload_n (pc := 4) dX13_comes_4 rfl (s_ial (pc := 5) dX13_comes_5 h.2.1 h.2.2.1 (nmI (fun y1 e2 => have h3 := h.2.2.2 y1 e2; s_istore_n (pc := 6) (L1 := [some (.ref p0), some (.int p1), some (.int y1), none]) dX13_comes_6 (Nat.le_of_ble_eq_true rfl) rfl (s_aload_n (pc := 7) dX13_comes_7 rfl (s_getR (pc := 8) dX13_comes_8 f_X13_45 rfl h.1 (s_iload_n (pc := 11) dX13_comes_11 rfl (s_ial (pc := 12) dX13_comes_12 h3.1 h3.2.1 (nmI (fun y4 e5 => have h6 := h3.2.2 y4 e5; s_istore_n (pc := 13) (L1 := [some (.ref p0), some (.int p1), some (.int y1), some (.int y4)]) dX13_comes_13 (Nat.le_of_ble_eq_true rfl) rfl (s_aload_n (pc := 14) dX13_comes_14 rfl (s_getR (pc := 15) dX13_comes_15 f_X13_39 rfl h.1 (s_iload_n (pc := 18) dX13_comes_18 rfl (s_ial (pc := 19) dX13_comes_19 h6.1 h6.2.1 (by
      by_cases c8 : (mI M (mR M p0 19) p1.toNatClampNeg) = 99
      · have h7 := h6.2.2.1 c8
        exact s_ls (pc := 20) (off := 116) (tgt := 136) dX13_comes_20 rfl (by rw [c8]; rfl) rfl (s_iload_n (pc := 136) dX13_comes_136 rfl (s_iconst (pc := 137) dX13_comes_137 ci_4 (s_icmp_gt (pc := 138) (tgt := 178) dX13_comes_138 rfl (fun c9 => have h10 := h7.1 c9; s_iconst (pc := 178) dX13_comes_178 ci_0 (s_zreturn (pc := 179) dX13_comes_179 rfl (Or.inl rfl) (Nat.zero_le _) (Nat.zero_le _) ⟨_, rfl, h10⟩)) (fun c11 => have h12 := h7.2 c11; s_iload_n (pc := 141) dX13_comes_141 rfl (s_bipush (pc := 142) dX13_comes_142 cb_100 (s_icmp_gt (pc := 144) (tgt := 178) dX13_comes_144 rfl (fun c13 => have h14 := h12.1 c13; s_iconst (pc := 178) dX13_comes_178 ci_0 (s_zreturn (pc := 179) dX13_comes_179 rfl (Or.inl rfl) (Nat.zero_le _) (Nat.zero_le _) ⟨_, rfl, h14⟩)) (fun c15 => have h16 := h12.2 c15; s_aload_n (pc := 147) dX13_comes_147 rfl (s_getR (pc := 148) dX13_comes_148 f_X13_48 rfl h.1 (s_iload_n (pc := 151) dX13_comes_151 rfl (s_ial (pc := 152) dX13_comes_152 h16.1 h16.2.1 (s_bipush (pc := 153) dX13_comes_153 cb_99 (s_icmp_gt (pc := 155) (tgt := 178) dX13_comes_155 rfl (fun c17 => have h18 := h16.2.2.1 c17; s_iconst (pc := 178) dX13_comes_178 ci_0 (s_zreturn (pc := 179) dX13_comes_179 rfl (Or.inl rfl) (Nat.zero_le _) (Nat.zero_le _) ⟨_, rfl, h18⟩)) (fun c19 => have h20 := h16.2.2.2 c19; s_aload_n (pc := 158) dX13_comes_158 rfl (s_getI (pc := 159) dX13_comes_159 f_X13_128 rfl h.1 (s_bipush (pc := 162) dX13_comes_162 cb_6 (s_icmp_eq (pc := 164) (tgt := 178) dX13_comes_164 rfl (fun c21 => have h22 := h20.1 c21; s_iconst (pc := 178) dX13_comes_178 ci_0 (s_zreturn (pc := 179) dX13_comes_179 rfl (Or.inl rfl) (Nat.zero_le _) (Nat.zero_le _) ⟨_, rfl, h22⟩)) (fun c23 => have h24 := h20.2 c23; s_aload_n (pc := 167) dX13_comes_167 rfl (s_callV (pc := 168) (As := []) (rest := []) (d' := 0) (mc' := 0) (ms' := 0) dX13_comes_168 c_X13_168 (Nat.le_of_ble_eq_true rfl) rfl h.1 rfl rfl (Nat.le_of_ble_eq_true rfl) (rm_ok rfl rfl) ⟨Nat.le_refl 0, Nat.le_refl 0⟩ (T_X13_partsTogether h24) (kkI (fun r27 M26 h25 => s_iload_n (pc := 171) dX13_comes_171 rfl (s_iadd (pc := 172) dX13_comes_172 (s_bipush (pc := 173) dX13_comes_173 cb_100 (s_icmp_le (pc := 175) (tgt := 180) dX13_comes_175 rfl (fun c28 => have h29 := h25.1 c28; s_aload_n (pc := 180) dX13_comes_180 rfl (s_getR (pc := 181) dX13_comes_181 f_X13_16 rfl h29.1 (s_aload_n (pc := 184) dX13_comes_184 rfl (s_getI (pc := 185) dX13_comes_185 f_X13_128 rfl h29.1 (s_iload_n (pc := 188) dX13_comes_188 rfl (s_ias (pc := 189) dX13_comes_189 h29.2.1 h29.2.2.1 (nmM (fun M32 e33 => have h34 := (h29.2.2.2) M32 e33; s_aload_n (pc := 190) dX13_comes_190 rfl (s_getR (pc := 191) dX13_comes_191 f_X13_19 rfl ((congrFun (congrArg mK e33) p0).trans h29.1) (s_aload_n (pc := 194) dX13_comes_194 rfl (s_getI (pc := 195) dX13_comes_195 f_X13_128 rfl ((congrFun (congrArg mK e33) p0).trans h29.1) (s_iload_n (pc := 198) dX13_comes_198 rfl (s_ias (pc := 199) dX13_comes_199 h34.1 h34.2.1 (nmM (fun M35 e36 => have h37 := (h34.2.2) M35 e36; s_aload_n (pc := 200) dX13_comes_200 rfl (s_getR (pc := 201) dX13_comes_201 f_X13_22 rfl ((congrFun (congrArg mK e36) p0).trans ((congrFun (congrArg mK e33) p0).trans h29.1)) (s_aload_n (pc := 204) dX13_comes_204 rfl (s_getI (pc := 205) dX13_comes_205 f_X13_128 rfl ((congrFun (congrArg mK e36) p0).trans ((congrFun (congrArg mK e33) p0).trans h29.1)) (s_aload_n (pc := 208) dX13_comes_208 rfl (s_getR (pc := 209) dX13_comes_209 f_X13_48 rfl ((congrFun (congrArg mK e36) p0).trans ((congrFun (congrArg mK e33) p0).trans h29.1)) (s_iload_n (pc := 212) dX13_comes_212 rfl (s_ial (pc := 213) dX13_comes_213 h37.1 h37.2.1 (s_ias (pc := 214) dX13_comes_214 h37.2.2.1 h37.2.2.2.1 (nmM (fun M38 e39 => have h40 := (h37.2.2.2.2) M38 e39; s_aload_n (pc := 215) dX13_comes_215 rfl (s_dup (pc := 216) dX13_comes_216 rfl (s_getI (pc := 217) dX13_comes_217 f_X13_128 rfl ((congrFun (congrArg mK e39) p0).trans ((congrFun (congrArg mK e36) p0).trans ((congrFun (congrArg mK e33) p0).trans h29.1))) (s_iconst (pc := 220) dX13_comes_220 ci_1 (s_iadd (pc := 221) dX13_comes_221 (s_putI (pc := 222) dX13_comes_222 f_X13_128 (Or.inl rfl) (Or.inl rfl) ((congrFun (congrArg mK e39) p0).trans ((congrFun (congrArg mK e36) p0).trans ((congrFun (congrArg mK e33) p0).trans h29.1))) (nmM (fun M41 e42 => have h43 := h40 M41 e42; s_iconst (pc := 225) dX13_comes_225 ci_1 (s_zreturn (pc := 226) dX13_comes_226 rfl (Or.inr rfl) (Nat.zero_le _) (Nat.zero_le _) ⟨_, rfl, h43⟩))))))))))))))))))))))))))))))))) (fun c30 => have h31 := h25.2 c30; s_iconst (pc := 178) dX13_comes_178 ci_0 (s_zreturn (pc := 179) dX13_comes_179 rfl (Or.inl rfl) (Nat.zero_le _) (Nat.zero_le _) ⟨_, rfl, h31⟩)))))))))))))))))))))))))
      by_cases c45 : (mI M (mR M p0 19) p1.toNatClampNeg) = 107
      · have h44 := h6.2.2.2.1 c45
        exact s_ls (pc := 20) (off := 237) (tgt := 257) dX13_comes_20 rfl (by rw [c45]; rfl) rfl (s_aload_n (pc := 257) dX13_comes_257 rfl (s_iload_n (pc := 258) dX13_comes_258 rfl (s_bipush (pc := 259) dX13_comes_259 cb_9 (s_icmp_le (pc := 261) (tgt := 271) dX13_comes_261 rfl (fun c46 => have h47 := h44.1 c46; s_iload_n (pc := 271) dX13_comes_271 rfl (s_sel (L1 := [none, none, some (.int y1), none]) [false, false, true, false] rfl (P_jn_X13_comes_272 y1 y1 p0 M h47))) (fun c48 => have h49 := h44.2 c48; s_aload_n (pc := 264) dX13_comes_264 rfl (s_getI (pc := 265) dX13_comes_265 f_X13_171 rfl h.1 (s_goto (pc := 268) (tgt := 272) dX13_comes_268 rfl (s_sel (L1 := [none, none, some (.int y1), none]) [false, false, true, false] rfl (P_jn_X13_comes_272 y1 (mI M p0 8) p0 M h49)))))))))
      by_cases c58 : (mI M (mR M p0 19) p1.toNatClampNeg) = 109
      · have h57 := h6.2.2.2.2.1 c58
        exact s_ls (pc := 20) (off := 207) (tgt := 227) dX13_comes_20 rfl (by rw [c58]; rfl) rfl (s_aload_n (pc := 227) dX13_comes_227 rfl (s_iload_n (pc := 228) dX13_comes_228 rfl (s_bipush (pc := 229) dX13_comes_229 cb_20 (s_icmp_le (pc := 231) (tgt := 241) dX13_comes_231 rfl (fun c59 => have h60 := h57.1 c59; s_iload_n (pc := 241) dX13_comes_241 rfl (s_sel (L1 := [none, none, some (.int y1), none]) [false, false, true, false] rfl (P_jn_X13_comes_242 y1 y1 p0 M h60))) (fun c61 => have h62 := h57.2 c61; s_aload_n (pc := 234) dX13_comes_234 rfl (s_getI (pc := 235) dX13_comes_235 f_X13_25 rfl h.1 (s_goto (pc := 238) (tgt := 242) dX13_comes_238 rfl (s_sel (L1 := [none, none, some (.int y1), none]) [false, false, true, false] rfl (P_jn_X13_comes_242 y1 (mI M p0 7) p0 M h62)))))))))
      by_cases c71 : (mI M (mR M p0 19) p1.toNatClampNeg) = 119
      · have h70 := h6.2.2.2.2.2.1 c71
        exact s_ls (pc := 20) (off := 44) (tgt := 64) dX13_comes_20 rfl (by rw [c71]; rfl) rfl (s_iload_n (pc := 64) dX13_comes_64 rfl (s_i2l (pc := 65) dX13_comes_65 (s_lconst (pc := 66) (v := 1) dX13_comes_66 rfl (s_ldc2 (pc := 67) dX13_comes_67 k_X13_126 (s_callS (pc := 70) (As := [.long y1.toInt64, .long 1, .long 100]) (rest := []) (d' := 0) (mc' := 0) (ms' := 0) dX13_comes_70 c_X13_122 rfl rfl (Nat.le_of_ble_eq_true rfl) (rm_ok rfl rfl) ⟨Nat.le_refl 0, Nat.le_refl 0⟩ (T_X13_in h70) (kkI (fun r74 M73 h72 => s_if_eq (pc := 73) (tgt := 102) dX13_comes_73 rfl (fun c75 => have h76 := h72.1 c75; s_iconst (pc := 102) dX13_comes_102 ci_0 (s_zreturn (pc := 103) dX13_comes_103 rfl (Or.inl rfl) (Nat.zero_le _) (Nat.zero_le _) ⟨_, rfl, h76⟩)) (fun c77 => have h78 := h72.2 c77; s_iload_n (pc := 76) dX13_comes_76 rfl (s_bipush (pc := 77) dX13_comes_77 cb_99 (s_icmp_gt (pc := 79) (tgt := 102) dX13_comes_79 rfl (fun c79 => have h80 := h78.1 c79; s_iconst (pc := 102) dX13_comes_102 ci_0 (s_zreturn (pc := 103) dX13_comes_103 rfl (Or.inl rfl) (Nat.zero_le _) (Nat.zero_le _) ⟨_, rfl, h80⟩)) (fun c81 => have h82 := h78.2 c81; s_aload_n (pc := 82) dX13_comes_82 rfl (s_getI (pc := 83) dX13_comes_83 f_X13_119 rfl h82.1 (s_bipush (pc := 86) dX13_comes_86 cb_6 (s_icmp_eq (pc := 88) (tgt := 102) dX13_comes_88 rfl (fun c83 => have h84 := h82.2.1 c83; s_iconst (pc := 102) dX13_comes_102 ci_0 (s_zreturn (pc := 103) dX13_comes_103 rfl (Or.inl rfl) (Nat.zero_le _) (Nat.zero_le _) ⟨_, rfl, h84⟩)) (fun c85 => have h86 := h82.2.2 c85; s_aload_n (pc := 91) dX13_comes_91 rfl (s_callV (pc := 92) (As := []) (rest := []) (d' := 0) (mc' := 0) (ms' := 0) dX13_comes_92 c_X13_131 (Nat.le_of_ble_eq_true rfl) rfl h82.1 rfl rfl (Nat.le_of_ble_eq_true rfl) (rm_ok rfl rfl) ⟨Nat.le_refl 0, Nat.le_refl 0⟩ (T_X13_chancesTogether h86) (kkI (fun r89 M88 h87 => s_iload_n (pc := 95) dX13_comes_95 rfl (s_iadd (pc := 96) dX13_comes_96 (s_bipush (pc := 97) dX13_comes_97 cb_100 (s_icmp_le (pc := 99) (tgt := 104) dX13_comes_99 rfl (fun c90 => have h91 := h87.1 c90; s_aload_n (pc := 104) dX13_comes_104 rfl (s_getR (pc := 105) dX13_comes_105 f_X13_7 rfl h91.1 (s_aload_n (pc := 108) dX13_comes_108 rfl (s_getI (pc := 109) dX13_comes_109 f_X13_119 rfl h91.1 (s_iload_n (pc := 112) dX13_comes_112 rfl (s_ias (pc := 113) dX13_comes_113 h91.2.1 h91.2.2.1 (nmM (fun M94 e95 => have h96 := (h91.2.2.2) M94 e95; s_aload_n (pc := 114) dX13_comes_114 rfl (s_getR (pc := 115) dX13_comes_115 f_X13_13 rfl ((congrFun (congrArg mK e95) p0).trans h91.1) (s_aload_n (pc := 118) dX13_comes_118 rfl (s_getI (pc := 119) dX13_comes_119 f_X13_119 rfl ((congrFun (congrArg mK e95) p0).trans h91.1) (s_iload_n (pc := 122) dX13_comes_122 rfl (s_ias (pc := 123) dX13_comes_123 h96.1 h96.2.1 (nmM (fun M97 e98 => have h99 := (h96.2.2) M97 e98; s_aload_n (pc := 124) dX13_comes_124 rfl (s_dup (pc := 125) dX13_comes_125 rfl (s_getI (pc := 126) dX13_comes_126 f_X13_119 rfl ((congrFun (congrArg mK e98) p0).trans ((congrFun (congrArg mK e95) p0).trans h91.1)) (s_iconst (pc := 129) dX13_comes_129 ci_1 (s_iadd (pc := 130) dX13_comes_130 (s_putI (pc := 131) dX13_comes_131 f_X13_119 (Or.inl rfl) (Or.inl rfl) ((congrFun (congrArg mK e98) p0).trans ((congrFun (congrArg mK e95) p0).trans h91.1)) (nmM (fun M100 e101 => have h102 := h99 M100 e101; s_iconst (pc := 134) dX13_comes_134 ci_1 (s_zreturn (pc := 135) dX13_comes_135 rfl (Or.inr rfl) (Nat.zero_le _) (Nat.zero_le _) ⟨_, rfl, h102⟩))))))))))))))))))))))) (fun c92 => have h93 := h87.2 c92; s_iconst (pc := 102) dX13_comes_102 ci_0 (s_zreturn (pc := 103) dX13_comes_103 rfl (Or.inl rfl) (Nat.zero_le _) (Nat.zero_le _) ⟨_, rfl, h93⟩)))))))))))))))))))))))
      have h103 := h6.2.2.2.2.2.2 c8 c45 c58 c71
      exact s_ls (pc := 20) (off := 267) (tgt := 287) dX13_comes_20 rfl (by show Op.lookupswitch.offset [(99, 116), (107, 237), (109, 207), (119, 44)] 267 _ = _; rw [lv_osw (k := 99) c8 (by decide), lv_osw (k := 107) c45 (by decide), lv_osw (k := 109) c58 (by decide), lv_osw (k := 119) c71 (by decide)]; rfl) rfl (s_aload_n (pc := 287) dX13_comes_287 rfl (s_iload_n (pc := 288) dX13_comes_288 rfl (s_i2l (pc := 289) dX13_comes_289 (s_lconst (pc := 290) (v := 1) dX13_comes_290 rfl (s_ldc2 (pc := 291) dX13_comes_291 k_X13_174 (s_callS (pc := 294) (As := [.long y1.toInt64, .long 1, .long 6]) (rest := [.ref p0]) (d' := 0) (mc' := 0) (ms' := 0) dX13_comes_294 c_X13_122 rfl rfl (Nat.le_of_ble_eq_true rfl) (rm_ok rfl rfl) ⟨Nat.le_refl 0, Nat.le_refl 0⟩ (T_X13_in h103) (kkI (fun r106 M105 h104 => s_if_eq (pc := 297) (tgt := 304) dX13_comes_297 rfl (fun c107 => have h108 := h104.1 c107; s_aload_n (pc := 304) dX13_comes_304 rfl (s_getI (pc := 305) dX13_comes_305 f_X13_29 rfl h108.1 (s_sel (L1 := [none, none, some (.int y1), none]) [false, false, true, false] rfl (P_jn_X13_comes_308 y1 (mI M105 p0 9) p0 M105 h108.2)))) (fun c109 => have h110 := h104.2 c109; s_iload_n (pc := 300) dX13_comes_300 rfl (s_goto (pc := 301) (tgt := 308) dX13_comes_301 rfl (s_sel (L1 := [none, none, some (.int y1), none]) [false, false, true, false] rfl (P_jn_X13_comes_308 y1 y1 p0 M105 h110))))))))))))))))))))))))))))))
