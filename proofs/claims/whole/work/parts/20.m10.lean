/-! X13_rests -/
theorem dX13_rests_0 : cod mX13_rests 0 (.iconst 1) 1 := by decide +kernel
theorem dX13_rests_1 : cod mX13_rests 1 (.istore_n 3) 1 := by decide +kernel
theorem dX13_rests_2 : cod mX13_rests 2 (.iconst 0) 1 := by decide +kernel
theorem dX13_rests_3 : cod mX13_rests 3 (.istore 4) 2 := by decide +kernel
theorem dX13_rests_5 : cod mX13_rests 5 (.iload 4) 2 := by decide +kernel
theorem dX13_rests_7 : cod mX13_rests 7 (.aload_n 0) 1 := by decide +kernel
theorem dX13_rests_8 : cod mX13_rests 8 (.getfield 354) 3 := by decide +kernel
theorem dX13_rests_11 : cod mX13_rests 11 (.if_icmp .ge 73) 3 := by decide +kernel
theorem dX13_rests_14 : cod mX13_rests 14 (.iload_n 3) 1 := by decide +kernel
theorem dX13_rests_15 : cod mX13_rests 15 (.ifCond .eq 61) 3 := by decide +kernel
theorem dX13_rests_18 : cod mX13_rests 18 (.aload_n 0) 1 := by decide +kernel
theorem dX13_rests_19 : cod mX13_rests 19 (.getfield 85) 3 := by decide +kernel
theorem dX13_rests_22 : cod mX13_rests 22 (.bipush 15) 2 := by decide +kernel
theorem dX13_rests_24 : cod mX13_rests 24 (.iload 4) 2 := by decide +kernel
theorem dX13_rests_26 : cod mX13_rests 26 (.imul) 1 := by decide +kernel
theorem dX13_rests_27 : cod mX13_rests 27 (.iload_n 2) 1 := by decide +kernel
theorem dX13_rests_28 : cod mX13_rests 28 (.iadd) 1 := by decide +kernel
theorem dX13_rests_29 : cod mX13_rests 29 (.laload) 1 := by decide +kernel
theorem dX13_rests_30 : cod mX13_rests 30 (.aload_n 0) 1 := by decide +kernel
theorem dX13_rests_31 : cod mX13_rests 31 (.getfield 85) 3 := by decide +kernel
theorem dX13_rests_34 : cod mX13_rests 34 (.bipush 15) 2 := by decide +kernel
theorem dX13_rests_36 : cod mX13_rests 36 (.iload_n 1) 1 := by decide +kernel
theorem dX13_rests_37 : cod mX13_rests 37 (.imul) 1 := by decide +kernel
theorem dX13_rests_38 : cod mX13_rests 38 (.iload_n 2) 1 := by decide +kernel
theorem dX13_rests_39 : cod mX13_rests 39 (.iadd) 1 := by decide +kernel
theorem dX13_rests_40 : cod mX13_rests 40 (.laload) 1 := by decide +kernel
theorem dX13_rests_41 : cod mX13_rests 41 (.lcmp) 1 := by decide +kernel
theorem dX13_rests_42 : cod mX13_rests 42 (.ifCond .gt 34) 3 := by decide +kernel
theorem dX13_rests_45 : cod mX13_rests 45 (.aload_n 0) 1 := by decide +kernel
theorem dX13_rests_46 : cod mX13_rests 46 (.getfield 88) 3 := by decide +kernel
theorem dX13_rests_49 : cod mX13_rests 49 (.bipush 15) 2 := by decide +kernel
theorem dX13_rests_51 : cod mX13_rests 51 (.iload_n 1) 1 := by decide +kernel
theorem dX13_rests_52 : cod mX13_rests 52 (.imul) 1 := by decide +kernel
theorem dX13_rests_53 : cod mX13_rests 53 (.iload 4) 2 := by decide +kernel
theorem dX13_rests_55 : cod mX13_rests 55 (.iadd) 1 := by decide +kernel
theorem dX13_rests_56 : cod mX13_rests 56 (.laload) 1 := by decide +kernel
theorem dX13_rests_57 : cod mX13_rests 57 (.aload_n 0) 1 := by decide +kernel
theorem dX13_rests_58 : cod mX13_rests 58 (.getfield 88) 3 := by decide +kernel
theorem dX13_rests_61 : cod mX13_rests 61 (.bipush 15) 2 := by decide +kernel
theorem dX13_rests_63 : cod mX13_rests 63 (.iload_n 1) 1 := by decide +kernel
theorem dX13_rests_64 : cod mX13_rests 64 (.imul) 1 := by decide +kernel
theorem dX13_rests_65 : cod mX13_rests 65 (.iload_n 2) 1 := by decide +kernel
theorem dX13_rests_66 : cod mX13_rests 66 (.iadd) 1 := by decide +kernel
theorem dX13_rests_67 : cod mX13_rests 67 (.laload) 1 := by decide +kernel
theorem dX13_rests_68 : cod mX13_rests 68 (.lcmp) 1 := by decide +kernel
theorem dX13_rests_69 : cod mX13_rests 69 (.ifCond .gt 7) 3 := by decide +kernel
theorem dX13_rests_72 : cod mX13_rests 72 (.iconst 1) 1 := by decide +kernel
theorem dX13_rests_73 : cod mX13_rests 73 (.goto 4) 3 := by decide +kernel
theorem dX13_rests_76 : cod mX13_rests 76 (.iconst 0) 1 := by decide +kernel
theorem dX13_rests_77 : cod mX13_rests 77 (.istore_n 3) 1 := by decide +kernel
theorem dX13_rests_78 : cod mX13_rests 78 (.iinc 4 1) 3 := by decide +kernel
theorem dX13_rests_81 : cod mX13_rests 81 (.goto (-76)) 3 := by decide +kernel
theorem dX13_rests_84 : cod mX13_rests 84 (.iload_n 3) 1 := by decide +kernel
theorem dX13_rests_85 : cod mX13_rests 85 (.ireturn) 1 := by decide +kernel
def jn_X13_rests_77 (K5 : Nat → Int32 → Int32 → Int32 → Int32 → Mem → Prop) (Q : Int32 → Mem → Prop) (x0 : Nat) (x1 : Int32) (x2 : Int32) (x4 : Int32) (s0 : Int32) (M : Mem) : Prop := K5 x0 x1 x2 s0 (x4 + 1) M
theorem P_jn_X13_rests_77 {G : GG} {K5 : Nat → Int32 → Int32 → Int32 → Int32 → Mem → Prop} {Q : Int32 → Mem → Prop} (hK5 : ∀ (x0 : Nat) (x1 : Int32) (x2 : Int32) (x3 : Int32) (x4 : Int32) (M : Mem), K5 x0 x1 x2 x3 x4 M → PW G mX13_rests (rmD 0 0 0) (QI Q) 5 [some (.ref x0), some (.int x1), some (.int x2), some (.int x3), some (.int x4)] [] M 0 0) (x0 : Nat) (x1 : Int32) (x2 : Int32) (x4 : Int32) (s0 : Int32) (M : Mem) (h : jn_X13_rests_77 K5 Q x0 x1 x2 x4 s0 M) : PW G mX13_rests (rmD 0 0 0) (QI Q) 77 [some (.ref x0), some (.int x1), some (.int x2), none, some (.int x4)] [.int s0] M 0 0 := (s_istore_n (pc := 77) (L1 := [some (.ref x0), some (.int x1), some (.int x2), some (.int s0), some (.int x4)]) dX13_rests_77 (Nat.le_of_ble_eq_true rfl) rfl (s_iinc (pc := 78) (L1 := [some (.ref x0), some (.int x1), some (.int x2), some (.int s0), some (.int (x4 + 1))]) dX13_rests_78 rfl ci_1 (Nat.le_of_ble_eq_true rfl) rfl (s_goto (pc := 81) (tgt := 5) dX13_rests_81 rfl (s_sel (L1 := [some (.ref x0), some (.int x1), some (.int x2), some (.int s0), some (.int (x4 + 1))]) [true, true, true, true, true] rfl (hK5 x0 x1 x2 s0 (x4 + 1) M h)))))
def jn_X13_rests_76 (K5 : Nat → Int32 → Int32 → Int32 → Int32 → Mem → Prop) (Q : Int32 → Mem → Prop) (x0 : Nat) (x1 : Int32) (x2 : Int32) (x4 : Int32) (M : Mem) : Prop := jn_X13_rests_77 K5 Q x0 x1 x2 x4 0 M
theorem P_jn_X13_rests_76 {G : GG} {K5 : Nat → Int32 → Int32 → Int32 → Int32 → Mem → Prop} {Q : Int32 → Mem → Prop} (hK5 : ∀ (x0 : Nat) (x1 : Int32) (x2 : Int32) (x3 : Int32) (x4 : Int32) (M : Mem), K5 x0 x1 x2 x3 x4 M → PW G mX13_rests (rmD 0 0 0) (QI Q) 5 [some (.ref x0), some (.int x1), some (.int x2), some (.int x3), some (.int x4)] [] M 0 0) (x0 : Nat) (x1 : Int32) (x2 : Int32) (x4 : Int32) (M : Mem) (h : jn_X13_rests_76 K5 Q x0 x1 x2 x4 M) : PW G mX13_rests (rmD 0 0 0) (QI Q) 76 [some (.ref x0), some (.int x1), some (.int x2), none, some (.int x4)] [] M 0 0 := (s_iconst (pc := 76) dX13_rests_76 ci_0 (s_sel (L1 := [some (.ref x0), some (.int x1), some (.int x2), none, some (.int x4)]) [true, true, true, false, true] rfl (P_jn_X13_rests_77 hK5 x0 x1 x2 x4 0 M h)))
def lp_X13_rests_5 (Q : Int32 → Mem → Prop) : Nat → Nat → Int32 → Int32 → Int32 → Int32 → Mem → Prop
  | 0 => fun _ _ _ _ _ _ => False
  | n + 1 => fun x0 x1 x2 x3 x4 M => mK M x0 = 14 ∧ ((mI M x0 42) ≤ x4 → (x3 = 0 ∨ x3 = 1) ∧ Q x3 M) ∧ (¬ (mI M x0 42) ≤ x4 → (x3 = (0 : Int32) → jn_X13_rests_76 (fun fx0 fx1 fx2 fx3 fx4 fM => lp_X13_rests_5 Q n fx0 fx1 fx2 fx3 fx4 fM) Q x0 x1 x2 x4 M) ∧ (¬ x3 = (0 : Int32) → mK M (mR M x0 43) = 21 ∧ vp_in ((15 * x4) + x2) (mN M (mR M x0 43)) ∧ vp_in ((15 * x1) + x2) (mN M (mR M x0 43)) ∧ ((mJ M (mR M x0 43) ((15 * x1) + x2).toNatClampNeg) < (mJ M (mR M x0 43) ((15 * x4) + x2).toNatClampNeg) → jn_X13_rests_76 (fun fx0 fx1 fx2 fx3 fx4 fM => lp_X13_rests_5 Q n fx0 fx1 fx2 fx3 fx4 fM) Q x0 x1 x2 x4 M) ∧ (¬ (mJ M (mR M x0 43) ((15 * x1) + x2).toNatClampNeg) < (mJ M (mR M x0 43) ((15 * x4) + x2).toNatClampNeg) → mK M (mR M x0 44) = 21 ∧ vp_in ((15 * x1) + x4) (mN M (mR M x0 44)) ∧ vp_in ((15 * x1) + x2) (mN M (mR M x0 44)) ∧ ((mJ M (mR M x0 44) ((15 * x1) + x2).toNatClampNeg) < (mJ M (mR M x0 44) ((15 * x1) + x4).toNatClampNeg) → jn_X13_rests_76 (fun fx0 fx1 fx2 fx3 fx4 fM => lp_X13_rests_5 Q n fx0 fx1 fx2 fx3 fx4 fM) Q x0 x1 x2 x4 M) ∧ (¬ (mJ M (mR M x0 44) ((15 * x1) + x2).toNatClampNeg) < (mJ M (mR M x0 44) ((15 * x1) + x4).toNatClampNeg) → jn_X13_rests_77 (fun fx0 fx1 fx2 fx3 fx4 fM => lp_X13_rests_5 Q n fx0 fx1 fx2 fx3 fx4 fM) Q x0 x1 x2 x4 1 M))))
theorem P_lp_X13_rests_5 {G : GG} {Q : Int32 → Mem → Prop} : ∀ (n : Nat) (x0 : Nat) (x1 : Int32) (x2 : Int32) (x3 : Int32) (x4 : Int32) (M : Mem), lp_X13_rests_5 Q n x0 x1 x2 x3 x4 M → PW G mX13_rests (rmD 0 0 0) (QI Q) 5 [some (.ref x0), some (.int x1), some (.int x2), some (.int x3), some (.int x4)] [] M 0 0 := by
  intro n
  induction n with
  | zero => intro x0 x1 x2 x3 x4 M h; exact h.elim
  | succ n ih =>
    intro x0 x1 x2 x3 x4 M h
    exact (s_iload (pc := 5) dX13_rests_5 rfl (s_aload_n (pc := 7) dX13_rests_7 rfl (s_getI (pc := 8) dX13_rests_8 f_X13_354 rfl h.1 (s_icmp_ge (pc := 11) (tgt := 84) dX13_rests_11 rfl (fun c1 => have h2 := h.2.1 c1; s_iload_n (pc := 84) dX13_rests_84 rfl (s_zreturn (pc := 85) dX13_rests_85 rfl h2.1 (Nat.zero_le _) (Nat.zero_le _) ⟨_, rfl, h2.2⟩)) (fun c3 => have h4 := h.2.2 c3; s_iload_n (pc := 14) dX13_rests_14 rfl (s_if_eq (pc := 15) (tgt := 76) dX13_rests_15 rfl (fun c5 => have h6 := h4.1 c5; s_sel (L1 := [some (.ref x0), some (.int x1), some (.int x2), none, some (.int x4)]) [true, true, true, false, true] rfl (P_jn_X13_rests_76 ih x0 x1 x2 x4 M h6)) (fun c7 => have h8 := h4.2 c7; s_aload_n (pc := 18) dX13_rests_18 rfl (s_getR (pc := 19) dX13_rests_19 f_X13_85 rfl h.1 (s_bipush (pc := 22) dX13_rests_22 cb_15 (s_iload (pc := 24) dX13_rests_24 rfl (s_imul (pc := 26) dX13_rests_26 (s_iload_n (pc := 27) dX13_rests_27 rfl (s_iadd (pc := 28) dX13_rests_28 (s_lal (pc := 29) dX13_rests_29 h8.1 h8.2.1 (s_aload_n (pc := 30) dX13_rests_30 rfl (s_getR (pc := 31) dX13_rests_31 f_X13_85 rfl h.1 (s_bipush (pc := 34) dX13_rests_34 cb_15 (s_iload_n (pc := 36) dX13_rests_36 rfl (s_imul (pc := 37) dX13_rests_37 (s_iload_n (pc := 38) dX13_rests_38 rfl (s_iadd (pc := 39) dX13_rests_39 (s_lal (pc := 40) dX13_rests_40 h8.1 h8.2.2.1 (s_lif_gt (pc := 41) (tgt := 76) dX13_rests_41 dX13_rests_42 rfl (fun c9 => have h10 := h8.2.2.2.1 c9; s_sel (L1 := [some (.ref x0), some (.int x1), some (.int x2), none, some (.int x4)]) [true, true, true, false, true] rfl (P_jn_X13_rests_76 ih x0 x1 x2 x4 M h10)) (fun c11 => have h12 := h8.2.2.2.2 c11; s_aload_n (pc := 45) dX13_rests_45 rfl (s_getR (pc := 46) dX13_rests_46 f_X13_88 rfl h.1 (s_bipush (pc := 49) dX13_rests_49 cb_15 (s_iload_n (pc := 51) dX13_rests_51 rfl (s_imul (pc := 52) dX13_rests_52 (s_iload (pc := 53) dX13_rests_53 rfl (s_iadd (pc := 55) dX13_rests_55 (s_lal (pc := 56) dX13_rests_56 h12.1 h12.2.1 (s_aload_n (pc := 57) dX13_rests_57 rfl (s_getR (pc := 58) dX13_rests_58 f_X13_88 rfl h.1 (s_bipush (pc := 61) dX13_rests_61 cb_15 (s_iload_n (pc := 63) dX13_rests_63 rfl (s_imul (pc := 64) dX13_rests_64 (s_iload_n (pc := 65) dX13_rests_65 rfl (s_iadd (pc := 66) dX13_rests_66 (s_lal (pc := 67) dX13_rests_67 h12.1 h12.2.2.1 (s_lif_gt (pc := 68) (tgt := 76) dX13_rests_68 dX13_rests_69 rfl (fun c13 => have h14 := h12.2.2.2.1 c13; s_sel (L1 := [some (.ref x0), some (.int x1), some (.int x2), none, some (.int x4)]) [true, true, true, false, true] rfl (P_jn_X13_rests_76 ih x0 x1 x2 x4 M h14)) (fun c15 => have h16 := h12.2.2.2.2 c15; s_iconst (pc := 72) dX13_rests_72 ci_1 (s_goto (pc := 73) (tgt := 77) dX13_rests_73 rfl (s_sel (L1 := [some (.ref x0), some (.int x1), some (.int x2), none, some (.int x4)]) [true, true, true, false, true] rfl (P_jn_X13_rests_77 ih x0 x1 x2 x4 1 M h16))))))))))))))))))))))))))))))))))))))))))))
def wp_X13_rests (p0 : Nat) (p1 : Int32) (p2 : Int32) (M : Mem) (Q : Int32 → Mem → Prop) : Prop := ∃ n17 : Nat, lp_X13_rests_5 Q n17 p0 p1 p2 1 0 M
theorem T_X13_rests {G : GG} {Q : Int32 → Mem → Prop} {M : Mem} {p0 : Nat} {p1 : Int32} {p2 : Int32} (h : wp_X13_rests p0 p1 p2 M Q) : PMet G mX13_rests 0 0 0 [.ref p0, .int p1, .int p2] M (QI Q) :=
  mk_met (by decide) rfl rfl (by
    intro w hw x9 e9
    subst e9
    simp at hw) (Nat.le_of_ble_eq_true rfl) (s_pad (L1 := [some (.ref p0), some (.int p1), some (.int p2), none, none]) 5 rfl (s_iconst (pc := 0) dX13_rests_0 ci_1 (s_istore_n (pc := 1) (L1 := [some (.ref p0), some (.int p1), some (.int p2), some (.int 1), none]) dX13_rests_1 (Nat.le_of_ble_eq_true rfl) rfl (s_iconst (pc := 2) dX13_rests_2 ci_0 (s_istore (pc := 3) (L1 := [some (.ref p0), some (.int p1), some (.int p2), some (.int 1), some (.int 0)]) dX13_rests_3 (Nat.le_of_ble_eq_true rfl) rfl (Exists.elim h (fun n17 hn => s_sel (L1 := [some (.ref p0), some (.int p1), some (.int p2), some (.int 1), some (.int 0)]) [true, true, true, true, true] rfl (P_lp_X13_rests_5 n17 p0 p1 p2 1 0 M hn))))))))
/-! X13_rest -/
theorem dX13_rest_0 : cod mX13_rest 0 (.aload_n 0) 1 := by decide +kernel
theorem dX13_rest_1 : cod mX13_rest 1 (.iconst 0) 1 := by decide +kernel
theorem dX13_rest_2 : cod mX13_rest 2 (.putfield 115) 3 := by decide +kernel
theorem dX13_rest_5 : cod mX13_rest 5 (.iload_n 1) 1 := by decide +kernel
theorem dX13_rest_6 : cod mX13_rest 6 (.i2l) 1 := by decide +kernel
theorem dX13_rest_7 : cod mX13_rest 7 (.ldc2_w 198) 3 := by decide +kernel
theorem dX13_rest_10 : cod mX13_rest 10 (.ldc2_w 341) 3 := by decide +kernel
theorem dX13_rest_13 : cod mX13_rest 13 (.invokestatic 122) 3 := by decide +kernel
theorem dX13_rest_16 : cod mX13_rest 16 (.ifCond .eq 8) 3 := by decide +kernel
theorem dX13_rest_19 : cod mX13_rest 19 (.iload_n 2) 1 := by decide +kernel
theorem dX13_rest_20 : cod mX13_rest 20 (.iconst (-1)) 1 := by decide +kernel
theorem dX13_rest_21 : cod mX13_rest 21 (.if_icmp .ge 5) 3 := by decide +kernel
theorem dX13_rest_24 : cod mX13_rest 24 (.iconst (-1)) 1 := by decide +kernel
theorem dX13_rest_25 : cod mX13_rest 25 (.ireturn) 1 := by decide +kernel
theorem dX13_rest_26 : cod mX13_rest 26 (.aload_n 0) 1 := by decide +kernel
theorem dX13_rest_27 : cod mX13_rest 27 (.invokevirtual 228) 3 := by decide +kernel
theorem dX13_rest_30 : cod mX13_rest 30 (.ifCond .ne 6) 3 := by decide +kernel
theorem dX13_rest_33 : cod mX13_rest 33 (.bipush (-3)) 2 := by decide +kernel
theorem dX13_rest_35 : cod mX13_rest 35 (.ireturn) 1 := by decide +kernel
theorem dX13_rest_36 : cod mX13_rest 36 (.aload_n 0) 1 := by decide +kernel
theorem dX13_rest_37 : cod mX13_rest 37 (.iload_n 1) 1 := by decide +kernel
theorem dX13_rest_38 : cod mX13_rest 38 (.invokevirtual 357) 3 := by decide +kernel
theorem dX13_rest_41 : cod mX13_rest 41 (.iconst 0) 1 := by decide +kernel
theorem dX13_rest_42 : cod mX13_rest 42 (.istore_n 3) 1 := by decide +kernel
theorem dX13_rest_43 : cod mX13_rest 43 (.iconst 0) 1 := by decide +kernel
theorem dX13_rest_44 : cod mX13_rest 44 (.istore 4) 2 := by decide +kernel
theorem dX13_rest_46 : cod mX13_rest 46 (.iload 4) 2 := by decide +kernel
theorem dX13_rest_48 : cod mX13_rest 48 (.aload_n 0) 1 := by decide +kernel
theorem dX13_rest_49 : cod mX13_rest 49 (.getfield 354) 3 := by decide +kernel
theorem dX13_rest_52 : cod mX13_rest 52 (.if_icmp .ge 65) 3 := by decide +kernel
theorem dX13_rest_55 : cod mX13_rest 55 (.iconst 0) 1 := by decide +kernel
theorem dX13_rest_56 : cod mX13_rest 56 (.istore 5) 2 := by decide +kernel
theorem dX13_rest_58 : cod mX13_rest 58 (.iload 5) 2 := by decide +kernel
theorem dX13_rest_60 : cod mX13_rest 60 (.aload_n 0) 1 := by decide +kernel
theorem dX13_rest_61 : cod mX13_rest 61 (.getfield 354) 3 := by decide +kernel
theorem dX13_rest_64 : cod mX13_rest 64 (.if_icmp .ge 47) 3 := by decide +kernel
theorem dX13_rest_67 : cod mX13_rest 67 (.aload_n 0) 1 := by decide +kernel
theorem dX13_rest_68 : cod mX13_rest 68 (.iload 4) 2 := by decide +kernel
theorem dX13_rest_70 : cod mX13_rest 70 (.iload 5) 2 := by decide +kernel
theorem dX13_rest_72 : cod mX13_rest 72 (.invokevirtual 360) 3 := by decide +kernel
theorem dX13_rest_75 : cod mX13_rest 75 (.ifCond .eq 30) 3 := by decide +kernel
theorem dX13_rest_78 : cod mX13_rest 78 (.iload_n 3) 1 := by decide +kernel
theorem dX13_rest_79 : cod mX13_rest 79 (.iload_n 2) 1 := by decide +kernel
theorem dX13_rest_80 : cod mX13_rest 80 (.if_icmp .ne 22) 3 := by decide +kernel
theorem dX13_rest_83 : cod mX13_rest 83 (.bipush 100) 2 := by decide +kernel
theorem dX13_rest_85 : cod mX13_rest 85 (.aload_n 0) 1 := by decide +kernel
theorem dX13_rest_86 : cod mX13_rest 86 (.getfield 82) 3 := by decide +kernel
theorem dX13_rest_89 : cod mX13_rest 89 (.iload 4) 2 := by decide +kernel
theorem dX13_rest_91 : cod mX13_rest 91 (.iaload) 1 := by decide +kernel
theorem dX13_rest_92 : cod mX13_rest 92 (.imul) 1 := by decide +kernel
theorem dX13_rest_93 : cod mX13_rest 93 (.aload_n 0) 1 := by decide +kernel
theorem dX13_rest_94 : cod mX13_rest 94 (.getfield 82) 3 := by decide +kernel
theorem dX13_rest_97 : cod mX13_rest 97 (.iload 5) 2 := by decide +kernel
theorem dX13_rest_99 : cod mX13_rest 99 (.iaload) 1 := by decide +kernel
theorem dX13_rest_100 : cod mX13_rest 100 (.iadd) 1 := by decide +kernel
theorem dX13_rest_101 : cod mX13_rest 101 (.ireturn) 1 := by decide +kernel
theorem dX13_rest_102 : cod mX13_rest 102 (.iinc 3 1) 3 := by decide +kernel
theorem dX13_rest_105 : cod mX13_rest 105 (.iinc 5 1) 3 := by decide +kernel
theorem dX13_rest_108 : cod mX13_rest 108 (.goto (-50)) 3 := by decide +kernel
theorem dX13_rest_111 : cod mX13_rest 111 (.iinc 4 1) 3 := by decide +kernel
theorem dX13_rest_114 : cod mX13_rest 114 (.goto (-68)) 3 := by decide +kernel
theorem dX13_rest_117 : cod mX13_rest 117 (.iload_n 2) 1 := by decide +kernel
theorem dX13_rest_118 : cod mX13_rest 118 (.ifCond .ge 7) 3 := by decide +kernel
theorem dX13_rest_121 : cod mX13_rest 121 (.iload_n 3) 1 := by decide +kernel
theorem dX13_rest_122 : cod mX13_rest 122 (.goto 5) 3 := by decide +kernel
theorem dX13_rest_125 : cod mX13_rest 125 (.bipush (-4)) 2 := by decide +kernel
theorem dX13_rest_127 : cod mX13_rest 127 (.ireturn) 1 := by decide +kernel
def jn_X13_rest_105 (K46 : Nat → Int32 → Int32 → Int32 → Mem → Prop) (K58 : Nat → Int32 → Int32 → Int32 → Int32 → Mem → Prop) (Q : Int32 → Mem → Prop) (x0 : Nat) (x2 : Int32) (x3 : Int32) (x4 : Int32) (x5 : Int32) (M : Mem) : Prop := K58 x0 x2 x3 x4 (x5 + 1) M
theorem P_jn_X13_rest_105 {G : GG} {K46 : Nat → Int32 → Int32 → Int32 → Mem → Prop} {K58 : Nat → Int32 → Int32 → Int32 → Int32 → Mem → Prop} {Q : Int32 → Mem → Prop} (hK46 : ∀ (x0 : Nat) (x2 : Int32) (x3 : Int32) (x4 : Int32) (M : Mem), K46 x0 x2 x3 x4 M → PW G mX13_rest (rmD 3 0 0) (QI Q) 46 [some (.ref x0), none, some (.int x2), some (.int x3), some (.int x4), none] [] M 0 0) (hK58 : ∀ (x0 : Nat) (x2 : Int32) (x3 : Int32) (x4 : Int32) (x5 : Int32) (M : Mem), K58 x0 x2 x3 x4 x5 M → PW G mX13_rest (rmD 3 0 0) (QI Q) 58 [some (.ref x0), none, some (.int x2), some (.int x3), some (.int x4), some (.int x5)] [] M 0 0) (x0 : Nat) (x2 : Int32) (x3 : Int32) (x4 : Int32) (x5 : Int32) (M : Mem) (h : jn_X13_rest_105 K46 K58 Q x0 x2 x3 x4 x5 M) : PW G mX13_rest (rmD 3 0 0) (QI Q) 105 [some (.ref x0), none, some (.int x2), some (.int x3), some (.int x4), some (.int x5)] [] M 0 0 := (s_iinc (pc := 105) (L1 := [some (.ref x0), none, some (.int x2), some (.int x3), some (.int x4), some (.int (x5 + 1))]) dX13_rest_105 rfl ci_1 (Nat.le_of_ble_eq_true rfl) rfl (s_goto (pc := 108) (tgt := 58) dX13_rest_108 rfl (s_sel (L1 := [some (.ref x0), none, some (.int x2), some (.int x3), some (.int x4), some (.int (x5 + 1))]) [true, false, true, true, true, true] rfl (hK58 x0 x2 x3 x4 (x5 + 1) M h))))
def lp_X13_rest_58 (K46 : Nat → Int32 → Int32 → Int32 → Mem → Prop) (Q : Int32 → Mem → Prop) : Nat → Nat → Int32 → Int32 → Int32 → Int32 → Mem → Prop
  | 0 => fun _ _ _ _ _ _ => False
  | n + 1 => fun x0 x2 x3 x4 x5 M => mK M x0 = 14 ∧ ((mI M x0 42) ≤ x5 → K46 x0 x2 x3 (x4 + 1) M) ∧ (¬ (mI M x0 42) ≤ x5 → wp_X13_rests x0 x4 x5 M (fun r38 M37 => (r38 = (0 : Int32) → jn_X13_rest_105 K46 (fun fx0 fx2 fx3 fx4 fx5 fM => lp_X13_rest_58 K46 Q n fx0 fx2 fx3 fx4 fx5 fM) Q x0 x2 x3 x4 x5 M37) ∧ (¬ r38 = (0 : Int32) → (¬ x3 = x2 → jn_X13_rest_105 K46 (fun fx0 fx2 fx3 fx4 fx5 fM => lp_X13_rest_58 K46 Q n fx0 fx2 fx3 fx4 fx5 fM) Q x0 x2 (x3 + 1) x4 x5 M37) ∧ (x3 = x2 → mK M37 x0 = 14 ∧ mK M37 (mR M37 x0 41) = 20 ∧ vp_in x4 (mN M37 (mR M37 x0 41)) ∧ vp_in x5 (mN M37 (mR M37 x0 41)) ∧ Q ((100 * (mI M37 (mR M37 x0 41) x4.toNatClampNeg)) + (mI M37 (mR M37 x0 41) x5.toNatClampNeg)) M37))))
theorem P_lp_X13_rest_58 {G : GG} {K46 : Nat → Int32 → Int32 → Int32 → Mem → Prop} {Q : Int32 → Mem → Prop} (hK46 : ∀ (x0 : Nat) (x2 : Int32) (x3 : Int32) (x4 : Int32) (M : Mem), K46 x0 x2 x3 x4 M → PW G mX13_rest (rmD 3 0 0) (QI Q) 46 [some (.ref x0), none, some (.int x2), some (.int x3), some (.int x4), none] [] M 0 0) : ∀ (n : Nat) (x0 : Nat) (x2 : Int32) (x3 : Int32) (x4 : Int32) (x5 : Int32) (M : Mem), lp_X13_rest_58 K46 Q n x0 x2 x3 x4 x5 M → PW G mX13_rest (rmD 3 0 0) (QI Q) 58 [some (.ref x0), none, some (.int x2), some (.int x3), some (.int x4), some (.int x5)] [] M 0 0 := by
  intro n
  induction n with
  | zero => intro x0 x2 x3 x4 x5 M h; exact h.elim
  | succ n ih =>
    intro x0 x2 x3 x4 x5 M h
    exact (s_iload (pc := 58) dX13_rest_58 rfl (s_aload_n (pc := 60) dX13_rest_60 rfl (s_getI (pc := 61) dX13_rest_61 f_X13_354 rfl h.1 (s_icmp_ge (pc := 64) (tgt := 111) dX13_rest_64 rfl (fun c32 => have h33 := h.2.1 c32; s_iinc (pc := 111) (L1 := [some (.ref x0), none, some (.int x2), some (.int x3), some (.int (x4 + 1)), some (.int x5)]) dX13_rest_111 rfl ci_1 (Nat.le_of_ble_eq_true rfl) rfl (s_goto (pc := 114) (tgt := 46) dX13_rest_114 rfl (s_sel (L1 := [some (.ref x0), none, some (.int x2), some (.int x3), some (.int (x4 + 1)), none]) [true, false, true, true, true, false] rfl (hK46 x0 x2 x3 (x4 + 1) M h33)))) (fun c34 => have h35 := h.2.2 c34; s_aload_n (pc := 67) dX13_rest_67 rfl (s_iload (pc := 68) dX13_rest_68 rfl (s_iload (pc := 70) dX13_rest_70 rfl (s_callV (pc := 72) (As := [.int x4, .int x5]) (rest := []) (d' := 0) (mc' := 0) (ms' := 0) dX13_rest_72 c_X13_360 (Nat.le_of_ble_eq_true rfl) rfl h.1 rfl rfl (Nat.le_of_ble_eq_true rfl) (rm_ok rfl rfl) ⟨Nat.le_refl 0, Nat.le_refl 0⟩ (T_X13_rests h35) (kkI (fun r38 M37 h36 => s_if_eq (pc := 75) (tgt := 105) dX13_rest_75 rfl (fun c39 => have h40 := h36.1 c39; s_sel (L1 := [some (.ref x0), none, some (.int x2), some (.int x3), some (.int x4), some (.int x5)]) [true, false, true, true, true, true] rfl (P_jn_X13_rest_105 hK46 ih x0 x2 x3 x4 x5 M37 h40)) (fun c41 => have h42 := h36.2 c41; s_iload_n (pc := 78) dX13_rest_78 rfl (s_iload_n (pc := 79) dX13_rest_79 rfl (s_icmp_ne (pc := 80) (tgt := 102) dX13_rest_80 rfl (fun c43 => have h44 := h42.1 c43; s_iinc (pc := 102) (L1 := [some (.ref x0), none, some (.int x2), some (.int (x3 + 1)), some (.int x4), some (.int x5)]) dX13_rest_102 rfl ci_1 (Nat.le_of_ble_eq_true rfl) rfl (s_sel (L1 := [some (.ref x0), none, some (.int x2), some (.int (x3 + 1)), some (.int x4), some (.int x5)]) [true, false, true, true, true, true] rfl (P_jn_X13_rest_105 hK46 ih x0 x2 (x3 + 1) x4 x5 M37 h44))) (fun c45 => have h46 := h42.2 c45; s_bipush (pc := 83) dX13_rest_83 cb_100 (s_aload_n (pc := 85) dX13_rest_85 rfl (s_getR (pc := 86) dX13_rest_86 f_X13_82 rfl h46.1 (s_iload (pc := 89) dX13_rest_89 rfl (s_ial (pc := 91) dX13_rest_91 h46.2.1 h46.2.2.1 (s_imul (pc := 92) dX13_rest_92 (s_aload_n (pc := 93) dX13_rest_93 rfl (s_getR (pc := 94) dX13_rest_94 f_X13_82 rfl h46.1 (s_iload (pc := 97) dX13_rest_97 rfl (s_ial (pc := 99) dX13_rest_99 h46.2.1 h46.2.2.2.1 (s_iadd (pc := 100) dX13_rest_100 (s_ireturn (pc := 101) dX13_rest_101 rfl (Nat.zero_le _) (Nat.zero_le _) ⟨_, rfl, h46.2.2.2.2⟩)))))))))))))))))))))))))
def lp_X13_rest_46 (Q : Int32 → Mem → Prop) : Nat → Nat → Int32 → Int32 → Int32 → Mem → Prop
  | 0 => fun _ _ _ _ _ => False
  | n + 1 => fun x0 x2 x3 x4 M => mK M x0 = 14 ∧ ((mI M x0 42) ≤ x4 → ((0 : Int32) ≤ x2 → Q (-4) M) ∧ (¬ (0 : Int32) ≤ x2 → Q x3 M)) ∧ (¬ (mI M x0 42) ≤ x4 → ∃ n47 : Nat, lp_X13_rest_58 (fun fx0 fx2 fx3 fx4 fM => lp_X13_rest_46 Q n fx0 fx2 fx3 fx4 fM) Q n47 x0 x2 x3 x4 0 M)
theorem P_lp_X13_rest_46 {G : GG} {Q : Int32 → Mem → Prop} : ∀ (n : Nat) (x0 : Nat) (x2 : Int32) (x3 : Int32) (x4 : Int32) (M : Mem), lp_X13_rest_46 Q n x0 x2 x3 x4 M → PW G mX13_rest (rmD 3 0 0) (QI Q) 46 [some (.ref x0), none, some (.int x2), some (.int x3), some (.int x4), none] [] M 0 0 := by
  intro n
  induction n with
  | zero => intro x0 x2 x3 x4 M h; exact h.elim
  | succ n ih =>
    intro x0 x2 x3 x4 M h
    exact (s_iload (pc := 46) dX13_rest_46 rfl (s_aload_n (pc := 48) dX13_rest_48 rfl (s_getI (pc := 49) dX13_rest_49 f_X13_354 rfl h.1 (s_icmp_ge (pc := 52) (tgt := 117) dX13_rest_52 rfl (fun c24 => have h25 := h.2.1 c24; s_iload_n (pc := 117) dX13_rest_117 rfl (s_if_ge (pc := 118) (tgt := 125) dX13_rest_118 rfl (fun c28 => have h29 := h25.1 c28; s_bipush (pc := 125) dX13_rest_125 cb_m4 (s_ireturn (pc := 127) dX13_rest_127 rfl (Nat.zero_le _) (Nat.zero_le _) ⟨_, rfl, h29⟩)) (fun c30 => have h31 := h25.2 c30; s_iload_n (pc := 121) dX13_rest_121 rfl (s_goto (pc := 122) (tgt := 127) dX13_rest_122 rfl (s_ireturn (pc := 127) dX13_rest_127 rfl (Nat.zero_le _) (Nat.zero_le _) ⟨_, rfl, h31⟩))))) (fun c26 => have h27 := h.2.2 c26; s_iconst (pc := 55) dX13_rest_55 ci_0 (s_istore (pc := 56) (L1 := [some (.ref x0), none, some (.int x2), some (.int x3), some (.int x4), some (.int 0)]) dX13_rest_56 (Nat.le_of_ble_eq_true rfl) rfl (Exists.elim h27 (fun n47 hn => s_sel (L1 := [some (.ref x0), none, some (.int x2), some (.int x3), some (.int x4), some (.int 0)]) [true, false, true, true, true, true] rfl (P_lp_X13_rest_58 ih n47 x0 x2 x3 x4 0 M hn)))))))))
def wp_X13_rest (p0 : Nat) (p1 : Int32) (p2 : Int32) (M : Mem) (Q : Int32 → Mem → Prop) : Prop := mK M p0 = 14 ∧ ∀ M1 : Mem, M1 = uI M p0 12 0 → wp_X13_in p1.toInt64 20 50 M1 (fun r6 M5 => (r6 = (0 : Int32) → Q (-1) M5) ∧ (¬ r6 = (0 : Int32) → (((-1) : Int32) ≤ p2 → mK M5 p0 = 14 ∧ wp_X13_isReady p0 M5 (fun r17 M16 => (¬ r17 = (0 : Int32) → mK M16 p0 = 14 ∧ wp_X13_findSlates p0 p1 M16 (fun M23 => ∃ n48 : Nat, lp_X13_rest_46 Q n48 p0 p2 0 0 M23)) ∧ (r17 = (0 : Int32) → Q (-3) M16))) ∧ (¬ ((-1) : Int32) ≤ p2 → Q (-1) M5)))
theorem T_X13_rest {G : GG} {Q : Int32 → Mem → Prop} {M : Mem} {p0 : Nat} {p1 : Int32} {p2 : Int32} (h : wp_X13_rest p0 p1 p2 M Q) : PMet G mX13_rest 3 0 0 [.ref p0, .int p1, .int p2] M (QI Q) :=
  mk_met (by decide) rfl rfl (by
    intro w hw x9 e9
    subst e9
    simp at hw) (Nat.le_of_ble_eq_true rfl) (s_pad (L1 := [some (.ref p0), some (.int p1), some (.int p2), none, none, none]) 6 rfl (s_aload_n (pc := 0) dX13_rest_0 rfl (s_iconst (pc := 1) dX13_rest_1 ci_0 (s_putI (pc := 2) dX13_rest_2 f_X13_115 (Or.inl rfl) (Or.inl rfl) h.1 (nmM (fun M1 e2 => have h3 := h.2 M1 e2; s_iload_n (pc := 5) dX13_rest_5 rfl (s_i2l (pc := 6) dX13_rest_6 (s_ldc2 (pc := 7) dX13_rest_7 k_X13_198 (s_ldc2 (pc := 10) dX13_rest_10 k_X13_341 (s_callS (pc := 13) (As := [.long p1.toInt64, .long 20, .long 50]) (rest := []) (d' := 0) (mc' := 0) (ms' := 0) dX13_rest_13 c_X13_122 rfl rfl (Nat.le_of_ble_eq_true rfl) (rm_ok rfl rfl) ⟨Nat.le_refl 0, Nat.le_refl 0⟩ (T_X13_in h3) (kkI (fun r6 M5 h4 => s_if_eq (pc := 16) (tgt := 24) dX13_rest_16 rfl (fun c7 => have h8 := h4.1 c7; s_iconst (pc := 24) dX13_rest_24 ci_m1 (s_ireturn (pc := 25) dX13_rest_25 rfl (Nat.zero_le _) (Nat.zero_le _) ⟨_, rfl, h8⟩)) (fun c9 => have h10 := h4.2 c9; s_iload_n (pc := 19) dX13_rest_19 rfl (s_iconst (pc := 20) dX13_rest_20 ci_m1 (s_icmp_ge (pc := 21) (tgt := 26) dX13_rest_21 rfl (fun c11 => have h12 := h10.1 c11; s_aload_n (pc := 26) dX13_rest_26 rfl (s_callV (pc := 27) (As := []) (rest := []) (d' := 1) (mc' := 0) (ms' := 0) dX13_rest_27 c_X13_228 (Nat.le_of_ble_eq_true rfl) rfl h12.1 rfl rfl (Nat.le_of_ble_eq_true rfl) (rm_ok rfl rfl) ⟨Nat.le_refl 0, Nat.le_refl 0⟩ (T_X13_isReady h12.2) (kkI (fun r17 M16 h15 => s_if_ne (pc := 30) (tgt := 36) dX13_rest_30 rfl (fun c18 => have h19 := h15.1 c18; s_aload_n (pc := 36) dX13_rest_36 rfl (s_iload_n (pc := 37) dX13_rest_37 rfl (s_callV (pc := 38) (As := [.int p1]) (rest := []) (d' := 2) (mc' := 0) (ms' := 0) dX13_rest_38 c_X13_357 (Nat.le_of_ble_eq_true rfl) rfl h19.1 rfl rfl (Nat.le_of_ble_eq_true rfl) (rm_ok rfl rfl) ⟨Nat.le_refl 0, Nat.le_refl 0⟩ (T_X13_findSlates h19.2) (kkV (fun M23 h22 => s_iconst (pc := 41) dX13_rest_41 ci_0 (s_istore_n (pc := 42) (L1 := [some (.ref p0), some (.int p1), some (.int p2), some (.int 0), none, none]) dX13_rest_42 (Nat.le_of_ble_eq_true rfl) rfl (s_iconst (pc := 43) dX13_rest_43 ci_0 (s_istore (pc := 44) (L1 := [some (.ref p0), some (.int p1), some (.int p2), some (.int 0), some (.int 0), none]) dX13_rest_44 (Nat.le_of_ble_eq_true rfl) rfl (Exists.elim h22 (fun n48 hn => s_sel (L1 := [some (.ref p0), none, some (.int p2), some (.int 0), some (.int 0), none]) [true, false, true, true, true, false] rfl (P_lp_X13_rest_46 n48 p0 p2 0 0 M23 hn))))))))))) (fun c20 => have h21 := h15.2 c20; s_bipush (pc := 33) dX13_rest_33 cb_m3 (s_ireturn (pc := 35) dX13_rest_35 rfl (Nat.zero_le _) (Nat.zero_le _) ⟨_, rfl, h21⟩)))))) (fun c13 => have h14 := h10.2 c13; s_iconst (pc := 24) dX13_rest_24 ci_m1 (s_ireturn (pc := 25) dX13_rest_25 rfl (Nat.zero_le _) (Nat.zero_le _) ⟨_, rfl, h14⟩)))))))))))))))))
/-! X13_restore -/
theorem dX13_restore_0 : cod mX13_restore 0 (.aload_n 0) 1 := by decide +kernel
theorem dX13_restore_1 : cod mX13_restore 1 (.iconst 0) 1 := by decide +kernel
theorem dX13_restore_2 : cod mX13_restore 2 (.putfield 115) 3 := by decide +kernel
theorem dX13_restore_5 : cod mX13_restore 5 (.aload_n 0) 1 := by decide +kernel
theorem dX13_restore_6 : cod mX13_restore 6 (.getfield 382) 3 := by decide +kernel
theorem dX13_restore_9 : cod mX13_restore 9 (.ifCond .ne 6) 3 := by decide +kernel
theorem dX13_restore_12 : cod mX13_restore 12 (.bipush (-3)) 2 := by decide +kernel
theorem dX13_restore_14 : cod mX13_restore 14 (.ireturn) 1 := by decide +kernel
theorem dX13_restore_15 : cod mX13_restore 15 (.aload_n 0) 1 := by decide +kernel
theorem dX13_restore_16 : cod mX13_restore 16 (.iconst 0) 1 := by decide +kernel
theorem dX13_restore_17 : cod mX13_restore 17 (.putfield 369) 3 := by decide +kernel
theorem dX13_restore_20 : cod mX13_restore 20 (.aload_n 0) 1 := by decide +kernel
theorem dX13_restore_21 : cod mX13_restore 21 (.invokevirtual 385) 3 := by decide +kernel
theorem dX13_restore_24 : cod mX13_restore 24 (.aload_n 0) 1 := by decide +kernel
theorem dX13_restore_25 : cod mX13_restore 25 (.getfield 119) 3 := by decide +kernel
theorem dX13_restore_28 : cod mX13_restore 28 (.ireturn) 1 := by decide +kernel
def wp_X13_restore (p0 : Nat) (M : Mem) (Q : Int32 → Mem → Prop) : Prop := mK M p0 = 14 ∧ ∀ M1 : Mem, M1 = uI M p0 12 0 → (¬ (mI M1 p0 45) = (0 : Int32) → ∀ M8 : Mem, M8 = uI M1 p0 48 0 → wp_X13_moveAll p0 M8 (fun M12 => mK M12 p0 = 14 ∧ Q (mI M12 p0 0) M12)) ∧ ((mI M1 p0 45) = (0 : Int32) → Q (-3) M1)
theorem T_X13_restore {G : GG} {Q : Int32 → Mem → Prop} {M : Mem} {p0 : Nat} (h : wp_X13_restore p0 M Q) : PMet G mX13_restore 3 0 0 [.ref p0] M (QI Q) :=
  mk_met (by decide) rfl rfl (by
    intro w hw x9 e9
    subst e9
    simp at hw) (Nat.le_of_ble_eq_true rfl) (s_pad (L1 := [some (.ref p0)]) 1 rfl (s_aload_n (pc := 0) dX13_restore_0 rfl (s_iconst (pc := 1) dX13_restore_1 ci_0 (s_putI (pc := 2) dX13_restore_2 f_X13_115 (Or.inl rfl) (Or.inl rfl) h.1 (nmM (fun M1 e2 => have h3 := h.2 M1 e2; s_aload_n (pc := 5) dX13_restore_5 rfl (s_getI (pc := 6) dX13_restore_6 f_X13_382 rfl ((congrFun (congrArg mK e2) p0).trans h.1) (s_if_ne (pc := 9) (tgt := 15) dX13_restore_9 rfl (fun c4 => have h5 := h3.1 c4; s_aload_n (pc := 15) dX13_restore_15 rfl (s_iconst (pc := 16) dX13_restore_16 ci_0 (s_putI (pc := 17) dX13_restore_17 f_X13_369 (Or.inl rfl) (Or.inr ⟨rfl, Or.inl rfl⟩) ((congrFun (congrArg mK e2) p0).trans h.1) (nmM (fun M8 e9 => have h10 := h5 M8 e9; s_aload_n (pc := 20) dX13_restore_20 rfl (s_callV (pc := 21) (As := []) (rest := []) (d' := 2) (mc' := 0) (ms' := 0) dX13_restore_21 c_X13_385 (Nat.le_of_ble_eq_true rfl) rfl ((congrFun (congrArg mK e9) p0).trans ((congrFun (congrArg mK e2) p0).trans h.1)) rfl rfl (Nat.le_of_ble_eq_true rfl) (rm_ok rfl rfl) ⟨Nat.le_refl 0, Nat.le_refl 0⟩ (T_X13_moveAll h10) (kkV (fun M12 h11 => s_aload_n (pc := 24) dX13_restore_24 rfl (s_getI (pc := 25) dX13_restore_25 f_X13_119 rfl h11.1 (s_ireturn (pc := 28) dX13_restore_28 rfl (Nat.zero_le _) (Nat.zero_le _) ⟨_, rfl, h11.2⟩)))))))))) (fun c6 => have h7 := h3.2 c6; s_bipush (pc := 12) dX13_restore_12 cb_m3 (s_ireturn (pc := 14) dX13_restore_14 rfl (Nat.zero_le _) (Nat.zero_le _) ⟨_, rfl, h7⟩))))))))))
/-! X13_row -/
theorem dX13_row_0 : cod mX13_row 0 (.aload_n 0) 1 := by decide +kernel
theorem dX13_row_1 : cod mX13_row 1 (.iconst 0) 1 := by decide +kernel
theorem dX13_row_2 : cod mX13_row 2 (.putfield 115) 3 := by decide +kernel
theorem dX13_row_5 : cod mX13_row 5 (.iload_n 1) 1 := by decide +kernel
theorem dX13_row_6 : cod mX13_row 6 (.i2l) 1 := by decide +kernel
theorem dX13_row_7 : cod mX13_row 7 (.lconst 0) 1 := by decide +kernel
theorem dX13_row_8 : cod mX13_row 8 (.ldc2_w 273) 3 := by decide +kernel
theorem dX13_row_11 : cod mX13_row 11 (.invokestatic 122) 3 := by decide +kernel
theorem dX13_row_14 : cod mX13_row 14 (.ifCond .eq 21) 3 := by decide +kernel
theorem dX13_row_17 : cod mX13_row 17 (.iload_n 2) 1 := by decide +kernel
theorem dX13_row_18 : cod mX13_row 18 (.i2l) 1 := by decide +kernel
theorem dX13_row_19 : cod mX13_row 19 (.lconst 0) 1 := by decide +kernel
theorem dX13_row_20 : cod mX13_row 20 (.ldc2_w 196) 3 := by decide +kernel
theorem dX13_row_23 : cod mX13_row 23 (.invokestatic 122) 3 := by decide +kernel
theorem dX13_row_26 : cod mX13_row 26 (.ifCond .eq 9) 3 := by decide +kernel
theorem dX13_row_29 : cod mX13_row 29 (.iload_n 3) 1 := by decide +kernel
theorem dX13_row_30 : cod mX13_row 30 (.bipush 100) 2 := by decide +kernel
theorem dX13_row_32 : cod mX13_row 32 (.if_icmp .le 5) 3 := by decide +kernel
theorem dX13_row_35 : cod mX13_row 35 (.iconst (-1)) 1 := by decide +kernel
theorem dX13_row_36 : cod mX13_row 36 (.ireturn) 1 := by decide +kernel
theorem dX13_row_37 : cod mX13_row 37 (.iload_n 3) 1 := by decide +kernel
theorem dX13_row_38 : cod mX13_row 38 (.ifCond .ge 6) 3 := by decide +kernel
theorem dX13_row_41 : cod mX13_row 41 (.bipush (-14)) 2 := by decide +kernel
theorem dX13_row_43 : cod mX13_row 43 (.ireturn) 1 := by decide +kernel
theorem dX13_row_44 : cod mX13_row 44 (.aload_n 0) 1 := by decide +kernel
theorem dX13_row_45 : cod mX13_row 45 (.getfield 94) 3 := by decide +kernel
theorem dX13_row_48 : cod mX13_row 48 (.iload_n 1) 1 := by decide +kernel
theorem dX13_row_49 : cod mX13_row 49 (.iconst 2) 1 := by decide +kernel
theorem dX13_row_50 : cod mX13_row 50 (.iastore) 1 := by decide +kernel
theorem dX13_row_51 : cod mX13_row 51 (.aload_n 0) 1 := by decide +kernel
theorem dX13_row_52 : cod mX13_row 52 (.getfield 103) 3 := by decide +kernel
theorem dX13_row_55 : cod mX13_row 55 (.iload_n 1) 1 := by decide +kernel
theorem dX13_row_56 : cod mX13_row 56 (.iload_n 2) 1 := by decide +kernel
theorem dX13_row_57 : cod mX13_row 57 (.iastore) 1 := by decide +kernel
theorem dX13_row_58 : cod mX13_row 58 (.aload_n 0) 1 := by decide +kernel
theorem dX13_row_59 : cod mX13_row 59 (.getfield 106) 3 := by decide +kernel
theorem dX13_row_62 : cod mX13_row 62 (.iload_n 1) 1 := by decide +kernel
theorem dX13_row_63 : cod mX13_row 63 (.iload_n 3) 1 := by decide +kernel
theorem dX13_row_64 : cod mX13_row 64 (.iastore) 1 := by decide +kernel
theorem dX13_row_65 : cod mX13_row 65 (.iconst 0) 1 := by decide +kernel
theorem dX13_row_66 : cod mX13_row 66 (.istore 4) 2 := by decide +kernel
theorem dX13_row_68 : cod mX13_row 68 (.iload 4) 2 := by decide +kernel
theorem dX13_row_70 : cod mX13_row 70 (.bipush 100) 2 := by decide +kernel
theorem dX13_row_72 : cod mX13_row 72 (.if_icmp .ge 22) 3 := by decide +kernel
theorem dX13_row_75 : cod mX13_row 75 (.aload_n 0) 1 := by decide +kernel
theorem dX13_row_76 : cod mX13_row 76 (.getfield 109) 3 := by decide +kernel
theorem dX13_row_79 : cod mX13_row 79 (.bipush 100) 2 := by decide +kernel
theorem dX13_row_81 : cod mX13_row 81 (.iload_n 1) 1 := by decide +kernel
theorem dX13_row_82 : cod mX13_row 82 (.imul) 1 := by decide +kernel
theorem dX13_row_83 : cod mX13_row 83 (.iload 4) 2 := by decide +kernel
theorem dX13_row_85 : cod mX13_row 85 (.iadd) 1 := by decide +kernel
theorem dX13_row_86 : cod mX13_row 86 (.lconst 0) 1 := by decide +kernel
theorem dX13_row_87 : cod mX13_row 87 (.lastore) 1 := by decide +kernel
theorem dX13_row_88 : cod mX13_row 88 (.iinc 4 1) 3 := by decide +kernel
theorem dX13_row_91 : cod mX13_row 91 (.goto (-23)) 3 := by decide +kernel
theorem dX13_row_94 : cod mX13_row 94 (.iconst 0) 1 := by decide +kernel
theorem dX13_row_95 : cod mX13_row 95 (.ireturn) 1 := by decide +kernel
def lp_X13_row_68 (Q : Int32 → Mem → Prop) : Nat → Nat → Int32 → Int32 → Mem → Prop
  | 0 => fun _ _ _ _ => False
  | n + 1 => fun x0 x1 x4 M => ((100 : Int32) ≤ x4 → Q 0 M) ∧ (¬ (100 : Int32) ≤ x4 → mK M x0 = 14 ∧ mK M (mR M x0 54) = 21 ∧ vp_in ((100 * x1) + x4) (mN M (mR M x0 54)) ∧ ∀ M39 : Mem, M39 = uJ M (mR M x0 54) ((100 * x1) + x4).toNatClampNeg 0 → (lp_X13_row_68 Q n) x0 x1 (x4 + 1) M39)
theorem P_lp_X13_row_68 {G : GG} {Q : Int32 → Mem → Prop} : ∀ (n : Nat) (x0 : Nat) (x1 : Int32) (x4 : Int32) (M : Mem), lp_X13_row_68 Q n x0 x1 x4 M → PW G mX13_row (rmD 1 0 0) (QI Q) 68 [some (.ref x0), some (.int x1), none, none, some (.int x4)] [] M 0 0 := by
  intro n
  induction n with
  | zero => intro x0 x1 x4 M h; exact h.elim
  | succ n ih =>
    intro x0 x1 x4 M h
    exact (s_iload (pc := 68) dX13_row_68 rfl (s_bipush (pc := 70) dX13_row_70 cb_100 (s_icmp_ge (pc := 72) (tgt := 94) dX13_row_72 rfl (fun c35 => have h36 := h.1 c35; s_iconst (pc := 94) dX13_row_94 ci_0 (s_ireturn (pc := 95) dX13_row_95 rfl (Nat.zero_le _) (Nat.zero_le _) ⟨_, rfl, h36⟩)) (fun c37 => have h38 := h.2 c37; s_aload_n (pc := 75) dX13_row_75 rfl (s_getR (pc := 76) dX13_row_76 f_X13_109 rfl h38.1 (s_bipush (pc := 79) dX13_row_79 cb_100 (s_iload_n (pc := 81) dX13_row_81 rfl (s_imul (pc := 82) dX13_row_82 (s_iload (pc := 83) dX13_row_83 rfl (s_iadd (pc := 85) dX13_row_85 (s_lconst (pc := 86) (v := 0) dX13_row_86 rfl (s_las (pc := 87) dX13_row_87 h38.2.1 h38.2.2.1 (nmM (fun M39 e40 => have h41 := (h38.2.2.2) M39 e40; s_iinc (pc := 88) (L1 := [some (.ref x0), some (.int x1), none, none, some (.int (x4 + 1))]) dX13_row_88 rfl ci_1 (Nat.le_of_ble_eq_true rfl) rfl (s_goto (pc := 91) (tgt := 68) dX13_row_91 rfl (s_sel (L1 := [some (.ref x0), some (.int x1), none, none, some (.int (x4 + 1))]) [true, true, false, false, true] rfl (ih x0 x1 (x4 + 1) M39 h41)))))))))))))))))
def wp_X13_row (p0 : Nat) (p1 : Int32) (p2 : Int32) (p3 : Int32) (M : Mem) (Q : Int32 → Mem → Prop) : Prop := mK M p0 = 14 ∧ ∀ M1 : Mem, M1 = uI M p0 12 0 → wp_X13_in p1.toInt64 0 7 M1 (fun r6 M5 => (r6 = (0 : Int32) → Q (-1) M5) ∧ (¬ r6 = (0 : Int32) → wp_X13_in p2.toInt64 0 2 M5 (fun r13 M12 => (r13 = (0 : Int32) → Q (-1) M12) ∧ (¬ r13 = (0 : Int32) → (p3 ≤ (100 : Int32) → ((0 : Int32) ≤ p3 → mK M12 p0 = 14 ∧ mK M12 (mR M12 p0 49) = 20 ∧ vp_in p1 (mN M12 (mR M12 p0 49)) ∧ ∀ M26 : Mem, M26 = uI M12 (mR M12 p0 49) p1.toNatClampNeg 2 → mK M26 (mR M26 p0 52) = 20 ∧ vp_in p1 (mN M26 (mR M26 p0 52)) ∧ ∀ M29 : Mem, M29 = uI M26 (mR M26 p0 52) p1.toNatClampNeg p2 → mK M29 (mR M29 p0 53) = 20 ∧ vp_in p1 (mN M29 (mR M29 p0 53)) ∧ ∀ M32 : Mem, M32 = uI M29 (mR M29 p0 53) p1.toNatClampNeg p3 → ∃ n42 : Nat, lp_X13_row_68 Q n42 p0 p1 0 M32) ∧ (¬ (0 : Int32) ≤ p3 → Q (-14) M12)) ∧ (¬ p3 ≤ (100 : Int32) → Q (-1) M12)))))
theorem T_X13_row {G : GG} {Q : Int32 → Mem → Prop} {M : Mem} {p0 : Nat} {p1 : Int32} {p2 : Int32} {p3 : Int32} (h : wp_X13_row p0 p1 p2 p3 M Q) : PMet G mX13_row 1 0 0 [.ref p0, .int p1, .int p2, .int p3] M (QI Q) :=
  mk_met (by decide) rfl rfl (by
    intro w hw x9 e9
    subst e9
    simp at hw) (Nat.le_of_ble_eq_true rfl) (s_pad (L1 := [some (.ref p0), some (.int p1), some (.int p2), some (.int p3), none]) 5 rfl (s_aload_n (pc := 0) dX13_row_0 rfl (s_iconst (pc := 1) dX13_row_1 ci_0 (s_putI (pc := 2) dX13_row_2 f_X13_115 (Or.inl rfl) (Or.inl rfl) h.1 (nmM (fun M1 e2 => have h3 := h.2 M1 e2; s_iload_n (pc := 5) dX13_row_5 rfl (s_i2l (pc := 6) dX13_row_6 (s_lconst (pc := 7) (v := 0) dX13_row_7 rfl (s_ldc2 (pc := 8) dX13_row_8 k_X13_273 (s_callS (pc := 11) (As := [.long p1.toInt64, .long 0, .long 7]) (rest := []) (d' := 0) (mc' := 0) (ms' := 0) dX13_row_11 c_X13_122 rfl rfl (Nat.le_of_ble_eq_true rfl) (rm_ok rfl rfl) ⟨Nat.le_refl 0, Nat.le_refl 0⟩ (T_X13_in h3) (kkI (fun r6 M5 h4 => s_if_eq (pc := 14) (tgt := 35) dX13_row_14 rfl (fun c7 => have h8 := h4.1 c7; s_iconst (pc := 35) dX13_row_35 ci_m1 (s_ireturn (pc := 36) dX13_row_36 rfl (Nat.zero_le _) (Nat.zero_le _) ⟨_, rfl, h8⟩)) (fun c9 => have h10 := h4.2 c9; s_iload_n (pc := 17) dX13_row_17 rfl (s_i2l (pc := 18) dX13_row_18 (s_lconst (pc := 19) (v := 0) dX13_row_19 rfl (s_ldc2 (pc := 20) dX13_row_20 k_X13_196 (s_callS (pc := 23) (As := [.long p2.toInt64, .long 0, .long 2]) (rest := []) (d' := 0) (mc' := 0) (ms' := 0) dX13_row_23 c_X13_122 rfl rfl (Nat.le_of_ble_eq_true rfl) (rm_ok rfl rfl) ⟨Nat.le_refl 0, Nat.le_refl 0⟩ (T_X13_in h10) (kkI (fun r13 M12 h11 => s_if_eq (pc := 26) (tgt := 35) dX13_row_26 rfl (fun c14 => have h15 := h11.1 c14; s_iconst (pc := 35) dX13_row_35 ci_m1 (s_ireturn (pc := 36) dX13_row_36 rfl (Nat.zero_le _) (Nat.zero_le _) ⟨_, rfl, h15⟩)) (fun c16 => have h17 := h11.2 c16; s_iload_n (pc := 29) dX13_row_29 rfl (s_bipush (pc := 30) dX13_row_30 cb_100 (s_icmp_le (pc := 32) (tgt := 37) dX13_row_32 rfl (fun c18 => have h19 := h17.1 c18; s_iload_n (pc := 37) dX13_row_37 rfl (s_if_ge (pc := 38) (tgt := 44) dX13_row_38 rfl (fun c22 => have h23 := h19.1 c22; s_aload_n (pc := 44) dX13_row_44 rfl (s_getR (pc := 45) dX13_row_45 f_X13_94 rfl h23.1 (s_iload_n (pc := 48) dX13_row_48 rfl (s_iconst (pc := 49) dX13_row_49 ci_2 (s_ias (pc := 50) dX13_row_50 h23.2.1 h23.2.2.1 (nmM (fun M26 e27 => have h28 := (h23.2.2.2) M26 e27; s_aload_n (pc := 51) dX13_row_51 rfl (s_getR (pc := 52) dX13_row_52 f_X13_103 rfl ((congrFun (congrArg mK e27) p0).trans h23.1) (s_iload_n (pc := 55) dX13_row_55 rfl (s_iload_n (pc := 56) dX13_row_56 rfl (s_ias (pc := 57) dX13_row_57 h28.1 h28.2.1 (nmM (fun M29 e30 => have h31 := (h28.2.2) M29 e30; s_aload_n (pc := 58) dX13_row_58 rfl (s_getR (pc := 59) dX13_row_59 f_X13_106 rfl ((congrFun (congrArg mK e30) p0).trans ((congrFun (congrArg mK e27) p0).trans h23.1)) (s_iload_n (pc := 62) dX13_row_62 rfl (s_iload_n (pc := 63) dX13_row_63 rfl (s_ias (pc := 64) dX13_row_64 h31.1 h31.2.1 (nmM (fun M32 e33 => have h34 := (h31.2.2) M32 e33; s_iconst (pc := 65) dX13_row_65 ci_0 (s_istore (pc := 66) (L1 := [some (.ref p0), some (.int p1), some (.int p2), some (.int p3), some (.int 0)]) dX13_row_66 (Nat.le_of_ble_eq_true rfl) rfl (Exists.elim h34 (fun n42 hn => s_sel (L1 := [some (.ref p0), some (.int p1), none, none, some (.int 0)]) [true, true, false, false, true] rfl (P_lp_X13_row_68 n42 p0 p1 0 M32 hn))))))))))))))))))))))) (fun c24 => have h25 := h19.2 c24; s_bipush (pc := 41) dX13_row_41 cb_m14 (s_ireturn (pc := 43) dX13_row_43 rfl (Nat.zero_le _) (Nat.zero_le _) ⟨_, rfl, h25⟩)))) (fun c20 => have h21 := h17.2 c20; s_iconst (pc := 35) dX13_row_35 ci_m1 (s_ireturn (pc := 36) dX13_row_36 rfl (Nat.zero_le _) (Nat.zero_le _) ⟨_, rfl, h21⟩))))))))))))))))))))))))
/-! X13_set -/
theorem dX13_set_0 : cod mX13_set 0 (.aload_n 0) 1 := by decide +kernel
theorem dX13_set_1 : cod mX13_set 1 (.iconst 0) 1 := by decide +kernel
theorem dX13_set_2 : cod mX13_set 2 (.putfield 115) 3 := by decide +kernel
theorem dX13_set_5 : cod mX13_set 5 (.iload_n 1) 1 := by decide +kernel
theorem dX13_set_6 : cod mX13_set 6 (.i2l) 1 := by decide +kernel
theorem dX13_set_7 : cod mX13_set 7 (.lconst 0) 1 := by decide +kernel
theorem dX13_set_8 : cod mX13_set 8 (.ldc2_w 196) 3 := by decide +kernel
theorem dX13_set_11 : cod mX13_set 11 (.invokestatic 122) 3 := by decide +kernel
theorem dX13_set_14 : cod mX13_set 14 (.ifCond .eq 45) 3 := by decide +kernel
theorem dX13_set_17 : cod mX13_set 17 (.iload_n 2) 1 := by decide +kernel
theorem dX13_set_18 : cod mX13_set 18 (.i2l) 1 := by decide +kernel
theorem dX13_set_19 : cod mX13_set 19 (.iload_n 1) 1 := by decide +kernel
theorem dX13_set_20 : cod mX13_set 20 (.iconst 2) 1 := by decide +kernel
theorem dX13_set_21 : cod mX13_set 21 (.if_icmp .ne 7) 3 := by decide +kernel
theorem dX13_set_24 : cod mX13_set 24 (.lconst 1) 1 := by decide +kernel
theorem dX13_set_25 : cod mX13_set 25 (.goto 4) 3 := by decide +kernel
theorem dX13_set_28 : cod mX13_set 28 (.lconst 0) 1 := by decide +kernel
theorem dX13_set_29 : cod mX13_set 29 (.iload_n 1) 1 := by decide +kernel
theorem dX13_set_30 : cod mX13_set 30 (.ifCond .ne 9) 3 := by decide +kernel
theorem dX13_set_33 : cod mX13_set 33 (.ldc2_w 198) 3 := by decide +kernel
theorem dX13_set_36 : cod mX13_set 36 (.goto 17) 3 := by decide +kernel
theorem dX13_set_39 : cod mX13_set 39 (.iload_n 1) 1 := by decide +kernel
theorem dX13_set_40 : cod mX13_set 40 (.iconst 1) 1 := by decide +kernel
theorem dX13_set_41 : cod mX13_set 41 (.if_icmp .ne 9) 3 := by decide +kernel
theorem dX13_set_44 : cod mX13_set 44 (.ldc2_w 200) 3 := by decide +kernel
theorem dX13_set_47 : cod mX13_set 47 (.goto 6) 3 := by decide +kernel
theorem dX13_set_50 : cod mX13_set 50 (.ldc2_w 174) 3 := by decide +kernel
theorem dX13_set_53 : cod mX13_set 53 (.invokestatic 122) 3 := by decide +kernel
theorem dX13_set_56 : cod mX13_set 56 (.ifCond .ne 5) 3 := by decide +kernel
theorem dX13_set_59 : cod mX13_set 59 (.iconst (-1)) 1 := by decide +kernel
theorem dX13_set_60 : cod mX13_set 60 (.ireturn) 1 := by decide +kernel
theorem dX13_set_61 : cod mX13_set 61 (.iload_n 1) 1 := by decide +kernel
theorem dX13_set_62 : cod mX13_set 62 (.ifCond .ne 10) 3 := by decide +kernel
theorem dX13_set_65 : cod mX13_set 65 (.aload_n 0) 1 := by decide +kernel
theorem dX13_set_66 : cod mX13_set 66 (.getfield 25) 3 := by decide +kernel
theorem dX13_set_69 : cod mX13_set 69 (.goto 19) 3 := by decide +kernel
theorem dX13_set_72 : cod mX13_set 72 (.iload_n 1) 1 := by decide +kernel
theorem dX13_set_73 : cod mX13_set 73 (.iconst 1) 1 := by decide +kernel
theorem dX13_set_74 : cod mX13_set 74 (.if_icmp .ne 10) 3 := by decide +kernel
theorem dX13_set_77 : cod mX13_set 77 (.aload_n 0) 1 := by decide +kernel
theorem dX13_set_78 : cod mX13_set 78 (.getfield 171) 3 := by decide +kernel
theorem dX13_set_81 : cod mX13_set 81 (.goto 7) 3 := by decide +kernel
theorem dX13_set_84 : cod mX13_set 84 (.aload_n 0) 1 := by decide +kernel
theorem dX13_set_85 : cod mX13_set 85 (.getfield 29) 3 := by decide +kernel
theorem dX13_set_88 : cod mX13_set 88 (.istore_n 3) 1 := by decide +kernel
theorem dX13_set_89 : cod mX13_set 89 (.aload_n 0) 1 := by decide +kernel
theorem dX13_set_90 : cod mX13_set 90 (.iload_n 1) 1 := by decide +kernel
theorem dX13_set_91 : cod mX13_set 91 (.ifCond .ne 7) 3 := by decide +kernel
theorem dX13_set_94 : cod mX13_set 94 (.iload_n 2) 1 := by decide +kernel
theorem dX13_set_95 : cod mX13_set 95 (.goto 7) 3 := by decide +kernel
theorem dX13_set_98 : cod mX13_set 98 (.aload_n 0) 1 := by decide +kernel
theorem dX13_set_99 : cod mX13_set 99 (.getfield 25) 3 := by decide +kernel
theorem dX13_set_102 : cod mX13_set 102 (.putfield 25) 3 := by decide +kernel
theorem dX13_set_105 : cod mX13_set 105 (.aload_n 0) 1 := by decide +kernel
theorem dX13_set_106 : cod mX13_set 106 (.iload_n 1) 1 := by decide +kernel
theorem dX13_set_107 : cod mX13_set 107 (.iconst 1) 1 := by decide +kernel
theorem dX13_set_108 : cod mX13_set 108 (.if_icmp .ne 7) 3 := by decide +kernel
theorem dX13_set_111 : cod mX13_set 111 (.iload_n 2) 1 := by decide +kernel
theorem dX13_set_112 : cod mX13_set 112 (.goto 7) 3 := by decide +kernel
theorem dX13_set_115 : cod mX13_set 115 (.aload_n 0) 1 := by decide +kernel
theorem dX13_set_116 : cod mX13_set 116 (.getfield 171) 3 := by decide +kernel
theorem dX13_set_119 : cod mX13_set 119 (.putfield 171) 3 := by decide +kernel
theorem dX13_set_122 : cod mX13_set 122 (.aload_n 0) 1 := by decide +kernel
theorem dX13_set_123 : cod mX13_set 123 (.iload_n 1) 1 := by decide +kernel
theorem dX13_set_124 : cod mX13_set 124 (.iconst 2) 1 := by decide +kernel
theorem dX13_set_125 : cod mX13_set 125 (.if_icmp .ne 7) 3 := by decide +kernel
theorem dX13_set_128 : cod mX13_set 128 (.iload_n 2) 1 := by decide +kernel
theorem dX13_set_129 : cod mX13_set 129 (.goto 7) 3 := by decide +kernel
theorem dX13_set_132 : cod mX13_set 132 (.aload_n 0) 1 := by decide +kernel
theorem dX13_set_133 : cod mX13_set 133 (.getfield 29) 3 := by decide +kernel
theorem dX13_set_136 : cod mX13_set 136 (.putfield 29) 3 := by decide +kernel
theorem dX13_set_139 : cod mX13_set 139 (.iload_n 3) 1 := by decide +kernel
theorem dX13_set_140 : cod mX13_set 140 (.ireturn) 1 := by decide +kernel
def jn_X13_set_136 (Q : Int32 → Mem → Prop) (x3 : Int32) (s0 : Int32) (s1 : Nat) (M : Mem) : Prop := mK M s1 = 14 ∧ ∀ M56 : Mem, M56 = uI M s1 9 s0 → Q x3 M56
theorem P_jn_X13_set_136 {G : GG} {Q : Int32 → Mem → Prop} (x3 : Int32) (s0 : Int32) (s1 : Nat) (M : Mem) (h : jn_X13_set_136 Q x3 s0 s1 M) : PW G mX13_set (rmD 1 0 0) (QI Q) 136 [none, none, none, some (.int x3)] [.int s0, .ref s1] M 0 0 := (s_putI (pc := 136) dX13_set_136 f_X13_29 (Or.inl rfl) (Or.inl rfl) h.1 (nmM (fun M56 e57 => have h58 := h.2 M56 e57; s_iload_n (pc := 139) dX13_set_139 rfl (s_ireturn (pc := 140) dX13_set_140 rfl (Nat.zero_le _) (Nat.zero_le _) ⟨_, rfl, h58⟩))))
def jn_X13_set_119 (Q : Int32 → Mem → Prop) (x0 : Nat) (x1 : Int32) (x2 : Int32) (x3 : Int32) (s0 : Int32) (s1 : Nat) (M : Mem) : Prop := mK M s1 = 14 ∧ ∀ M49 : Mem, M49 = uI M s1 8 s0 → (¬ x1 = (2 : Int32) → mK M49 x0 = 14 ∧ jn_X13_set_136 Q x3 (mI M49 x0 9) x0 M49) ∧ (x1 = (2 : Int32) → jn_X13_set_136 Q x3 x2 x0 M49)
theorem P_jn_X13_set_119 {G : GG} {Q : Int32 → Mem → Prop} (x0 : Nat) (x1 : Int32) (x2 : Int32) (x3 : Int32) (s0 : Int32) (s1 : Nat) (M : Mem) (h : jn_X13_set_119 Q x0 x1 x2 x3 s0 s1 M) : PW G mX13_set (rmD 1 0 0) (QI Q) 119 [some (.ref x0), some (.int x1), some (.int x2), some (.int x3)] [.int s0, .ref s1] M 0 0 := (s_putI (pc := 119) dX13_set_119 f_X13_171 (Or.inl rfl) (Or.inl rfl) h.1 (nmM (fun M49 e50 => have h51 := h.2 M49 e50; s_aload_n (pc := 122) dX13_set_122 rfl (s_iload_n (pc := 123) dX13_set_123 rfl (s_iconst (pc := 124) dX13_set_124 ci_2 (s_icmp_ne (pc := 125) (tgt := 132) dX13_set_125 rfl (fun c52 => have h53 := h51.1 c52; s_aload_n (pc := 132) dX13_set_132 rfl (s_getI (pc := 133) dX13_set_133 f_X13_29 rfl h53.1 (s_sel (L1 := [none, none, none, some (.int x3)]) [false, false, false, true] rfl (P_jn_X13_set_136 x3 (mI M49 x0 9) x0 M49 h53.2)))) (fun c54 => have h55 := h51.2 c54; s_iload_n (pc := 128) dX13_set_128 rfl (s_goto (pc := 129) (tgt := 136) dX13_set_129 rfl (s_sel (L1 := [none, none, none, some (.int x3)]) [false, false, false, true] rfl (P_jn_X13_set_136 x3 x2 x0 M49 h55))))))))))
def jn_X13_set_102 (Q : Int32 → Mem → Prop) (x0 : Nat) (x1 : Int32) (x2 : Int32) (x3 : Int32) (s0 : Int32) (s1 : Nat) (M : Mem) : Prop := mK M s1 = 14 ∧ ∀ M42 : Mem, M42 = uI M s1 7 s0 → (¬ x1 = (1 : Int32) → mK M42 x0 = 14 ∧ jn_X13_set_119 Q x0 x1 x2 x3 (mI M42 x0 8) x0 M42) ∧ (x1 = (1 : Int32) → jn_X13_set_119 Q x0 x1 x2 x3 x2 x0 M42)
theorem P_jn_X13_set_102 {G : GG} {Q : Int32 → Mem → Prop} (x0 : Nat) (x1 : Int32) (x2 : Int32) (x3 : Int32) (s0 : Int32) (s1 : Nat) (M : Mem) (h : jn_X13_set_102 Q x0 x1 x2 x3 s0 s1 M) : PW G mX13_set (rmD 1 0 0) (QI Q) 102 [some (.ref x0), some (.int x1), some (.int x2), some (.int x3)] [.int s0, .ref s1] M 0 0 := (s_putI (pc := 102) dX13_set_102 f_X13_25 (Or.inl rfl) (Or.inl rfl) h.1 (nmM (fun M42 e43 => have h44 := h.2 M42 e43; s_aload_n (pc := 105) dX13_set_105 rfl (s_iload_n (pc := 106) dX13_set_106 rfl (s_iconst (pc := 107) dX13_set_107 ci_1 (s_icmp_ne (pc := 108) (tgt := 115) dX13_set_108 rfl (fun c45 => have h46 := h44.1 c45; s_aload_n (pc := 115) dX13_set_115 rfl (s_getI (pc := 116) dX13_set_116 f_X13_171 rfl h46.1 (s_sel (L1 := [some (.ref x0), some (.int x1), some (.int x2), some (.int x3)]) [true, true, true, true] rfl (P_jn_X13_set_119 x0 x1 x2 x3 (mI M42 x0 8) x0 M42 h46.2)))) (fun c47 => have h48 := h44.2 c47; s_iload_n (pc := 111) dX13_set_111 rfl (s_goto (pc := 112) (tgt := 119) dX13_set_112 rfl (s_sel (L1 := [some (.ref x0), some (.int x1), some (.int x2), some (.int x3)]) [true, true, true, true] rfl (P_jn_X13_set_119 x0 x1 x2 x3 x2 x0 M42 h48))))))))))
def jn_X13_set_88 (Q : Int32 → Mem → Prop) (x0 : Nat) (x1 : Int32) (x2 : Int32) (s0 : Int32) (M : Mem) : Prop := (¬ x1 = (0 : Int32) → mK M x0 = 14 ∧ jn_X13_set_102 Q x0 x1 x2 s0 (mI M x0 7) x0 M) ∧ (x1 = (0 : Int32) → jn_X13_set_102 Q x0 x1 x2 s0 x2 x0 M)
theorem P_jn_X13_set_88 {G : GG} {Q : Int32 → Mem → Prop} (x0 : Nat) (x1 : Int32) (x2 : Int32) (s0 : Int32) (M : Mem) (h : jn_X13_set_88 Q x0 x1 x2 s0 M) : PW G mX13_set (rmD 1 0 0) (QI Q) 88 [some (.ref x0), some (.int x1), some (.int x2), none] [.int s0] M 0 0 := (s_istore_n (pc := 88) (L1 := [some (.ref x0), some (.int x1), some (.int x2), some (.int s0)]) dX13_set_88 (Nat.le_of_ble_eq_true rfl) rfl (s_aload_n (pc := 89) dX13_set_89 rfl (s_iload_n (pc := 90) dX13_set_90 rfl (s_if_ne (pc := 91) (tgt := 98) dX13_set_91 rfl (fun c38 => have h39 := h.1 c38; s_aload_n (pc := 98) dX13_set_98 rfl (s_getI (pc := 99) dX13_set_99 f_X13_25 rfl h39.1 (s_sel (L1 := [some (.ref x0), some (.int x1), some (.int x2), some (.int s0)]) [true, true, true, true] rfl (P_jn_X13_set_102 x0 x1 x2 s0 (mI M x0 7) x0 M h39.2)))) (fun c40 => have h41 := h.2 c40; s_iload_n (pc := 94) dX13_set_94 rfl (s_goto (pc := 95) (tgt := 102) dX13_set_95 rfl (s_sel (L1 := [some (.ref x0), some (.int x1), some (.int x2), some (.int s0)]) [true, true, true, true] rfl (P_jn_X13_set_102 x0 x1 x2 s0 x2 x0 M h41))))))))
def jn_X13_set_53 (Q : Int32 → Mem → Prop) (x0 : Nat) (x1 : Int32) (x2 : Int32) (s0 : Int64) (s1 : Int64) (s2 : Int64) (M : Mem) : Prop := wp_X13_in s2 s1 s0 M (fun r25 M24 => (¬ r25 = (0 : Int32) → (¬ x1 = (0 : Int32) → (¬ x1 = (1 : Int32) → mK M24 x0 = 14 ∧ jn_X13_set_88 Q x0 x1 x2 (mI M24 x0 9) M24) ∧ (x1 = (1 : Int32) → mK M24 x0 = 14 ∧ jn_X13_set_88 Q x0 x1 x2 (mI M24 x0 8) M24)) ∧ (x1 = (0 : Int32) → mK M24 x0 = 14 ∧ jn_X13_set_88 Q x0 x1 x2 (mI M24 x0 7) M24)) ∧ (r25 = (0 : Int32) → Q (-1) M24))
theorem P_jn_X13_set_53 {G : GG} {Q : Int32 → Mem → Prop} (x0 : Nat) (x1 : Int32) (x2 : Int32) (s0 : Int64) (s1 : Int64) (s2 : Int64) (M : Mem) (h : jn_X13_set_53 Q x0 x1 x2 s0 s1 s2 M) : PW G mX13_set (rmD 1 0 0) (QI Q) 53 [some (.ref x0), some (.int x1), some (.int x2), none] [.long s0, .long s1, .long s2] M 0 0 := (s_callS (pc := 53) (As := [.long s2, .long s1, .long s0]) (rest := []) (d' := 0) (mc' := 0) (ms' := 0) dX13_set_53 c_X13_122 rfl rfl (Nat.le_of_ble_eq_true rfl) (rm_ok rfl rfl) ⟨Nat.le_refl 0, Nat.le_refl 0⟩ (T_X13_in h) (kkI (fun r25 M24 h23 => s_if_ne (pc := 56) (tgt := 61) dX13_set_56 rfl (fun c26 => have h27 := h23.1 c26; s_iload_n (pc := 61) dX13_set_61 rfl (s_if_ne (pc := 62) (tgt := 72) dX13_set_62 rfl (fun c30 => have h31 := h27.1 c30; s_iload_n (pc := 72) dX13_set_72 rfl (s_iconst (pc := 73) dX13_set_73 ci_1 (s_icmp_ne (pc := 74) (tgt := 84) dX13_set_74 rfl (fun c34 => have h35 := h31.1 c34; s_aload_n (pc := 84) dX13_set_84 rfl (s_getI (pc := 85) dX13_set_85 f_X13_29 rfl h35.1 (s_sel (L1 := [some (.ref x0), some (.int x1), some (.int x2), none]) [true, true, true, false] rfl (P_jn_X13_set_88 x0 x1 x2 (mI M24 x0 9) M24 h35.2)))) (fun c36 => have h37 := h31.2 c36; s_aload_n (pc := 77) dX13_set_77 rfl (s_getI (pc := 78) dX13_set_78 f_X13_171 rfl h37.1 (s_goto (pc := 81) (tgt := 88) dX13_set_81 rfl (s_sel (L1 := [some (.ref x0), some (.int x1), some (.int x2), none]) [true, true, true, false] rfl (P_jn_X13_set_88 x0 x1 x2 (mI M24 x0 8) M24 h37.2)))))))) (fun c32 => have h33 := h27.2 c32; s_aload_n (pc := 65) dX13_set_65 rfl (s_getI (pc := 66) dX13_set_66 f_X13_25 rfl h33.1 (s_goto (pc := 69) (tgt := 88) dX13_set_69 rfl (s_sel (L1 := [some (.ref x0), some (.int x1), some (.int x2), none]) [true, true, true, false] rfl (P_jn_X13_set_88 x0 x1 x2 (mI M24 x0 7) M24 h33.2))))))) (fun c28 => have h29 := h23.2 c28; s_iconst (pc := 59) dX13_set_59 ci_m1 (s_ireturn (pc := 60) dX13_set_60 rfl (Nat.zero_le _) (Nat.zero_le _) ⟨_, rfl, h29⟩)))))
def jn_X13_set_29 (Q : Int32 → Mem → Prop) (x0 : Nat) (x1 : Int32) (x2 : Int32) (s0 : Int64) (s1 : Int64) (M : Mem) : Prop := (¬ x1 = (0 : Int32) → (¬ x1 = (1 : Int32) → jn_X13_set_53 Q x0 x1 x2 6 s0 s1 M) ∧ (x1 = (1 : Int32) → jn_X13_set_53 Q x0 x1 x2 9 s0 s1 M)) ∧ (x1 = (0 : Int32) → jn_X13_set_53 Q x0 x1 x2 20 s0 s1 M)
theorem P_jn_X13_set_29 {G : GG} {Q : Int32 → Mem → Prop} (x0 : Nat) (x1 : Int32) (x2 : Int32) (s0 : Int64) (s1 : Int64) (M : Mem) (h : jn_X13_set_29 Q x0 x1 x2 s0 s1 M) : PW G mX13_set (rmD 1 0 0) (QI Q) 29 [some (.ref x0), some (.int x1), some (.int x2), none] [.long s0, .long s1] M 0 0 := (s_iload_n (pc := 29) dX13_set_29 rfl (s_if_ne (pc := 30) (tgt := 39) dX13_set_30 rfl (fun c15 => have h16 := h.1 c15; s_iload_n (pc := 39) dX13_set_39 rfl (s_iconst (pc := 40) dX13_set_40 ci_1 (s_icmp_ne (pc := 41) (tgt := 50) dX13_set_41 rfl (fun c19 => have h20 := h16.1 c19; s_ldc2 (pc := 50) dX13_set_50 k_X13_174 (s_sel (L1 := [some (.ref x0), some (.int x1), some (.int x2), none]) [true, true, true, false] rfl (P_jn_X13_set_53 x0 x1 x2 6 s0 s1 M h20))) (fun c21 => have h22 := h16.2 c21; s_ldc2 (pc := 44) dX13_set_44 k_X13_200 (s_goto (pc := 47) (tgt := 53) dX13_set_47 rfl (s_sel (L1 := [some (.ref x0), some (.int x1), some (.int x2), none]) [true, true, true, false] rfl (P_jn_X13_set_53 x0 x1 x2 9 s0 s1 M h22))))))) (fun c17 => have h18 := h.2 c17; s_ldc2 (pc := 33) dX13_set_33 k_X13_198 (s_goto (pc := 36) (tgt := 53) dX13_set_36 rfl (s_sel (L1 := [some (.ref x0), some (.int x1), some (.int x2), none]) [true, true, true, false] rfl (P_jn_X13_set_53 x0 x1 x2 20 s0 s1 M h18))))))
def wp_X13_set (p0 : Nat) (p1 : Int32) (p2 : Int32) (M : Mem) (Q : Int32 → Mem → Prop) : Prop := mK M p0 = 14 ∧ ∀ M1 : Mem, M1 = uI M p0 12 0 → wp_X13_in p1.toInt64 0 2 M1 (fun r6 M5 => (r6 = (0 : Int32) → Q (-1) M5) ∧ (¬ r6 = (0 : Int32) → (¬ p1 = (2 : Int32) → jn_X13_set_29 Q p0 p1 p2 0 p2.toInt64 M5) ∧ (p1 = (2 : Int32) → jn_X13_set_29 Q p0 p1 p2 1 p2.toInt64 M5)))
theorem T_X13_set {G : GG} {Q : Int32 → Mem → Prop} {M : Mem} {p0 : Nat} {p1 : Int32} {p2 : Int32} (h : wp_X13_set p0 p1 p2 M Q) : PMet G mX13_set 1 0 0 [.ref p0, .int p1, .int p2] M (QI Q) :=
  mk_met (by decide) rfl rfl (by
    intro w hw x9 e9
    subst e9
    simp at hw) (Nat.le_of_ble_eq_true rfl) (s_pad (L1 := [some (.ref p0), some (.int p1), some (.int p2), none]) 4 rfl (s_aload_n (pc := 0) dX13_set_0 rfl (s_iconst (pc := 1) dX13_set_1 ci_0 (s_putI (pc := 2) dX13_set_2 f_X13_115 (Or.inl rfl) (Or.inl rfl) h.1 (nmM (fun M1 e2 => have h3 := h.2 M1 e2; s_iload_n (pc := 5) dX13_set_5 rfl (s_i2l (pc := 6) dX13_set_6 (s_lconst (pc := 7) (v := 0) dX13_set_7 rfl (s_ldc2 (pc := 8) dX13_set_8 k_X13_196 (s_callS (pc := 11) (As := [.long p1.toInt64, .long 0, .long 2]) (rest := []) (d' := 0) (mc' := 0) (ms' := 0) dX13_set_11 c_X13_122 rfl rfl (Nat.le_of_ble_eq_true rfl) (rm_ok rfl rfl) ⟨Nat.le_refl 0, Nat.le_refl 0⟩ (T_X13_in h3) (kkI (fun r6 M5 h4 => s_if_eq (pc := 14) (tgt := 59) dX13_set_14 rfl (fun c7 => have h8 := h4.1 c7; s_iconst (pc := 59) dX13_set_59 ci_m1 (s_ireturn (pc := 60) dX13_set_60 rfl (Nat.zero_le _) (Nat.zero_le _) ⟨_, rfl, h8⟩)) (fun c9 => have h10 := h4.2 c9; s_iload_n (pc := 17) dX13_set_17 rfl (s_i2l (pc := 18) dX13_set_18 (s_iload_n (pc := 19) dX13_set_19 rfl (s_iconst (pc := 20) dX13_set_20 ci_2 (s_icmp_ne (pc := 21) (tgt := 28) dX13_set_21 rfl (fun c11 => have h12 := h10.1 c11; s_lconst (pc := 28) (v := 0) dX13_set_28 rfl (s_sel (L1 := [some (.ref p0), some (.int p1), some (.int p2), none]) [true, true, true, false] rfl (P_jn_X13_set_29 p0 p1 p2 0 p2.toInt64 M5 h12))) (fun c13 => have h14 := h10.2 c13; s_lconst (pc := 24) (v := 1) dX13_set_24 rfl (s_goto (pc := 25) (tgt := 29) dX13_set_25 rfl (s_sel (L1 := [some (.ref p0), some (.int p1), some (.int p2), none]) [true, true, true, false] rfl (P_jn_X13_set_29 p0 p1 p2 1 p2.toInt64 M5 h14)))))))))))))))))))))
/-! X13_sort -/
theorem dX13_sort_0 : cod mX13_sort 0 (.aload_n 0) 1 := by decide +kernel
theorem dX13_sort_1 : cod mX13_sort 1 (.iconst 0) 1 := by decide +kernel
theorem dX13_sort_2 : cod mX13_sort 2 (.putfield 115) 3 := by decide +kernel
theorem dX13_sort_5 : cod mX13_sort 5 (.iload_n 1) 1 := by decide +kernel
theorem dX13_sort_6 : cod mX13_sort 6 (.i2l) 1 := by decide +kernel
theorem dX13_sort_7 : cod mX13_sort 7 (.lconst 0) 1 := by decide +kernel
theorem dX13_sort_8 : cod mX13_sort 8 (.aload_n 0) 1 := by decide +kernel
theorem dX13_sort_9 : cod mX13_sort 9 (.getfield 128) 3 := by decide +kernel
theorem dX13_sort_12 : cod mX13_sort 12 (.iconst 1) 1 := by decide +kernel
theorem dX13_sort_13 : cod mX13_sort 13 (.isub) 1 := by decide +kernel
theorem dX13_sort_14 : cod mX13_sort 14 (.i2l) 1 := by decide +kernel
theorem dX13_sort_15 : cod mX13_sort 15 (.invokestatic 122) 3 := by decide +kernel
theorem dX13_sort_18 : cod mX13_sort 18 (.ifCond .eq 15) 3 := by decide +kernel
theorem dX13_sort_21 : cod mX13_sort 21 (.iload_n 2) 1 := by decide +kernel
theorem dX13_sort_22 : cod mX13_sort 22 (.i2l) 1 := by decide +kernel
theorem dX13_sort_23 : cod mX13_sort 23 (.lconst 0) 1 := by decide +kernel
theorem dX13_sort_24 : cod mX13_sort 24 (.ldc2_w 196) 3 := by decide +kernel
theorem dX13_sort_27 : cod mX13_sort 27 (.invokestatic 122) 3 := by decide +kernel
theorem dX13_sort_30 : cod mX13_sort 30 (.ifCond .ne 5) 3 := by decide +kernel
theorem dX13_sort_33 : cod mX13_sort 33 (.iconst (-1)) 1 := by decide +kernel
theorem dX13_sort_34 : cod mX13_sort 34 (.ireturn) 1 := by decide +kernel
theorem dX13_sort_35 : cod mX13_sort 35 (.iload_n 2) 1 := by decide +kernel
theorem dX13_sort_36 : cod mX13_sort 36 (.ifCond .ne 12) 3 := by decide +kernel
theorem dX13_sort_39 : cod mX13_sort 39 (.aload_n 0) 1 := by decide +kernel
theorem dX13_sort_40 : cod mX13_sort 40 (.getfield 16) 3 := by decide +kernel
theorem dX13_sort_43 : cod mX13_sort 43 (.iload_n 1) 1 := by decide +kernel
theorem dX13_sort_44 : cod mX13_sort 44 (.iaload) 1 := by decide +kernel
theorem dX13_sort_45 : cod mX13_sort 45 (.goto 23) 3 := by decide +kernel
theorem dX13_sort_48 : cod mX13_sort 48 (.iload_n 2) 1 := by decide +kernel
theorem dX13_sort_49 : cod mX13_sort 49 (.iconst 1) 1 := by decide +kernel
theorem dX13_sort_50 : cod mX13_sort 50 (.if_icmp .ne 12) 3 := by decide +kernel
theorem dX13_sort_53 : cod mX13_sort 53 (.aload_n 0) 1 := by decide +kernel
theorem dX13_sort_54 : cod mX13_sort 54 (.getfield 19) 3 := by decide +kernel
theorem dX13_sort_57 : cod mX13_sort 57 (.iload_n 1) 1 := by decide +kernel
theorem dX13_sort_58 : cod mX13_sort 58 (.iaload) 1 := by decide +kernel
theorem dX13_sort_59 : cod mX13_sort 59 (.goto 9) 3 := by decide +kernel
theorem dX13_sort_62 : cod mX13_sort 62 (.aload_n 0) 1 := by decide +kernel
theorem dX13_sort_63 : cod mX13_sort 63 (.getfield 22) 3 := by decide +kernel
theorem dX13_sort_66 : cod mX13_sort 66 (.iload_n 1) 1 := by decide +kernel
theorem dX13_sort_67 : cod mX13_sort 67 (.iaload) 1 := by decide +kernel
theorem dX13_sort_68 : cod mX13_sort 68 (.ireturn) 1 := by decide +kernel
def wp_X13_sort (p0 : Nat) (p1 : Int32) (p2 : Int32) (M : Mem) (Q : Int32 → Mem → Prop) : Prop := mK M p0 = 14 ∧ ∀ M1 : Mem, M1 = uI M p0 12 0 → wp_X13_in p1.toInt64 0 (((mI M1 p0 3) - 1).toInt64) M1 (fun r6 M5 => (r6 = (0 : Int32) → Q (-1) M5) ∧ (¬ r6 = (0 : Int32) → wp_X13_in p2.toInt64 0 2 M5 (fun r13 M12 => (¬ r13 = (0 : Int32) → (¬ p2 = (0 : Int32) → (¬ p2 = (1 : Int32) → mK M12 p0 = 14 ∧ mK M12 (mR M12 p0 6) = 20 ∧ vp_in p1 (mN M12 (mR M12 p0 6)) ∧ Q (mI M12 (mR M12 p0 6) p1.toNatClampNeg) M12) ∧ (p2 = (1 : Int32) → mK M12 p0 = 14 ∧ mK M12 (mR M12 p0 5) = 20 ∧ vp_in p1 (mN M12 (mR M12 p0 5)) ∧ Q (mI M12 (mR M12 p0 5) p1.toNatClampNeg) M12)) ∧ (p2 = (0 : Int32) → mK M12 p0 = 14 ∧ mK M12 (mR M12 p0 4) = 20 ∧ vp_in p1 (mN M12 (mR M12 p0 4)) ∧ Q (mI M12 (mR M12 p0 4) p1.toNatClampNeg) M12)) ∧ (r13 = (0 : Int32) → Q (-1) M12))))
theorem T_X13_sort {G : GG} {Q : Int32 → Mem → Prop} {M : Mem} {p0 : Nat} {p1 : Int32} {p2 : Int32} (h : wp_X13_sort p0 p1 p2 M Q) : PMet G mX13_sort 1 0 0 [.ref p0, .int p1, .int p2] M (QI Q) :=
  mk_met (by decide) rfl rfl (by
    intro w hw x9 e9
    subst e9
    simp at hw) (Nat.le_of_ble_eq_true rfl) (s_pad (L1 := [some (.ref p0), some (.int p1), some (.int p2)]) 3 rfl (s_aload_n (pc := 0) dX13_sort_0 rfl (s_iconst (pc := 1) dX13_sort_1 ci_0 (s_putI (pc := 2) dX13_sort_2 f_X13_115 (Or.inl rfl) (Or.inl rfl) h.1 (nmM (fun M1 e2 => have h3 := h.2 M1 e2; s_iload_n (pc := 5) dX13_sort_5 rfl (s_i2l (pc := 6) dX13_sort_6 (s_lconst (pc := 7) (v := 0) dX13_sort_7 rfl (s_aload_n (pc := 8) dX13_sort_8 rfl (s_getI (pc := 9) dX13_sort_9 f_X13_128 rfl ((congrFun (congrArg mK e2) p0).trans h.1) (s_iconst (pc := 12) dX13_sort_12 ci_1 (s_isub (pc := 13) dX13_sort_13 (s_i2l (pc := 14) dX13_sort_14 (s_callS (pc := 15) (As := [.long p1.toInt64, .long 0, .long (((mI M1 p0 3) - 1).toInt64)]) (rest := []) (d' := 0) (mc' := 0) (ms' := 0) dX13_sort_15 c_X13_122 rfl rfl (Nat.le_of_ble_eq_true rfl) (rm_ok rfl rfl) ⟨Nat.le_refl 0, Nat.le_refl 0⟩ (T_X13_in h3) (kkI (fun r6 M5 h4 => s_if_eq (pc := 18) (tgt := 33) dX13_sort_18 rfl (fun c7 => have h8 := h4.1 c7; s_iconst (pc := 33) dX13_sort_33 ci_m1 (s_ireturn (pc := 34) dX13_sort_34 rfl (Nat.zero_le _) (Nat.zero_le _) ⟨_, rfl, h8⟩)) (fun c9 => have h10 := h4.2 c9; s_iload_n (pc := 21) dX13_sort_21 rfl (s_i2l (pc := 22) dX13_sort_22 (s_lconst (pc := 23) (v := 0) dX13_sort_23 rfl (s_ldc2 (pc := 24) dX13_sort_24 k_X13_196 (s_callS (pc := 27) (As := [.long p2.toInt64, .long 0, .long 2]) (rest := []) (d' := 0) (mc' := 0) (ms' := 0) dX13_sort_27 c_X13_122 rfl rfl (Nat.le_of_ble_eq_true rfl) (rm_ok rfl rfl) ⟨Nat.le_refl 0, Nat.le_refl 0⟩ (T_X13_in h10) (kkI (fun r13 M12 h11 => s_if_ne (pc := 30) (tgt := 35) dX13_sort_30 rfl (fun c14 => have h15 := h11.1 c14; s_iload_n (pc := 35) dX13_sort_35 rfl (s_if_ne (pc := 36) (tgt := 48) dX13_sort_36 rfl (fun c18 => have h19 := h15.1 c18; s_iload_n (pc := 48) dX13_sort_48 rfl (s_iconst (pc := 49) dX13_sort_49 ci_1 (s_icmp_ne (pc := 50) (tgt := 62) dX13_sort_50 rfl (fun c22 => have h23 := h19.1 c22; s_aload_n (pc := 62) dX13_sort_62 rfl (s_getR (pc := 63) dX13_sort_63 f_X13_22 rfl h23.1 (s_iload_n (pc := 66) dX13_sort_66 rfl (s_ial (pc := 67) dX13_sort_67 h23.2.1 h23.2.2.1 (s_ireturn (pc := 68) dX13_sort_68 rfl (Nat.zero_le _) (Nat.zero_le _) ⟨_, rfl, h23.2.2.2⟩))))) (fun c24 => have h25 := h19.2 c24; s_aload_n (pc := 53) dX13_sort_53 rfl (s_getR (pc := 54) dX13_sort_54 f_X13_19 rfl h25.1 (s_iload_n (pc := 57) dX13_sort_57 rfl (s_ial (pc := 58) dX13_sort_58 h25.2.1 h25.2.2.1 (s_goto (pc := 59) (tgt := 68) dX13_sort_59 rfl (s_ireturn (pc := 68) dX13_sort_68 rfl (Nat.zero_le _) (Nat.zero_le _) ⟨_, rfl, h25.2.2.2⟩))))))))) (fun c20 => have h21 := h15.2 c20; s_aload_n (pc := 39) dX13_sort_39 rfl (s_getR (pc := 40) dX13_sort_40 f_X13_16 rfl h21.1 (s_iload_n (pc := 43) dX13_sort_43 rfl (s_ial (pc := 44) dX13_sort_44 h21.2.1 h21.2.2.1 (s_goto (pc := 45) (tgt := 68) dX13_sort_45 rfl (s_ireturn (pc := 68) dX13_sort_68 rfl (Nat.zero_le _) (Nat.zero_le _) ⟨_, rfl, h21.2.2.2⟩)))))))) (fun c16 => have h17 := h11.2 c16; s_iconst (pc := 33) dX13_sort_33 ci_m1 (s_ireturn (pc := 34) dX13_sort_34 rfl (Nat.zero_le _) (Nat.zero_le _) ⟨_, rfl, h17⟩)))))))))))))))))))))))))
/-! X13_spreadOf -/
theorem dX13_spreadOf_0 : cod mX13_spreadOf 0 (.aload_n 0) 1 := by decide +kernel
theorem dX13_spreadOf_1 : cod mX13_spreadOf 1 (.getfield 100) 3 := by decide +kernel
theorem dX13_spreadOf_4 : cod mX13_spreadOf 4 (.iload_n 1) 1 := by decide +kernel
theorem dX13_spreadOf_5 : cod mX13_spreadOf 5 (.iaload) 1 := by decide +kernel
theorem dX13_spreadOf_6 : cod mX13_spreadOf 6 (.istore_n 2) 1 := by decide +kernel
theorem dX13_spreadOf_7 : cod mX13_spreadOf 7 (.aload_n 0) 1 := by decide +kernel
theorem dX13_spreadOf_8 : cod mX13_spreadOf 8 (.getfield 97) 3 := by decide +kernel
theorem dX13_spreadOf_11 : cod mX13_spreadOf 11 (.iload_n 1) 1 := by decide +kernel
theorem dX13_spreadOf_12 : cod mX13_spreadOf 12 (.iaload) 1 := by decide +kernel
theorem dX13_spreadOf_13 : cod mX13_spreadOf 13 (.tableswitch 60 0 4 #[35, 38, 42, 48, 53]) 35 := by decide +kernel
theorem dX13_spreadOf_48 : cod mX13_spreadOf 48 (.bipush 100) 2 := by decide +kernel
theorem dX13_spreadOf_50 : cod mX13_spreadOf 50 (.ireturn) 1 := by decide +kernel
theorem dX13_spreadOf_51 : cod mX13_spreadOf 51 (.iconst 2) 1 := by decide +kernel
theorem dX13_spreadOf_52 : cod mX13_spreadOf 52 (.iload_n 2) 1 := by decide +kernel
theorem dX13_spreadOf_53 : cod mX13_spreadOf 53 (.imul) 1 := by decide +kernel
theorem dX13_spreadOf_54 : cod mX13_spreadOf 54 (.ireturn) 1 := by decide +kernel
theorem dX13_spreadOf_55 : cod mX13_spreadOf 55 (.iconst 2) 1 := by decide +kernel
theorem dX13_spreadOf_56 : cod mX13_spreadOf 56 (.iload_n 2) 1 := by decide +kernel
theorem dX13_spreadOf_57 : cod mX13_spreadOf 57 (.imul) 1 := by decide +kernel
theorem dX13_spreadOf_58 : cod mX13_spreadOf 58 (.iconst 1) 1 := by decide +kernel
theorem dX13_spreadOf_59 : cod mX13_spreadOf 59 (.iadd) 1 := by decide +kernel
theorem dX13_spreadOf_60 : cod mX13_spreadOf 60 (.ireturn) 1 := by decide +kernel
theorem dX13_spreadOf_61 : cod mX13_spreadOf 61 (.bipush 100) 2 := by decide +kernel
theorem dX13_spreadOf_63 : cod mX13_spreadOf 63 (.iload_n 2) 1 := by decide +kernel
theorem dX13_spreadOf_64 : cod mX13_spreadOf 64 (.isub) 1 := by decide +kernel
theorem dX13_spreadOf_65 : cod mX13_spreadOf 65 (.ireturn) 1 := by decide +kernel
theorem dX13_spreadOf_66 : cod mX13_spreadOf 66 (.bipush 100) 2 := by decide +kernel
theorem dX13_spreadOf_68 : cod mX13_spreadOf 68 (.iload_n 2) 1 := by decide +kernel
theorem dX13_spreadOf_69 : cod mX13_spreadOf 69 (.isub) 1 := by decide +kernel
theorem dX13_spreadOf_70 : cod mX13_spreadOf 70 (.iconst 2) 1 := by decide +kernel
theorem dX13_spreadOf_71 : cod mX13_spreadOf 71 (.idiv) 1 := by decide +kernel
theorem dX13_spreadOf_72 : cod mX13_spreadOf 72 (.ireturn) 1 := by decide +kernel
theorem dX13_spreadOf_73 : cod mX13_spreadOf 73 (.iconst 2) 1 := by decide +kernel
theorem dX13_spreadOf_74 : cod mX13_spreadOf 74 (.iload_n 2) 1 := by decide +kernel
theorem dX13_spreadOf_75 : cod mX13_spreadOf 75 (.imul) 1 := by decide +kernel
theorem dX13_spreadOf_76 : cod mX13_spreadOf 76 (.bipush 7) 2 := by decide +kernel
theorem dX13_spreadOf_78 : cod mX13_spreadOf 78 (.iadd) 1 := by decide +kernel
theorem dX13_spreadOf_79 : cod mX13_spreadOf 79 (.ireturn) 1 := by decide +kernel
def wp_X13_spreadOf (p0 : Nat) (p1 : Int32) (M : Mem) (Q : Int32 → Mem → Prop) : Prop := mK M p0 = 14 ∧ mK M (mR M p0 51) = 20 ∧ vp_in p1 (mN M (mR M p0 51)) ∧ ∀ y1 : Int32, y1 = mI M (mR M p0 51) p1.toNatClampNeg → mK M (mR M p0 50) = 20 ∧ vp_in p1 (mN M (mR M p0 50)) ∧ (((mI M (mR M p0 50) p1.toNatClampNeg).toInt < 0 ∨ 4 < (mI M (mR M p0 50) p1.toNatClampNeg).toInt) → Q ((2 * y1) + 7) M) ∧ ((mI M (mR M p0 50) p1.toNatClampNeg) = 0 → Q 100 M) ∧ ((mI M (mR M p0 50) p1.toNatClampNeg) = 1 → Q (2 * y1) M) ∧ ((mI M (mR M p0 50) p1.toNatClampNeg) = 2 → Q ((2 * y1) + 1) M) ∧ ((mI M (mR M p0 50) p1.toNatClampNeg) = 3 → Q (100 - y1) M) ∧ ((mI M (mR M p0 50) p1.toNatClampNeg) = 4 → Q ((100 - y1) / 2) M)
theorem T_X13_spreadOf {G : GG} {Q : Int32 → Mem → Prop} {M : Mem} {p0 : Nat} {p1 : Int32} (h : wp_X13_spreadOf p0 p1 M Q) : PMet G mX13_spreadOf 0 0 0 [.ref p0, .int p1] M (QI Q) :=
  mk_met (by decide) rfl rfl (by
    intro w hw x9 e9
    subst e9
    simp at hw) (Nat.le_of_ble_eq_true rfl) (s_pad (L1 := [some (.ref p0), some (.int p1), none]) 3 rfl (s_aload_n (pc := 0) dX13_spreadOf_0 rfl (s_getR (pc := 1) dX13_spreadOf_1 f_X13_100 rfl h.1 (s_iload_n (pc := 4) dX13_spreadOf_4 rfl (s_ial (pc := 5) dX13_spreadOf_5 h.2.1 h.2.2.1 (nmI (fun y1 e2 => have h3 := h.2.2.2 y1 e2; s_istore_n (pc := 6) (L1 := [some (.ref p0), some (.int p1), some (.int y1)]) dX13_spreadOf_6 (Nat.le_of_ble_eq_true rfl) rfl (s_aload_n (pc := 7) dX13_spreadOf_7 rfl (s_getR (pc := 8) dX13_spreadOf_8 f_X13_97 rfl h.1 (s_iload_n (pc := 11) dX13_spreadOf_11 rfl (s_ial (pc := 12) dX13_spreadOf_12 h3.1 h3.2.1 (s_ts (pc := 13) (tgt := 73) dX13_spreadOf_13 rfl (fun c5 => have h4 := h3.2.2.1 c5; s_iconst (pc := 73) dX13_spreadOf_73 ci_2 (s_iload_n (pc := 74) dX13_spreadOf_74 rfl (s_imul (pc := 75) dX13_spreadOf_75 (s_bipush (pc := 76) dX13_spreadOf_76 cb_7 (s_iadd (pc := 78) dX13_spreadOf_78 (s_ireturn (pc := 79) dX13_spreadOf_79 rfl (Nat.zero_le _) (Nat.zero_le _) ⟨_, rfl, h4⟩)))))) (by
      intro j hx hle
      match j, hx, hle with
      | 0, hx, _ => exact ⟨35, 48, rfl, rfl, have c7 : (mI M (mR M p0 50) p1.toNatClampNeg) = 0 := eqI hx (by decide); have h6 := h3.2.2.2.1 c7; s_bipush (pc := 48) dX13_spreadOf_48 cb_100 (s_ireturn (pc := 50) dX13_spreadOf_50 rfl (Nat.zero_le _) (Nat.zero_le _) ⟨_, rfl, h6⟩)⟩
      | 1, hx, _ => exact ⟨38, 51, rfl, rfl, have c9 : (mI M (mR M p0 50) p1.toNatClampNeg) = 1 := eqI hx (by decide); have h8 := h3.2.2.2.2.1 c9; s_iconst (pc := 51) dX13_spreadOf_51 ci_2 (s_iload_n (pc := 52) dX13_spreadOf_52 rfl (s_imul (pc := 53) dX13_spreadOf_53 (s_ireturn (pc := 54) dX13_spreadOf_54 rfl (Nat.zero_le _) (Nat.zero_le _) ⟨_, rfl, h8⟩)))⟩
      | 2, hx, _ => exact ⟨42, 55, rfl, rfl, have c11 : (mI M (mR M p0 50) p1.toNatClampNeg) = 2 := eqI hx (by decide); have h10 := h3.2.2.2.2.2.1 c11; s_iconst (pc := 55) dX13_spreadOf_55 ci_2 (s_iload_n (pc := 56) dX13_spreadOf_56 rfl (s_imul (pc := 57) dX13_spreadOf_57 (s_iconst (pc := 58) dX13_spreadOf_58 ci_1 (s_iadd (pc := 59) dX13_spreadOf_59 (s_ireturn (pc := 60) dX13_spreadOf_60 rfl (Nat.zero_le _) (Nat.zero_le _) ⟨_, rfl, h10⟩)))))⟩
      | 3, hx, _ => exact ⟨48, 61, rfl, rfl, have c13 : (mI M (mR M p0 50) p1.toNatClampNeg) = 3 := eqI hx (by decide); have h12 := h3.2.2.2.2.2.2.1 c13; s_bipush (pc := 61) dX13_spreadOf_61 cb_100 (s_iload_n (pc := 63) dX13_spreadOf_63 rfl (s_isub (pc := 64) dX13_spreadOf_64 (s_ireturn (pc := 65) dX13_spreadOf_65 rfl (Nat.zero_le _) (Nat.zero_le _) ⟨_, rfl, h12⟩)))⟩
      | 4, hx, _ => exact ⟨53, 66, rfl, rfl, have c15 : (mI M (mR M p0 50) p1.toNatClampNeg) = 4 := eqI hx (by decide); have h14 := h3.2.2.2.2.2.2.2 c15; s_bipush (pc := 66) dX13_spreadOf_66 cb_100 (s_iload_n (pc := 68) dX13_spreadOf_68 rfl (s_isub (pc := 69) dX13_spreadOf_69 (s_iconst (pc := 70) dX13_spreadOf_70 ci_2 (s_idiv (pc := 71) dX13_spreadOf_71 (by decide) (s_ireturn (pc := 72) dX13_spreadOf_72 rfl (Nat.zero_le _) (Nat.zero_le _) ⟨_, rfl, h14⟩)))))⟩
      | jj + 5, hx, hle => exact absurd hle (by omega))))))))))))))
/-! X13_spread -/
theorem dX13_spread_0 : cod mX13_spread 0 (.aload_n 0) 1 := by decide +kernel
theorem dX13_spread_1 : cod mX13_spread 1 (.iconst 0) 1 := by decide +kernel
theorem dX13_spread_2 : cod mX13_spread 2 (.putfield 115) 3 := by decide +kernel
theorem dX13_spread_5 : cod mX13_spread 5 (.aload_n 0) 1 := by decide +kernel
theorem dX13_spread_6 : cod mX13_spread 6 (.iload_n 1) 1 := by decide +kernel
theorem dX13_spread_7 : cod mX13_spread 7 (.invokevirtual 275) 3 := by decide +kernel
theorem dX13_spread_10 : cod mX13_spread 10 (.ifCond .ge 11) 3 := by decide +kernel
theorem dX13_spread_13 : cod mX13_spread 13 (.aload_n 0) 1 := by decide +kernel
theorem dX13_spread_14 : cod mX13_spread 14 (.iload_n 1) 1 := by decide +kernel
theorem dX13_spread_15 : cod mX13_spread 15 (.invokevirtual 275) 3 := by decide +kernel
theorem dX13_spread_18 : cod mX13_spread 18 (.goto 8) 3 := by decide +kernel
theorem dX13_spread_21 : cod mX13_spread 21 (.aload_n 0) 1 := by decide +kernel
theorem dX13_spread_22 : cod mX13_spread 22 (.iload_n 1) 1 := by decide +kernel
theorem dX13_spread_23 : cod mX13_spread 23 (.invokevirtual 392) 3 := by decide +kernel
theorem dX13_spread_26 : cod mX13_spread 26 (.ireturn) 1 := by decide +kernel
def wp_X13_spread (p0 : Nat) (p1 : Int32) (M : Mem) (Q : Int32 → Mem → Prop) : Prop := mK M p0 = 14 ∧ ∀ M1 : Mem, M1 = uI M p0 12 0 → wp_X13_wrongWay p0 p1 M1 (fun r6 M5 => ((0 : Int32) ≤ r6 → mK M5 p0 = 14 ∧ wp_X13_spreadOf p0 p1 M5 (fun r13 M12 => Q r13 M12)) ∧ (¬ (0 : Int32) ≤ r6 → mK M5 p0 = 14 ∧ wp_X13_wrongWay p0 p1 M5 (fun r16 M15 => Q r16 M15)))
theorem T_X13_spread {G : GG} {Q : Int32 → Mem → Prop} {M : Mem} {p0 : Nat} {p1 : Int32} (h : wp_X13_spread p0 p1 M Q) : PMet G mX13_spread 2 0 0 [.ref p0, .int p1] M (QI Q) :=
  mk_met (by decide) rfl rfl (by
    intro w hw x9 e9
    subst e9
    simp at hw) (Nat.le_of_ble_eq_true rfl) (s_pad (L1 := [some (.ref p0), some (.int p1)]) 2 rfl (s_aload_n (pc := 0) dX13_spread_0 rfl (s_iconst (pc := 1) dX13_spread_1 ci_0 (s_putI (pc := 2) dX13_spread_2 f_X13_115 (Or.inl rfl) (Or.inl rfl) h.1 (nmM (fun M1 e2 => have h3 := h.2 M1 e2; s_aload_n (pc := 5) dX13_spread_5 rfl (s_iload_n (pc := 6) dX13_spread_6 rfl (s_callV (pc := 7) (As := [.int p1]) (rest := []) (d' := 1) (mc' := 0) (ms' := 0) dX13_spread_7 c_X13_275 (Nat.le_of_ble_eq_true rfl) rfl ((congrFun (congrArg mK e2) p0).trans h.1) rfl rfl (Nat.le_of_ble_eq_true rfl) (rm_ok rfl rfl) ⟨Nat.le_refl 0, Nat.le_refl 0⟩ (T_X13_wrongWay h3) (kkI (fun r6 M5 h4 => s_if_ge (pc := 10) (tgt := 21) dX13_spread_10 rfl (fun c7 => have h8 := h4.1 c7; s_aload_n (pc := 21) dX13_spread_21 rfl (s_iload_n (pc := 22) dX13_spread_22 rfl (s_callV (pc := 23) (As := [.int p1]) (rest := []) (d' := 0) (mc' := 0) (ms' := 0) dX13_spread_23 c_X13_392 (Nat.le_of_ble_eq_true rfl) rfl h8.1 rfl rfl (Nat.le_of_ble_eq_true rfl) (rm_ok rfl rfl) ⟨Nat.le_refl 0, Nat.le_refl 0⟩ (T_X13_spreadOf h8.2) (kkI (fun r13 M12 h11 => s_ireturn (pc := 26) dX13_spread_26 rfl (Nat.zero_le _) (Nat.zero_le _) ⟨_, rfl, h11⟩))))) (fun c9 => have h10 := h4.2 c9; s_aload_n (pc := 13) dX13_spread_13 rfl (s_iload_n (pc := 14) dX13_spread_14 rfl (s_callV (pc := 15) (As := [.int p1]) (rest := []) (d' := 1) (mc' := 0) (ms' := 0) dX13_spread_15 c_X13_275 (Nat.le_of_ble_eq_true rfl) rfl h10.1 rfl rfl (Nat.le_of_ble_eq_true rfl) (rm_ok rfl rfl) ⟨Nat.le_refl 0, Nat.le_refl 0⟩ (T_X13_wrongWay h10.2) (kkI (fun r16 M15 h14 => s_goto (pc := 18) (tgt := 26) dX13_spread_18 rfl (s_ireturn (pc := 26) dX13_spread_26 rfl (Nat.zero_le _) (Nat.zero_le _) ⟨_, rfl, h14⟩))))))))))))))))
/-! X13_street -/
theorem dX13_street_0 : cod mX13_street 0 (.aload_n 0) 1 := by decide +kernel
theorem dX13_street_1 : cod mX13_street 1 (.iconst 0) 1 := by decide +kernel
theorem dX13_street_2 : cod mX13_street 2 (.putfield 115) 3 := by decide +kernel
theorem dX13_street_5 : cod mX13_street 5 (.aload_n 0) 1 := by decide +kernel
theorem dX13_street_6 : cod mX13_street 6 (.iload_n 1) 1 := by decide +kernel
theorem dX13_street_7 : cod mX13_street 7 (.invokevirtual 176) 3 := by decide +kernel
theorem dX13_street_10 : cod mX13_street 10 (.ifCond .ge 11) 3 := by decide +kernel
theorem dX13_street_13 : cod mX13_street 13 (.aload_n 0) 1 := by decide +kernel
theorem dX13_street_14 : cod mX13_street 14 (.iload_n 1) 1 := by decide +kernel
theorem dX13_street_15 : cod mX13_street 15 (.invokevirtual 176) 3 := by decide +kernel
theorem dX13_street_18 : cod mX13_street 18 (.goto 18) 3 := by decide +kernel
theorem dX13_street_21 : cod mX13_street 21 (.aload_n 0) 1 := by decide +kernel
theorem dX13_street_22 : cod mX13_street 22 (.getfield 103) 3 := by decide +kernel
theorem dX13_street_25 : cod mX13_street 25 (.iload_n 1) 1 := by decide +kernel
theorem dX13_street_26 : cod mX13_street 26 (.iaload) 1 := by decide +kernel
theorem dX13_street_27 : cod mX13_street 27 (.ifCond .eq 8) 3 := by decide +kernel
theorem dX13_street_30 : cod mX13_street 30 (.bipush (-12)) 2 := by decide +kernel
theorem dX13_street_32 : cod mX13_street 32 (.goto 4) 3 := by decide +kernel
theorem dX13_street_35 : cod mX13_street 35 (.iconst 0) 1 := by decide +kernel
theorem dX13_street_36 : cod mX13_street 36 (.istore_n 2) 1 := by decide +kernel
theorem dX13_street_37 : cod mX13_street 37 (.iload_n 2) 1 := by decide +kernel
theorem dX13_street_38 : cod mX13_street 38 (.ifCond .ge 5) 3 := by decide +kernel
theorem dX13_street_41 : cod mX13_street 41 (.iload_n 2) 1 := by decide +kernel
theorem dX13_street_42 : cod mX13_street 42 (.ireturn) 1 := by decide +kernel
theorem dX13_street_43 : cod mX13_street 43 (.aload_n 0) 1 := by decide +kernel
theorem dX13_street_44 : cod mX13_street 44 (.bipush 100) 2 := by decide +kernel
theorem dX13_street_46 : cod mX13_street 46 (.iload_n 1) 1 := by decide +kernel
theorem dX13_street_47 : cod mX13_street 47 (.imul) 1 := by decide +kernel
theorem dX13_street_48 : cod mX13_street 48 (.putfield 141) 3 := by decide +kernel
theorem dX13_street_51 : cod mX13_street 51 (.aload_n 0) 1 := by decide +kernel
theorem dX13_street_52 : cod mX13_street 52 (.aload_n 0) 1 := by decide +kernel
theorem dX13_street_53 : cod mX13_street 53 (.getfield 106) 3 := by decide +kernel
theorem dX13_street_56 : cod mX13_street 56 (.iload_n 1) 1 := by decide +kernel
theorem dX13_street_57 : cod mX13_street 57 (.iaload) 1 := by decide +kernel
theorem dX13_street_58 : cod mX13_street 58 (.putfield 138) 3 := by decide +kernel
theorem dX13_street_61 : cod mX13_street 61 (.aload_n 0) 1 := by decide +kernel
theorem dX13_street_62 : cod mX13_street 62 (.iconst 0) 1 := by decide +kernel
theorem dX13_street_63 : cod mX13_street 63 (.putfield 135) 3 := by decide +kernel
theorem dX13_street_66 : cod mX13_street 66 (.aload_n 0) 1 := by decide +kernel
theorem dX13_street_67 : cod mX13_street 67 (.iconst 0) 1 := by decide +kernel
theorem dX13_street_68 : cod mX13_street 68 (.putfield 144) 3 := by decide +kernel
theorem dX13_street_71 : cod mX13_street 71 (.aload_n 0) 1 := by decide +kernel
theorem dX13_street_72 : cod mX13_street 72 (.iconst 0) 1 := by decide +kernel
theorem dX13_street_73 : cod mX13_street 73 (.putfield 158) 3 := by decide +kernel
theorem dX13_street_76 : cod mX13_street 76 (.aload_n 0) 1 := by decide +kernel
theorem dX13_street_77 : cod mX13_street 77 (.getfield 144) 3 := by decide +kernel
theorem dX13_street_80 : cod mX13_street 80 (.ifCond .ne 28) 3 := by decide +kernel
theorem dX13_street_83 : cod mX13_street 83 (.aload_n 0) 1 := by decide +kernel
theorem dX13_street_84 : cod mX13_street 84 (.getfield 158) 3 := by decide +kernel
theorem dX13_street_87 : cod mX13_street 87 (.ifCond .eq 14) 3 := by decide +kernel
theorem dX13_street_90 : cod mX13_street 90 (.aload_n 0) 1 := by decide +kernel
theorem dX13_street_91 : cod mX13_street 91 (.getfield 135) 3 := by decide +kernel
theorem dX13_street_94 : cod mX13_street 94 (.aload_n 0) 1 := by decide +kernel
theorem dX13_street_95 : cod mX13_street 95 (.getfield 138) 3 := by decide +kernel
theorem dX13_street_98 : cod mX13_street 98 (.if_icmp .ge 10) 3 := by decide +kernel
theorem dX13_street_101 : cod mX13_street 101 (.aload_n 0) 1 := by decide +kernel
theorem dX13_street_102 : cod mX13_street 102 (.invokevirtual 180) 3 := by decide +kernel
theorem dX13_street_105 : cod mX13_street 105 (.goto (-29)) 3 := by decide +kernel
theorem dX13_street_108 : cod mX13_street 108 (.aload_n 0) 1 := by decide +kernel
theorem dX13_street_109 : cod mX13_street 109 (.getfield 144) 3 := by decide +kernel
theorem dX13_street_112 : cod mX13_street 112 (.ifCond .eq 12) 3 := by decide +kernel
theorem dX13_street_115 : cod mX13_street 115 (.sipush (-1000)) 3 := by decide +kernel
theorem dX13_street_118 : cod mX13_street 118 (.aload_n 0) 1 := by decide +kernel
theorem dX13_street_119 : cod mX13_street 119 (.getfield 135) 3 := by decide +kernel
theorem dX13_street_122 : cod mX13_street 122 (.isub) 1 := by decide +kernel
theorem dX13_street_123 : cod mX13_street 123 (.ireturn) 1 := by decide +kernel
theorem dX13_street_124 : cod mX13_street 124 (.aload_n 0) 1 := by decide +kernel
theorem dX13_street_125 : cod mX13_street 125 (.getfield 119) 3 := by decide +kernel
theorem dX13_street_128 : cod mX13_street 128 (.istore_n 3) 1 := by decide +kernel
theorem dX13_street_129 : cod mX13_street 129 (.aload_n 0) 1 := by decide +kernel
theorem dX13_street_130 : cod mX13_street 130 (.getfield 128) 3 := by decide +kernel
theorem dX13_street_133 : cod mX13_street 133 (.istore 4) 2 := by decide +kernel
theorem dX13_street_135 : cod mX13_street 135 (.aload_n 0) 1 := by decide +kernel
theorem dX13_street_136 : cod mX13_street 136 (.getfield 25) 3 := by decide +kernel
theorem dX13_street_139 : cod mX13_street 139 (.istore 5) 2 := by decide +kernel
theorem dX13_street_141 : cod mX13_street 141 (.aload_n 0) 1 := by decide +kernel
theorem dX13_street_142 : cod mX13_street 142 (.getfield 171) 3 := by decide +kernel
theorem dX13_street_145 : cod mX13_street 145 (.istore 6) 2 := by decide +kernel
theorem dX13_street_147 : cod mX13_street 147 (.aload_n 0) 1 := by decide +kernel
theorem dX13_street_148 : cod mX13_street 148 (.getfield 29) 3 := by decide +kernel
theorem dX13_street_151 : cod mX13_street 151 (.istore 7) 2 := by decide +kernel
theorem dX13_street_153 : cod mX13_street 153 (.iconst 0) 1 := by decide +kernel
theorem dX13_street_154 : cod mX13_street 154 (.istore 8) 2 := by decide +kernel
theorem dX13_street_156 : cod mX13_street 156 (.iload 8) 2 := by decide +kernel
theorem dX13_street_158 : cod mX13_street 158 (.aload_n 0) 1 := by decide +kernel
theorem dX13_street_159 : cod mX13_street 159 (.getfield 158) 3 := by decide +kernel
theorem dX13_street_162 : cod mX13_street 162 (.if_icmp .ge 59) 3 := by decide +kernel
theorem dX13_street_165 : cod mX13_street 165 (.aload_n 0) 1 := by decide +kernel
theorem dX13_street_166 : cod mX13_street 166 (.iload 8) 2 := by decide +kernel
theorem dX13_street_168 : cod mX13_street 168 (.invokevirtual 183) 3 := by decide +kernel
theorem dX13_street_171 : cod mX13_street 171 (.ifCond .ne 44) 3 := by decide +kernel
theorem dX13_street_174 : cod mX13_street 174 (.aload_n 0) 1 := by decide +kernel
theorem dX13_street_175 : cod mX13_street 175 (.iload_n 3) 1 := by decide +kernel
theorem dX13_street_176 : cod mX13_street 176 (.putfield 119) 3 := by decide +kernel
theorem dX13_street_179 : cod mX13_street 179 (.aload_n 0) 1 := by decide +kernel
theorem dX13_street_180 : cod mX13_street 180 (.iload 4) 2 := by decide +kernel
theorem dX13_street_182 : cod mX13_street 182 (.putfield 128) 3 := by decide +kernel
theorem dX13_street_185 : cod mX13_street 185 (.aload_n 0) 1 := by decide +kernel
theorem dX13_street_186 : cod mX13_street 186 (.iload 5) 2 := by decide +kernel
theorem dX13_street_188 : cod mX13_street 188 (.putfield 25) 3 := by decide +kernel
theorem dX13_street_191 : cod mX13_street 191 (.aload_n 0) 1 := by decide +kernel
theorem dX13_street_192 : cod mX13_street 192 (.iload 6) 2 := by decide +kernel
theorem dX13_street_194 : cod mX13_street 194 (.putfield 171) 3 := by decide +kernel
theorem dX13_street_197 : cod mX13_street 197 (.aload_n 0) 1 := by decide +kernel
theorem dX13_street_198 : cod mX13_street 198 (.iload 7) 2 := by decide +kernel
theorem dX13_street_200 : cod mX13_street 200 (.putfield 29) 3 := by decide +kernel
theorem dX13_street_203 : cod mX13_street 203 (.sipush (-2000)) 3 := by decide +kernel
theorem dX13_street_206 : cod mX13_street 206 (.aload_n 0) 1 := by decide +kernel
theorem dX13_street_207 : cod mX13_street 207 (.getfield 36) 3 := by decide +kernel
theorem dX13_street_210 : cod mX13_street 210 (.iload 8) 2 := by decide +kernel
theorem dX13_street_212 : cod mX13_street 212 (.iaload) 1 := by decide +kernel
theorem dX13_street_213 : cod mX13_street 213 (.isub) 1 := by decide +kernel
theorem dX13_street_214 : cod mX13_street 214 (.ireturn) 1 := by decide +kernel
theorem dX13_street_215 : cod mX13_street 215 (.iinc 8 1) 3 := by decide +kernel
theorem dX13_street_218 : cod mX13_street 218 (.goto (-62)) 3 := by decide +kernel
theorem dX13_street_221 : cod mX13_street 221 (.aload_n 0) 1 := by decide +kernel
theorem dX13_street_222 : cod mX13_street 222 (.invokevirtual 187) 3 := by decide +kernel
theorem dX13_street_225 : cod mX13_street 225 (.aload_n 0) 1 := by decide +kernel
theorem dX13_street_226 : cod mX13_street 226 (.getfield 158) 3 := by decide +kernel
theorem dX13_street_229 : cod mX13_street 229 (.ireturn) 1 := by decide +kernel
def lp_X13_street_156 (Q : Int32 → Mem → Prop) : Nat → Nat → Int32 → Int32 → Int32 → Int32 → Int32 → Int32 → Mem → Prop
  | 0 => fun _ _ _ _ _ _ _ _ => False
  | n + 1 => fun x0 x3 x4 x5 x6 x7 x8 M => mK M x0 = 14 ∧ ((mI M x0 17) ≤ x8 → wp_X13_thinkAnew x0 M (fun M62 => mK M62 x0 = 14 ∧ Q (mI M62 x0 17) M62)) ∧ (¬ (mI M x0 17) ≤ x8 → wp_X13_comes x0 x8 M (fun r65 M64 => (¬ r65 = (0 : Int32) → (lp_X13_street_156 Q n) x0 x3 x4 x5 x6 x7 (x8 + 1) M64) ∧ (r65 = (0 : Int32) → mK M64 x0 = 14 ∧ ∀ M70 : Mem, M70 = uI M64 x0 0 x3 → ∀ M73 : Mem, M73 = uI M70 x0 3 x4 → ∀ M76 : Mem, M76 = uI M73 x0 7 x5 → ∀ M79 : Mem, M79 = uI M76 x0 8 x6 → ∀ M82 : Mem, M82 = uI M79 x0 9 x7 → mK M82 (mR M82 x0 18) = 20 ∧ vp_in x8 (mN M82 (mR M82 x0 18)) ∧ Q ((-2000) - (mI M82 (mR M82 x0 18) x8.toNatClampNeg)) M82)))
theorem P_lp_X13_street_156 {G : GG} {Q : Int32 → Mem → Prop} : ∀ (n : Nat) (x0 : Nat) (x3 : Int32) (x4 : Int32) (x5 : Int32) (x6 : Int32) (x7 : Int32) (x8 : Int32) (M : Mem), lp_X13_street_156 Q n x0 x3 x4 x5 x6 x7 x8 M → PW G mX13_street (rmD 4 0 0) (QI Q) 156 [some (.ref x0), none, none, some (.int x3), some (.int x4), some (.int x5), some (.int x6), some (.int x7), some (.int x8)] [] M 0 0 := by
  intro n
  induction n with
  | zero => intro x0 x3 x4 x5 x6 x7 x8 M h; exact h.elim
  | succ n ih =>
    intro x0 x3 x4 x5 x6 x7 x8 M h
    exact (s_iload (pc := 156) dX13_street_156 rfl (s_aload_n (pc := 158) dX13_street_158 rfl (s_getI (pc := 159) dX13_street_159 f_X13_158 rfl h.1 (s_icmp_ge (pc := 162) (tgt := 221) dX13_street_162 rfl (fun c57 => have h58 := h.2.1 c57; s_aload_n (pc := 221) dX13_street_221 rfl (s_callV (pc := 222) (As := []) (rest := []) (d' := 0) (mc' := 0) (ms' := 0) dX13_street_222 c_X13_187 (Nat.le_of_ble_eq_true rfl) rfl h.1 rfl rfl (Nat.le_of_ble_eq_true rfl) (rm_ok rfl rfl) ⟨Nat.le_refl 0, Nat.le_refl 0⟩ (T_X13_thinkAnew h58) (kkV (fun M62 h61 => s_aload_n (pc := 225) dX13_street_225 rfl (s_getI (pc := 226) dX13_street_226 f_X13_158 rfl h61.1 (s_ireturn (pc := 229) dX13_street_229 rfl (Nat.zero_le _) (Nat.zero_le _) ⟨_, rfl, h61.2⟩)))))) (fun c59 => have h60 := h.2.2 c59; s_aload_n (pc := 165) dX13_street_165 rfl (s_iload (pc := 166) dX13_street_166 rfl (s_callV (pc := 168) (As := [.int x8]) (rest := []) (d' := 1) (mc' := 0) (ms' := 0) dX13_street_168 c_X13_183 (Nat.le_of_ble_eq_true rfl) rfl h.1 rfl rfl (Nat.le_of_ble_eq_true rfl) (rm_ok rfl rfl) ⟨Nat.le_refl 0, Nat.le_refl 0⟩ (T_X13_comes h60) (kkI (fun r65 M64 h63 => s_if_ne (pc := 171) (tgt := 215) dX13_street_171 rfl (fun c66 => have h67 := h63.1 c66; s_iinc (pc := 215) (L1 := [some (.ref x0), none, none, some (.int x3), some (.int x4), some (.int x5), some (.int x6), some (.int x7), some (.int (x8 + 1))]) dX13_street_215 rfl ci_1 (Nat.le_of_ble_eq_true rfl) rfl (s_goto (pc := 218) (tgt := 156) dX13_street_218 rfl (s_sel (L1 := [some (.ref x0), none, none, some (.int x3), some (.int x4), some (.int x5), some (.int x6), some (.int x7), some (.int (x8 + 1))]) [true, false, false, true, true, true, true, true, true] rfl (ih x0 x3 x4 x5 x6 x7 (x8 + 1) M64 h67)))) (fun c68 => have h69 := h63.2 c68; s_aload_n (pc := 174) dX13_street_174 rfl (s_iload_n (pc := 175) dX13_street_175 rfl (s_putI (pc := 176) dX13_street_176 f_X13_119 (Or.inl rfl) (Or.inl rfl) h69.1 (nmM (fun M70 e71 => have h72 := h69.2 M70 e71; s_aload_n (pc := 179) dX13_street_179 rfl (s_iload (pc := 180) dX13_street_180 rfl (s_putI (pc := 182) dX13_street_182 f_X13_128 (Or.inl rfl) (Or.inl rfl) ((congrFun (congrArg mK e71) x0).trans h69.1) (nmM (fun M73 e74 => have h75 := h72 M73 e74; s_aload_n (pc := 185) dX13_street_185 rfl (s_iload (pc := 186) dX13_street_186 rfl (s_putI (pc := 188) dX13_street_188 f_X13_25 (Or.inl rfl) (Or.inl rfl) ((congrFun (congrArg mK e74) x0).trans ((congrFun (congrArg mK e71) x0).trans h69.1)) (nmM (fun M76 e77 => have h78 := h75 M76 e77; s_aload_n (pc := 191) dX13_street_191 rfl (s_iload (pc := 192) dX13_street_192 rfl (s_putI (pc := 194) dX13_street_194 f_X13_171 (Or.inl rfl) (Or.inl rfl) ((congrFun (congrArg mK e77) x0).trans ((congrFun (congrArg mK e74) x0).trans ((congrFun (congrArg mK e71) x0).trans h69.1))) (nmM (fun M79 e80 => have h81 := h78 M79 e80; s_aload_n (pc := 197) dX13_street_197 rfl (s_iload (pc := 198) dX13_street_198 rfl (s_putI (pc := 200) dX13_street_200 f_X13_29 (Or.inl rfl) (Or.inl rfl) ((congrFun (congrArg mK e80) x0).trans ((congrFun (congrArg mK e77) x0).trans ((congrFun (congrArg mK e74) x0).trans ((congrFun (congrArg mK e71) x0).trans h69.1)))) (nmM (fun M82 e83 => have h84 := h81 M82 e83; s_sipush (pc := 203) dX13_street_203 cs_m2000 (s_aload_n (pc := 206) dX13_street_206 rfl (s_getR (pc := 207) dX13_street_207 f_X13_36 rfl ((congrFun (congrArg mK e83) x0).trans ((congrFun (congrArg mK e80) x0).trans ((congrFun (congrArg mK e77) x0).trans ((congrFun (congrArg mK e74) x0).trans ((congrFun (congrArg mK e71) x0).trans h69.1))))) (s_iload (pc := 210) dX13_street_210 rfl (s_ial (pc := 212) dX13_street_212 h84.1 h84.2.1 (s_isub (pc := 213) dX13_street_213 (s_ireturn (pc := 214) dX13_street_214 rfl (Nat.zero_le _) (Nat.zero_le _) ⟨_, rfl, h84.2.2⟩))))))))))))))))))))))))))))))))))))
def jn_X13_street_108 (Q : Int32 → Mem → Prop) (x0 : Nat) (M : Mem) : Prop := mK M x0 = 14 ∧ ((mI M x0 16) = (0 : Int32) → ∀ y42 : Int32, y42 = mI M x0 0 → ∀ y45 : Int32, y45 = mI M x0 3 → ∀ y48 : Int32, y48 = mI M x0 7 → ∀ y51 : Int32, y51 = mI M x0 8 → ∀ y54 : Int32, y54 = mI M x0 9 → ∃ n85 : Nat, lp_X13_street_156 Q n85 x0 y42 y45 y48 y51 y54 0 M) ∧ (¬ (mI M x0 16) = (0 : Int32) → Q ((-1000) - (mI M x0 15)) M)
theorem P_jn_X13_street_108 {G : GG} {Q : Int32 → Mem → Prop} (x0 : Nat) (M : Mem) (h : jn_X13_street_108 Q x0 M) : PW G mX13_street (rmD 4 0 0) (QI Q) 108 [some (.ref x0), none, none, none, none, none, none, none, none] [] M 0 0 := (s_aload_n (pc := 108) dX13_street_108 rfl (s_getI (pc := 109) dX13_street_109 f_X13_144 rfl h.1 (s_if_eq (pc := 112) (tgt := 124) dX13_street_112 rfl (fun c38 => have h39 := h.2.1 c38; s_aload_n (pc := 124) dX13_street_124 rfl (s_getI (pc := 125) dX13_street_125 f_X13_119 rfl h.1 (nmI (fun y42 e43 => have h44 := h39 y42 e43; s_istore_n (pc := 128) (L1 := [some (.ref x0), none, none, some (.int y42), none, none, none, none, none]) dX13_street_128 (Nat.le_of_ble_eq_true rfl) rfl (s_aload_n (pc := 129) dX13_street_129 rfl (s_getI (pc := 130) dX13_street_130 f_X13_128 rfl h.1 (nmI (fun y45 e46 => have h47 := h44 y45 e46; s_istore (pc := 133) (L1 := [some (.ref x0), none, none, some (.int y42), some (.int y45), none, none, none, none]) dX13_street_133 (Nat.le_of_ble_eq_true rfl) rfl (s_aload_n (pc := 135) dX13_street_135 rfl (s_getI (pc := 136) dX13_street_136 f_X13_25 rfl h.1 (nmI (fun y48 e49 => have h50 := h47 y48 e49; s_istore (pc := 139) (L1 := [some (.ref x0), none, none, some (.int y42), some (.int y45), some (.int y48), none, none, none]) dX13_street_139 (Nat.le_of_ble_eq_true rfl) rfl (s_aload_n (pc := 141) dX13_street_141 rfl (s_getI (pc := 142) dX13_street_142 f_X13_171 rfl h.1 (nmI (fun y51 e52 => have h53 := h50 y51 e52; s_istore (pc := 145) (L1 := [some (.ref x0), none, none, some (.int y42), some (.int y45), some (.int y48), some (.int y51), none, none]) dX13_street_145 (Nat.le_of_ble_eq_true rfl) rfl (s_aload_n (pc := 147) dX13_street_147 rfl (s_getI (pc := 148) dX13_street_148 f_X13_29 rfl h.1 (nmI (fun y54 e55 => have h56 := h53 y54 e55; s_istore (pc := 151) (L1 := [some (.ref x0), none, none, some (.int y42), some (.int y45), some (.int y48), some (.int y51), some (.int y54), none]) dX13_street_151 (Nat.le_of_ble_eq_true rfl) rfl (s_iconst (pc := 153) dX13_street_153 ci_0 (s_istore (pc := 154) (L1 := [some (.ref x0), none, none, some (.int y42), some (.int y45), some (.int y48), some (.int y51), some (.int y54), some (.int 0)]) dX13_street_154 (Nat.le_of_ble_eq_true rfl) rfl (Exists.elim h56 (fun n85 hn => s_sel (L1 := [some (.ref x0), none, none, some (.int y42), some (.int y45), some (.int y48), some (.int y51), some (.int y54), some (.int 0)]) [true, false, false, true, true, true, true, true, true] rfl (P_lp_X13_street_156 n85 x0 y42 y45 y48 y51 y54 0 M hn))))))))))))))))))))))))) (fun c40 => have h41 := h.2.2 c40; s_sipush (pc := 115) dX13_street_115 cs_m1000 (s_aload_n (pc := 118) dX13_street_118 rfl (s_getI (pc := 119) dX13_street_119 f_X13_135 rfl h.1 (s_isub (pc := 122) dX13_street_122 (s_ireturn (pc := 123) dX13_street_123 rfl (Nat.zero_le _) (Nat.zero_le _) ⟨_, rfl, h41⟩))))))))
def jn_X13_street_101 (K76 : Nat → Mem → Prop) (Q : Int32 → Mem → Prop) (x0 : Nat) (M : Mem) : Prop := mK M x0 = 14 ∧ wp_X13_readStatement x0 M (fun M91 => K76 x0 M91)
theorem P_jn_X13_street_101 {G : GG} {K76 : Nat → Mem → Prop} {Q : Int32 → Mem → Prop} (hK76 : ∀ (x0 : Nat) (M : Mem), K76 x0 M → PW G mX13_street (rmD 4 0 0) (QI Q) 76 [some (.ref x0), none, none, none, none, none, none, none, none] [] M 0 0) (x0 : Nat) (M : Mem) (h : jn_X13_street_101 K76 Q x0 M) : PW G mX13_street (rmD 4 0 0) (QI Q) 101 [some (.ref x0), none, none, none, none, none, none, none, none] [] M 0 0 := (s_aload_n (pc := 101) dX13_street_101 rfl (s_callV (pc := 102) (As := []) (rest := []) (d' := 3) (mc' := 0) (ms' := 0) dX13_street_102 c_X13_180 (Nat.le_of_ble_eq_true rfl) rfl h.1 rfl rfl (Nat.le_of_ble_eq_true rfl) (rm_ok rfl rfl) ⟨Nat.le_refl 0, Nat.le_refl 0⟩ (T_X13_readStatement h.2) (kkV (fun M91 h90 => s_goto (pc := 105) (tgt := 76) dX13_street_105 rfl (s_sel (L1 := [some (.ref x0), none, none, none, none, none, none, none, none]) [true, false, false, false, false, false, false, false, false] rfl (hK76 x0 M91 h90))))))
def lp_X13_street_76 (Q : Int32 → Mem → Prop) : Nat → Nat → Mem → Prop
  | 0 => fun _ _ => False
  | n + 1 => fun x0 M => mK M x0 = 14 ∧ (¬ (mI M x0 16) = (0 : Int32) → jn_X13_street_108 Q x0 M) ∧ ((mI M x0 16) = (0 : Int32) → ((mI M x0 17) = (0 : Int32) → jn_X13_street_101 (fun fx0 fM => lp_X13_street_76 Q n fx0 fM) Q x0 M) ∧ (¬ (mI M x0 17) = (0 : Int32) → ((mI M x0 14) ≤ (mI M x0 15) → jn_X13_street_108 Q x0 M) ∧ (¬ (mI M x0 14) ≤ (mI M x0 15) → jn_X13_street_101 (fun fx0 fM => lp_X13_street_76 Q n fx0 fM) Q x0 M)))
theorem P_lp_X13_street_76 {G : GG} {Q : Int32 → Mem → Prop} : ∀ (n : Nat) (x0 : Nat) (M : Mem), lp_X13_street_76 Q n x0 M → PW G mX13_street (rmD 4 0 0) (QI Q) 76 [some (.ref x0), none, none, none, none, none, none, none, none] [] M 0 0 := by
  intro n
  induction n with
  | zero => intro x0 M h; exact h.elim
  | succ n ih =>
    intro x0 M h
    exact (s_aload_n (pc := 76) dX13_street_76 rfl (s_getI (pc := 77) dX13_street_77 f_X13_144 rfl h.1 (s_if_ne (pc := 80) (tgt := 108) dX13_street_80 rfl (fun c34 => have h35 := h.2.1 c34; s_sel (L1 := [some (.ref x0), none, none, none, none, none, none, none, none]) [true, false, false, false, false, false, false, false, false] rfl (P_jn_X13_street_108 x0 M h35)) (fun c36 => have h37 := h.2.2 c36; s_aload_n (pc := 83) dX13_street_83 rfl (s_getI (pc := 84) dX13_street_84 f_X13_158 rfl h.1 (s_if_eq (pc := 87) (tgt := 101) dX13_street_87 rfl (fun c86 => have h87 := h37.1 c86; s_sel (L1 := [some (.ref x0), none, none, none, none, none, none, none, none]) [true, false, false, false, false, false, false, false, false] rfl (P_jn_X13_street_101 ih x0 M h87)) (fun c88 => have h89 := h37.2 c88; s_aload_n (pc := 90) dX13_street_90 rfl (s_getI (pc := 91) dX13_street_91 f_X13_135 rfl h.1 (s_aload_n (pc := 94) dX13_street_94 rfl (s_getI (pc := 95) dX13_street_95 f_X13_138 rfl h.1 (s_icmp_ge (pc := 98) (tgt := 108) dX13_street_98 rfl (fun c92 => have h93 := h89.1 c92; s_sel (L1 := [some (.ref x0), none, none, none, none, none, none, none, none]) [true, false, false, false, false, false, false, false, false] rfl (P_jn_X13_street_108 x0 M h93)) (fun c94 => have h95 := h89.2 c94; s_sel (L1 := [some (.ref x0), none, none, none, none, none, none, none, none]) [true, false, false, false, false, false, false, false, false] rfl (P_jn_X13_street_101 ih x0 M h95)))))))))))))
def jn_X13_street_36 (Q : Int32 → Mem → Prop) (x0 : Nat) (x1 : Int32) (s0 : Int32) (M : Mem) : Prop := ((0 : Int32) ≤ s0 → mK M x0 = 14 ∧ ∀ M19 : Mem, M19 = uI M x0 13 (100 * x1) → mK M19 (mR M19 x0 53) = 20 ∧ vp_in x1 (mN M19 (mR M19 x0 53)) ∧ ∀ M22 : Mem, M22 = uI M19 x0 14 (mI M19 (mR M19 x0 53) x1.toNatClampNeg) → ∀ M25 : Mem, M25 = uI M22 x0 15 0 → ∀ M28 : Mem, M28 = uI M25 x0 16 0 → ∀ M31 : Mem, M31 = uI M28 x0 17 0 → ∃ n96 : Nat, lp_X13_street_76 Q n96 x0 M31) ∧ (¬ (0 : Int32) ≤ s0 → Q s0 M)
theorem P_jn_X13_street_36 {G : GG} {Q : Int32 → Mem → Prop} (x0 : Nat) (x1 : Int32) (s0 : Int32) (M : Mem) (h : jn_X13_street_36 Q x0 x1 s0 M) : PW G mX13_street (rmD 4 0 0) (QI Q) 36 [some (.ref x0), some (.int x1), none, none, none, none, none, none, none] [.int s0] M 0 0 := (s_istore_n (pc := 36) (L1 := [some (.ref x0), some (.int x1), some (.int s0), none, none, none, none, none, none]) dX13_street_36 (Nat.le_of_ble_eq_true rfl) rfl (s_iload_n (pc := 37) dX13_street_37 rfl (s_if_ge (pc := 38) (tgt := 43) dX13_street_38 rfl (fun c15 => have h16 := h.1 c15; s_aload_n (pc := 43) dX13_street_43 rfl (s_bipush (pc := 44) dX13_street_44 cb_100 (s_iload_n (pc := 46) dX13_street_46 rfl (s_imul (pc := 47) dX13_street_47 (s_putI (pc := 48) dX13_street_48 f_X13_141 (Or.inl rfl) (Or.inl rfl) h16.1 (nmM (fun M19 e20 => have h21 := h16.2 M19 e20; s_aload_n (pc := 51) dX13_street_51 rfl (s_aload_n (pc := 52) dX13_street_52 rfl (s_getR (pc := 53) dX13_street_53 f_X13_106 rfl ((congrFun (congrArg mK e20) x0).trans h16.1) (s_iload_n (pc := 56) dX13_street_56 rfl (s_ial (pc := 57) dX13_street_57 h21.1 h21.2.1 (s_putI (pc := 58) dX13_street_58 f_X13_138 (Or.inl rfl) (Or.inl rfl) ((congrFun (congrArg mK e20) x0).trans h16.1) (nmM (fun M22 e23 => have h24 := h21.2.2 M22 e23; s_aload_n (pc := 61) dX13_street_61 rfl (s_iconst (pc := 62) dX13_street_62 ci_0 (s_putI (pc := 63) dX13_street_63 f_X13_135 (Or.inl rfl) (Or.inl rfl) ((congrFun (congrArg mK e23) x0).trans ((congrFun (congrArg mK e20) x0).trans h16.1)) (nmM (fun M25 e26 => have h27 := h24 M25 e26; s_aload_n (pc := 66) dX13_street_66 rfl (s_iconst (pc := 67) dX13_street_67 ci_0 (s_putI (pc := 68) dX13_street_68 f_X13_144 (Or.inl rfl) (Or.inr ⟨rfl, Or.inl rfl⟩) ((congrFun (congrArg mK e26) x0).trans ((congrFun (congrArg mK e23) x0).trans ((congrFun (congrArg mK e20) x0).trans h16.1))) (nmM (fun M28 e29 => have h30 := h27 M28 e29; s_aload_n (pc := 71) dX13_street_71 rfl (s_iconst (pc := 72) dX13_street_72 ci_0 (s_putI (pc := 73) dX13_street_73 f_X13_158 (Or.inl rfl) (Or.inl rfl) ((congrFun (congrArg mK e29) x0).trans ((congrFun (congrArg mK e26) x0).trans ((congrFun (congrArg mK e23) x0).trans ((congrFun (congrArg mK e20) x0).trans h16.1)))) (nmM (fun M31 e32 => have h33 := h30 M31 e32; Exists.elim h33 (fun n96 hn => s_sel (L1 := [some (.ref x0), none, none, none, none, none, none, none, none]) [true, false, false, false, false, false, false, false, false] rfl (P_lp_X13_street_76 n96 x0 M31 hn)))))))))))))))))))))))))))) (fun c17 => have h18 := h.2 c17; s_iload_n (pc := 41) dX13_street_41 rfl (s_ireturn (pc := 42) dX13_street_42 rfl (Nat.zero_le _) (Nat.zero_le _) ⟨_, rfl, h18⟩)))))
def wp_X13_street (p0 : Nat) (p1 : Int32) (M : Mem) (Q : Int32 → Mem → Prop) : Prop := mK M p0 = 14 ∧ ∀ M1 : Mem, M1 = uI M p0 12 0 → wp_X13_wrongRow p0 p1 M1 (fun r6 M5 => ((0 : Int32) ≤ r6 → mK M5 p0 = 14 ∧ mK M5 (mR M5 p0 52) = 20 ∧ vp_in p1 (mN M5 (mR M5 p0 52)) ∧ ((mI M5 (mR M5 p0 52) p1.toNatClampNeg) = (0 : Int32) → jn_X13_street_36 Q p0 p1 0 M5) ∧ (¬ (mI M5 (mR M5 p0 52) p1.toNatClampNeg) = (0 : Int32) → jn_X13_street_36 Q p0 p1 (-12) M5)) ∧ (¬ (0 : Int32) ≤ r6 → mK M5 p0 = 14 ∧ wp_X13_wrongRow p0 p1 M5 (fun r99 M98 => jn_X13_street_36 Q p0 p1 r99 M98)))
theorem T_X13_street {G : GG} {Q : Int32 → Mem → Prop} {M : Mem} {p0 : Nat} {p1 : Int32} (h : wp_X13_street p0 p1 M Q) : PMet G mX13_street 4 0 0 [.ref p0, .int p1] M (QI Q) :=
  mk_met (by decide) rfl rfl (by
    intro w hw x9 e9
    subst e9
    simp at hw) (Nat.le_of_ble_eq_true rfl) (s_pad (L1 := [some (.ref p0), some (.int p1), none, none, none, none, none, none, none]) 9 rfl (s_aload_n (pc := 0) dX13_street_0 rfl (s_iconst (pc := 1) dX13_street_1 ci_0 (s_putI (pc := 2) dX13_street_2 f_X13_115 (Or.inl rfl) (Or.inl rfl) h.1 (nmM (fun M1 e2 => have h3 := h.2 M1 e2; s_aload_n (pc := 5) dX13_street_5 rfl (s_iload_n (pc := 6) dX13_street_6 rfl (s_callV (pc := 7) (As := [.int p1]) (rest := []) (d' := 1) (mc' := 0) (ms' := 0) dX13_street_7 c_X13_176 (Nat.le_of_ble_eq_true rfl) rfl ((congrFun (congrArg mK e2) p0).trans h.1) rfl rfl (Nat.le_of_ble_eq_true rfl) (rm_ok rfl rfl) ⟨Nat.le_refl 0, Nat.le_refl 0⟩ (T_X13_wrongRow h3) (kkI (fun r6 M5 h4 => s_if_ge (pc := 10) (tgt := 21) dX13_street_10 rfl (fun c7 => have h8 := h4.1 c7; s_aload_n (pc := 21) dX13_street_21 rfl (s_getR (pc := 22) dX13_street_22 f_X13_103 rfl h8.1 (s_iload_n (pc := 25) dX13_street_25 rfl (s_ial (pc := 26) dX13_street_26 h8.2.1 h8.2.2.1 (s_if_eq (pc := 27) (tgt := 35) dX13_street_27 rfl (fun c11 => have h12 := h8.2.2.2.1 c11; s_iconst (pc := 35) dX13_street_35 ci_0 (s_sel (L1 := [some (.ref p0), some (.int p1), none, none, none, none, none, none, none]) [true, true, false, false, false, false, false, false, false] rfl (P_jn_X13_street_36 p0 p1 0 M5 h12))) (fun c13 => have h14 := h8.2.2.2.2 c13; s_bipush (pc := 30) dX13_street_30 cb_m12 (s_goto (pc := 32) (tgt := 36) dX13_street_32 rfl (s_sel (L1 := [some (.ref p0), some (.int p1), none, none, none, none, none, none, none]) [true, true, false, false, false, false, false, false, false] rfl (P_jn_X13_street_36 p0 p1 (-12) M5 h14))))))))) (fun c9 => have h10 := h4.2 c9; s_aload_n (pc := 13) dX13_street_13 rfl (s_iload_n (pc := 14) dX13_street_14 rfl (s_callV (pc := 15) (As := [.int p1]) (rest := []) (d' := 1) (mc' := 0) (ms' := 0) dX13_street_15 c_X13_176 (Nat.le_of_ble_eq_true rfl) rfl h10.1 rfl rfl (Nat.le_of_ble_eq_true rfl) (rm_ok rfl rfl) ⟨Nat.le_refl 0, Nat.le_refl 0⟩ (T_X13_wrongRow h10.2) (kkI (fun r99 M98 h97 => s_goto (pc := 18) (tgt := 36) dX13_street_18 rfl (s_sel (L1 := [some (.ref p0), some (.int p1), none, none, none, none, none, none, none]) [true, true, false, false, false, false, false, false, false] rfl (P_jn_X13_street_36 p0 p1 r99 M98 h97)))))))))))))))))
/-! X13_streets -/
theorem dX13_streets_0 : cod mX13_streets 0 (.aload_n 0) 1 := by decide +kernel
theorem dX13_streets_1 : cod mX13_streets 1 (.iconst 0) 1 := by decide +kernel
theorem dX13_streets_2 : cod mX13_streets 2 (.putfield 115) 3 := by decide +kernel
theorem dX13_streets_5 : cod mX13_streets 5 (.iload_n 1) 1 := by decide +kernel
theorem dX13_streets_6 : cod mX13_streets 6 (.iload_n 2) 1 := by decide +kernel
theorem dX13_streets_7 : cod mX13_streets 7 (.invokestatic 202) 3 := by decide +kernel
theorem dX13_streets_10 : cod mX13_streets 10 (.ifCond .eq 12) 3 := by decide +kernel
theorem dX13_streets_13 : cod mX13_streets 13 (.iload_n 3) 1 := by decide +kernel
theorem dX13_streets_14 : cod mX13_streets 14 (.iload 4) 2 := by decide +kernel
theorem dX13_streets_16 : cod mX13_streets 16 (.invokestatic 202) 3 := by decide +kernel
theorem dX13_streets_19 : cod mX13_streets 19 (.ifCond .ne 5) 3 := by decide +kernel
theorem dX13_streets_22 : cod mX13_streets 22 (.iconst (-1)) 1 := by decide +kernel
theorem dX13_streets_23 : cod mX13_streets 23 (.ireturn) 1 := by decide +kernel
theorem dX13_streets_24 : cod mX13_streets 24 (.iload_n 3) 1 := by decide +kernel
theorem dX13_streets_25 : cod mX13_streets 25 (.iload_n 2) 1 := by decide +kernel
theorem dX13_streets_26 : cod mX13_streets 26 (.isub) 1 := by decide +kernel
theorem dX13_streets_27 : cod mX13_streets 27 (.istore 5) 2 := by decide +kernel
theorem dX13_streets_29 : cod mX13_streets 29 (.iload_n 1) 1 := by decide +kernel
theorem dX13_streets_30 : cod mX13_streets 30 (.iload 4) 2 := by decide +kernel
theorem dX13_streets_32 : cod mX13_streets 32 (.isub) 1 := by decide +kernel
theorem dX13_streets_33 : cod mX13_streets 33 (.istore 6) 2 := by decide +kernel
theorem dX13_streets_35 : cod mX13_streets 35 (.iload 5) 2 := by decide +kernel
theorem dX13_streets_37 : cod mX13_streets 37 (.iload 6) 2 := by decide +kernel
theorem dX13_streets_39 : cod mX13_streets 39 (.if_icmp .le 8) 3 := by decide +kernel
theorem dX13_streets_42 : cod mX13_streets 42 (.iload 5) 2 := by decide +kernel
theorem dX13_streets_44 : cod mX13_streets 44 (.goto 5) 3 := by decide +kernel
theorem dX13_streets_47 : cod mX13_streets 47 (.iload 6) 2 := by decide +kernel
theorem dX13_streets_49 : cod mX13_streets 49 (.istore 7) 2 := by decide +kernel
theorem dX13_streets_51 : cod mX13_streets 51 (.iload 7) 2 := by decide +kernel
theorem dX13_streets_53 : cod mX13_streets 53 (.ifCond .le 8) 3 := by decide +kernel
theorem dX13_streets_56 : cod mX13_streets 56 (.iload 7) 2 := by decide +kernel
theorem dX13_streets_58 : cod mX13_streets 58 (.goto 4) 3 := by decide +kernel
theorem dX13_streets_61 : cod mX13_streets 61 (.iconst 0) 1 := by decide +kernel
theorem dX13_streets_62 : cod mX13_streets 62 (.ireturn) 1 := by decide +kernel
def jn_X13_streets_49 (Q : Int32 → Mem → Prop) (s0 : Int32) (M : Mem) : Prop := (s0 ≤ (0 : Int32) → Q 0 M) ∧ (¬ s0 ≤ (0 : Int32) → Q s0 M)
theorem P_jn_X13_streets_49 {G : GG} {Q : Int32 → Mem → Prop} (s0 : Int32) (M : Mem) (h : jn_X13_streets_49 Q s0 M) : PW G mX13_streets (rmD 2 0 0) (QI Q) 49 [none, none, none, none, none, none, none, none] [.int s0] M 0 0 := (s_istore (pc := 49) (L1 := [none, none, none, none, none, none, none, some (.int s0)]) dX13_streets_49 (Nat.le_of_ble_eq_true rfl) rfl (s_iload (pc := 51) dX13_streets_51 rfl (s_if_le (pc := 53) (tgt := 61) dX13_streets_53 rfl (fun c28 => have h29 := h.1 c28; s_iconst (pc := 61) dX13_streets_61 ci_0 (s_ireturn (pc := 62) dX13_streets_62 rfl (Nat.zero_le _) (Nat.zero_le _) ⟨_, rfl, h29⟩)) (fun c30 => have h31 := h.2 c30; s_iload (pc := 56) dX13_streets_56 rfl (s_goto (pc := 58) (tgt := 62) dX13_streets_58 rfl (s_ireturn (pc := 62) dX13_streets_62 rfl (Nat.zero_le _) (Nat.zero_le _) ⟨_, rfl, h31⟩))))))
def wp_X13_streets (p0 : Nat) (p1 : Int32) (p2 : Int32) (p3 : Int32) (p4 : Int32) (M : Mem) (Q : Int32 → Mem → Prop) : Prop := mK M p0 = 14 ∧ ∀ M1 : Mem, M1 = uI M p0 12 0 → wp_X13_isSlate p1 p2 M1 (fun r6 M5 => (r6 = (0 : Int32) → Q (-1) M5) ∧ (¬ r6 = (0 : Int32) → wp_X13_isSlate p3 p4 M5 (fun r13 M12 => (¬ r13 = (0 : Int32) → ∀ y18 : Int32, y18 = p3 - p2 → ∀ y21 : Int32, y21 = p1 - p4 → (y18 ≤ y21 → jn_X13_streets_49 Q y21 M12) ∧ (¬ y18 ≤ y21 → jn_X13_streets_49 Q y18 M12)) ∧ (r13 = (0 : Int32) → Q (-1) M12))))
theorem T_X13_streets {G : GG} {Q : Int32 → Mem → Prop} {M : Mem} {p0 : Nat} {p1 : Int32} {p2 : Int32} {p3 : Int32} {p4 : Int32} (h : wp_X13_streets p0 p1 p2 p3 p4 M Q) : PMet G mX13_streets 2 0 0 [.ref p0, .int p1, .int p2, .int p3, .int p4] M (QI Q) :=
  mk_met (by decide) rfl rfl (by
    intro w hw x9 e9
    subst e9
    simp at hw) (Nat.le_of_ble_eq_true rfl) (s_pad (L1 := [some (.ref p0), some (.int p1), some (.int p2), some (.int p3), some (.int p4), none, none, none]) 8 rfl (s_aload_n (pc := 0) dX13_streets_0 rfl (s_iconst (pc := 1) dX13_streets_1 ci_0 (s_putI (pc := 2) dX13_streets_2 f_X13_115 (Or.inl rfl) (Or.inl rfl) h.1 (nmM (fun M1 e2 => have h3 := h.2 M1 e2; s_iload_n (pc := 5) dX13_streets_5 rfl (s_iload_n (pc := 6) dX13_streets_6 rfl (s_callS (pc := 7) (As := [.int p1, .int p2]) (rest := []) (d' := 1) (mc' := 0) (ms' := 0) dX13_streets_7 c_X13_202 rfl rfl (Nat.le_of_ble_eq_true rfl) (rm_ok rfl rfl) ⟨Nat.le_refl 0, Nat.le_refl 0⟩ (T_X13_isSlate h3) (kkI (fun r6 M5 h4 => s_if_eq (pc := 10) (tgt := 22) dX13_streets_10 rfl (fun c7 => have h8 := h4.1 c7; s_iconst (pc := 22) dX13_streets_22 ci_m1 (s_ireturn (pc := 23) dX13_streets_23 rfl (Nat.zero_le _) (Nat.zero_le _) ⟨_, rfl, h8⟩)) (fun c9 => have h10 := h4.2 c9; s_iload_n (pc := 13) dX13_streets_13 rfl (s_iload (pc := 14) dX13_streets_14 rfl (s_callS (pc := 16) (As := [.int p3, .int p4]) (rest := []) (d' := 1) (mc' := 0) (ms' := 0) dX13_streets_16 c_X13_202 rfl rfl (Nat.le_of_ble_eq_true rfl) (rm_ok rfl rfl) ⟨Nat.le_refl 0, Nat.le_refl 0⟩ (T_X13_isSlate h10) (kkI (fun r13 M12 h11 => s_if_ne (pc := 19) (tgt := 24) dX13_streets_19 rfl (fun c14 => have h15 := h11.1 c14; s_iload_n (pc := 24) dX13_streets_24 rfl (s_iload_n (pc := 25) dX13_streets_25 rfl (s_isub (pc := 26) dX13_streets_26 (nmI (fun y18 e19 => have h20 := h15 y18 e19; s_istore (pc := 27) (L1 := [some (.ref p0), some (.int p1), some (.int p2), some (.int p3), some (.int p4), some (.int y18), none, none]) dX13_streets_27 (Nat.le_of_ble_eq_true rfl) rfl (s_iload_n (pc := 29) dX13_streets_29 rfl (s_iload (pc := 30) dX13_streets_30 rfl (s_isub (pc := 32) dX13_streets_32 (nmI (fun y21 e22 => have h23 := h20 y21 e22; s_istore (pc := 33) (L1 := [some (.ref p0), some (.int p1), some (.int p2), some (.int p3), some (.int p4), some (.int y18), some (.int y21), none]) dX13_streets_33 (Nat.le_of_ble_eq_true rfl) rfl (s_iload (pc := 35) dX13_streets_35 rfl (s_iload (pc := 37) dX13_streets_37 rfl (s_icmp_le (pc := 39) (tgt := 47) dX13_streets_39 rfl (fun c24 => have h25 := h23.1 c24; s_iload (pc := 47) dX13_streets_47 rfl (s_sel (L1 := [none, none, none, none, none, none, none, none]) [false, false, false, false, false, false, false, false] rfl (P_jn_X13_streets_49 y21 M12 h25))) (fun c26 => have h27 := h23.2 c26; s_iload (pc := 42) dX13_streets_42 rfl (s_goto (pc := 44) (tgt := 49) dX13_streets_44 rfl (s_sel (L1 := [none, none, none, none, none, none, none, none]) [false, false, false, false, false, false, false, false] rfl (P_jn_X13_streets_49 y18 M12 h27))))))))))))))))) (fun c16 => have h17 := h11.2 c16; s_iconst (pc := 22) dX13_streets_22 ci_m1 (s_ireturn (pc := 23) dX13_streets_23 rfl (Nat.zero_le _) (Nat.zero_le _) ⟨_, rfl, h17⟩)))))))))))))))))
/-! X13_stuck -/
theorem dX13_stuck_0 : cod mX13_stuck 0 (.aload_n 0) 1 := by decide +kernel
theorem dX13_stuck_1 : cod mX13_stuck 1 (.iconst 0) 1 := by decide +kernel
theorem dX13_stuck_2 : cod mX13_stuck 2 (.putfield 115) 3 := by decide +kernel
theorem dX13_stuck_5 : cod mX13_stuck 5 (.aload_n 0) 1 := by decide +kernel
theorem dX13_stuck_6 : cod mX13_stuck 6 (.iload_n 1) 1 := by decide +kernel
theorem dX13_stuck_7 : cod mX13_stuck 7 (.invokevirtual 310) 3 := by decide +kernel
theorem dX13_stuck_10 : cod mX13_stuck 10 (.ifCond .ge 14) 3 := by decide +kernel
theorem dX13_stuck_13 : cod mX13_stuck 13 (.ldc2_w 313) 3 := by decide +kernel
theorem dX13_stuck_16 : cod mX13_stuck 16 (.aload_n 0) 1 := by decide +kernel
theorem dX13_stuck_17 : cod mX13_stuck 17 (.iload_n 1) 1 := by decide +kernel
theorem dX13_stuck_18 : cod mX13_stuck 18 (.invokevirtual 310) 3 := by decide +kernel
theorem dX13_stuck_21 : cod mX13_stuck 21 (.i2l) 1 := by decide +kernel
theorem dX13_stuck_22 : cod mX13_stuck 22 (.ladd) 1 := by decide +kernel
theorem dX13_stuck_23 : cod mX13_stuck 23 (.lreturn) 1 := by decide +kernel
theorem dX13_stuck_24 : cod mX13_stuck 24 (.aload_n 0) 1 := by decide +kernel
theorem dX13_stuck_25 : cod mX13_stuck 25 (.aload_n 0) 1 := by decide +kernel
theorem dX13_stuck_26 : cod mX13_stuck 26 (.getfield 97) 3 := by decide +kernel
theorem dX13_stuck_29 : cod mX13_stuck 29 (.iload_n 1) 1 := by decide +kernel
theorem dX13_stuck_30 : cod mX13_stuck 30 (.iaload) 1 := by decide +kernel
theorem dX13_stuck_31 : cod mX13_stuck 31 (.aload_n 0) 1 := by decide +kernel
theorem dX13_stuck_32 : cod mX13_stuck 32 (.getfield 100) 3 := by decide +kernel
theorem dX13_stuck_35 : cod mX13_stuck 35 (.iload_n 1) 1 := by decide +kernel
theorem dX13_stuck_36 : cod mX13_stuck 36 (.iaload) 1 := by decide +kernel
theorem dX13_stuck_37 : cod mX13_stuck 37 (.invokevirtual 315) 3 := by decide +kernel
theorem dX13_stuck_40 : cod mX13_stuck 40 (.aload_n 0) 1 := by decide +kernel
theorem dX13_stuck_41 : cod mX13_stuck 41 (.getfield 295) 3 := by decide +kernel
theorem dX13_stuck_44 : cod mX13_stuck 44 (.lreturn) 1 := by decide +kernel
def wp_X13_stuck (p0 : Nat) (p1 : Int32) (M : Mem) (Q : Int64 → Mem → Prop) : Prop := mK M p0 = 14 ∧ ∀ M1 : Mem, M1 = uI M p0 12 0 → wp_X13_wrongMean p0 p1 M1 (fun r6 M5 => ((0 : Int32) ≤ r6 → mK M5 p0 = 14 ∧ mK M5 (mR M5 p0 50) = 20 ∧ vp_in p1 (mN M5 (mR M5 p0 50)) ∧ mK M5 (mR M5 p0 51) = 20 ∧ vp_in p1 (mN M5 (mR M5 p0 51)) ∧ wp_X13_goAll p0 (mI M5 (mR M5 p0 50) p1.toNatClampNeg) (mI M5 (mR M5 p0 51) p1.toNatClampNeg) M5 (fun M12 => mK M12 p0 = 14 ∧ Q (mJ M12 p0 36) M12)) ∧ (¬ (0 : Int32) ≤ r6 → mK M5 p0 = 14 ∧ wp_X13_wrongMean p0 p1 M5 (fun r15 M14 => Q ((-4000000000000000000) + r15.toInt64) M14)))
theorem T_X13_stuck {G : GG} {Q : Int64 → Mem → Prop} {M : Mem} {p0 : Nat} {p1 : Int32} (h : wp_X13_stuck p0 p1 M Q) : PMet G mX13_stuck 6 0 0 [.ref p0, .int p1] M (QJ Q) :=
  mk_met (by decide) rfl rfl (by
    intro w hw x9 e9
    subst e9
    simp at hw) (Nat.le_of_ble_eq_true rfl) (s_pad (L1 := [some (.ref p0), some (.int p1)]) 2 rfl (s_aload_n (pc := 0) dX13_stuck_0 rfl (s_iconst (pc := 1) dX13_stuck_1 ci_0 (s_putI (pc := 2) dX13_stuck_2 f_X13_115 (Or.inl rfl) (Or.inl rfl) h.1 (nmM (fun M1 e2 => have h3 := h.2 M1 e2; s_aload_n (pc := 5) dX13_stuck_5 rfl (s_iload_n (pc := 6) dX13_stuck_6 rfl (s_callV (pc := 7) (As := [.int p1]) (rest := []) (d' := 2) (mc' := 0) (ms' := 0) dX13_stuck_7 c_X13_310 (Nat.le_of_ble_eq_true rfl) rfl ((congrFun (congrArg mK e2) p0).trans h.1) rfl rfl (Nat.le_of_ble_eq_true rfl) (rm_ok rfl rfl) ⟨Nat.le_refl 0, Nat.le_refl 0⟩ (T_X13_wrongMean h3) (kkI (fun r6 M5 h4 => s_if_ge (pc := 10) (tgt := 24) dX13_stuck_10 rfl (fun c7 => have h8 := h4.1 c7; s_aload_n (pc := 24) dX13_stuck_24 rfl (s_aload_n (pc := 25) dX13_stuck_25 rfl (s_getR (pc := 26) dX13_stuck_26 f_X13_97 rfl h8.1 (s_iload_n (pc := 29) dX13_stuck_29 rfl (s_ial (pc := 30) dX13_stuck_30 h8.2.1 h8.2.2.1 (s_aload_n (pc := 31) dX13_stuck_31 rfl (s_getR (pc := 32) dX13_stuck_32 f_X13_100 rfl h8.1 (s_iload_n (pc := 35) dX13_stuck_35 rfl (s_ial (pc := 36) dX13_stuck_36 h8.2.2.2.1 h8.2.2.2.2.1 (s_callV (pc := 37) (As := [.int (mI M5 (mR M5 p0 50) p1.toNatClampNeg), .int (mI M5 (mR M5 p0 51) p1.toNatClampNeg)]) (rest := []) (d' := 5) (mc' := 0) (ms' := 0) dX13_stuck_37 c_X13_315 (Nat.le_of_ble_eq_true rfl) rfl h8.1 rfl rfl (Nat.le_of_ble_eq_true rfl) (rm_ok rfl rfl) ⟨Nat.le_refl 0, Nat.le_refl 0⟩ (T_X13_goAll h8.2.2.2.2.2) (kkV (fun M12 h11 => s_aload_n (pc := 40) dX13_stuck_40 rfl (s_getJ (pc := 41) dX13_stuck_41 f_X13_295 rfl h11.1 (s_lreturn (pc := 44) dX13_stuck_44 rfl (Nat.zero_le _) (Nat.zero_le _) ⟨_, rfl, h11.2⟩)))))))))))))) (fun c9 => have h10 := h4.2 c9; s_ldc2 (pc := 13) dX13_stuck_13 k_X13_313 (s_aload_n (pc := 16) dX13_stuck_16 rfl (s_iload_n (pc := 17) dX13_stuck_17 rfl (s_callV (pc := 18) (As := [.int p1]) (rest := [.long (-4000000000000000000)]) (d' := 2) (mc' := 0) (ms' := 0) dX13_stuck_18 c_X13_310 (Nat.le_of_ble_eq_true rfl) rfl h10.1 rfl rfl (Nat.le_of_ble_eq_true rfl) (rm_ok rfl rfl) ⟨Nat.le_refl 0, Nat.le_refl 0⟩ (T_X13_wrongMean h10.2) (kkI (fun r15 M14 h13 => s_i2l (pc := 21) dX13_stuck_21 (s_ladd (pc := 22) dX13_stuck_22 (s_lreturn (pc := 23) dX13_stuck_23 rfl (Nat.zero_le _) (Nat.zero_le _) ⟨_, rfl, h13⟩))))))))))))))))))
/-! X13_think -/
theorem dX13_think_0 : cod mX13_think 0 (.aload_n 0) 1 := by decide +kernel
theorem dX13_think_1 : cod mX13_think 1 (.iconst 0) 1 := by decide +kernel
theorem dX13_think_2 : cod mX13_think 2 (.putfield 115) 3 := by decide +kernel
theorem dX13_think_5 : cod mX13_think 5 (.aload_n 0) 1 := by decide +kernel
theorem dX13_think_6 : cod mX13_think 6 (.iload_n 1) 1 := by decide +kernel
theorem dX13_think_7 : cod mX13_think 7 (.invokevirtual 193) 3 := by decide +kernel
theorem dX13_think_10 : cod mX13_think 10 (.ifCond .eq 13) 3 := by decide +kernel
theorem dX13_think_13 : cod mX13_think 13 (.iload_n 2) 1 := by decide +kernel
theorem dX13_think_14 : cod mX13_think 14 (.i2l) 1 := by decide +kernel
theorem dX13_think_15 : cod mX13_think 15 (.lconst 0) 1 := by decide +kernel
theorem dX13_think_16 : cod mX13_think 16 (.lconst 1) 1 := by decide +kernel
theorem dX13_think_17 : cod mX13_think 17 (.invokestatic 122) 3 := by decide +kernel
theorem dX13_think_20 : cod mX13_think 20 (.ifCond .ne 7) 3 := by decide +kernel
theorem dX13_think_23 : cod mX13_think 23 (.ldc2_w 244) 3 := by decide +kernel
theorem dX13_think_26 : cod mX13_think 26 (.lreturn) 1 := by decide +kernel
theorem dX13_think_27 : cod mX13_think 27 (.aload_n 0) 1 := by decide +kernel
theorem dX13_think_28 : cod mX13_think 28 (.invokevirtual 228) 3 := by decide +kernel
theorem dX13_think_31 : cod mX13_think 31 (.ifCond .ne 7) 3 := by decide +kernel
theorem dX13_think_34 : cod mX13_think 34 (.ldc2_w 246) 3 := by decide +kernel
theorem dX13_think_37 : cod mX13_think 37 (.lreturn) 1 := by decide +kernel
theorem dX13_think_38 : cod mX13_think 38 (.lconst 0) 1 := by decide +kernel
theorem dX13_think_39 : cod mX13_think 39 (.lstore_n 3) 1 := by decide +kernel
theorem dX13_think_40 : cod mX13_think 40 (.iconst 0) 1 := by decide +kernel
theorem dX13_think_41 : cod mX13_think 41 (.istore 5) 2 := by decide +kernel
theorem dX13_think_43 : cod mX13_think 43 (.iload 5) 2 := by decide +kernel
theorem dX13_think_45 : cod mX13_think 45 (.aload_n 0) 1 := by decide +kernel
theorem dX13_think_46 : cod mX13_think 46 (.getfield 119) 3 := by decide +kernel
theorem dX13_think_49 : cod mX13_think 49 (.if_icmp .ge 19) 3 := by decide +kernel
theorem dX13_think_52 : cod mX13_think 52 (.lload_n 3) 1 := by decide +kernel
theorem dX13_think_53 : cod mX13_think 53 (.aload_n 0) 1 := by decide +kernel
theorem dX13_think_54 : cod mX13_think 54 (.getfield 32) 3 := by decide +kernel
theorem dX13_think_57 : cod mX13_think 57 (.iload 5) 2 := by decide +kernel
theorem dX13_think_59 : cod mX13_think 59 (.laload) 1 := by decide +kernel
theorem dX13_think_60 : cod mX13_think 60 (.ladd) 1 := by decide +kernel
theorem dX13_think_61 : cod mX13_think 61 (.lstore_n 3) 1 := by decide +kernel
theorem dX13_think_62 : cod mX13_think 62 (.iinc 5 1) 3 := by decide +kernel
theorem dX13_think_65 : cod mX13_think 65 (.goto (-22)) 3 := by decide +kernel
theorem dX13_think_68 : cod mX13_think 68 (.aload_n 0) 1 := by decide +kernel
theorem dX13_think_69 : cod mX13_think 69 (.getfield 32) 3 := by decide +kernel
theorem dX13_think_72 : cod mX13_think 72 (.iload_n 1) 1 := by decide +kernel
theorem dX13_think_73 : cod mX13_think 73 (.laload) 1 := by decide +kernel
theorem dX13_think_74 : cod mX13_think 74 (.lload_n 3) 1 := by decide +kernel
theorem dX13_think_75 : cod mX13_think 75 (.invokestatic 218) 3 := by decide +kernel
theorem dX13_think_78 : cod mX13_think 78 (.lstore 5) 2 := by decide +kernel
theorem dX13_think_80 : cod mX13_think 80 (.iload_n 2) 1 := by decide +kernel
theorem dX13_think_81 : cod mX13_think 81 (.ifCond .ne 12) 3 := by decide +kernel
theorem dX13_think_84 : cod mX13_think 84 (.aload_n 0) 1 := by decide +kernel
theorem dX13_think_85 : cod mX13_think 85 (.getfield 32) 3 := by decide +kernel
theorem dX13_think_88 : cod mX13_think 88 (.iload_n 1) 1 := by decide +kernel
theorem dX13_think_89 : cod mX13_think 89 (.laload) 1 := by decide +kernel
theorem dX13_think_90 : cod mX13_think 90 (.goto 4) 3 := by decide +kernel
theorem dX13_think_93 : cod mX13_think 93 (.lload_n 3) 1 := by decide +kernel
theorem dX13_think_94 : cod mX13_think 94 (.lload 5) 2 := by decide +kernel
theorem dX13_think_96 : cod mX13_think 96 (.ldiv) 1 := by decide +kernel
theorem dX13_think_97 : cod mX13_think 97 (.lreturn) 1 := by decide +kernel
def jn_X13_think_94 (Q : Int64 → Mem → Prop) (x5 : Int64) (s0 : Int64) (M : Mem) : Prop := ¬ x5 = 0 ∧ Q (s0 / x5) M
theorem P_jn_X13_think_94 {G : GG} {Q : Int64 → Mem → Prop} (x5 : Int64) (s0 : Int64) (M : Mem) (h : jn_X13_think_94 Q x5 s0 M) : PW G mX13_think (rmD 2 0 0) (QJ Q) 94 [none, none, none, none, none, some (.long x5), none] [.long s0] M 0 0 := (s_lload (pc := 94) dX13_think_94 rfl (s_ldiv (pc := 96) dX13_think_96 h.1 (s_lreturn (pc := 97) dX13_think_97 rfl (Nat.zero_le _) (Nat.zero_le _) ⟨_, rfl, h.2⟩)))
def lp_X13_think_43 (Q : Int64 → Mem → Prop) : Nat → Nat → Int32 → Int32 → Int64 → Int32 → Mem → Prop
  | 0 => fun _ _ _ _ _ _ => False
  | n + 1 => fun x0 x1 x2 x3 x5 M => mK M x0 = 14 ∧ ((mI M x0 0) ≤ x5 → mK M (mR M x0 10) = 21 ∧ vp_in x1 (mN M (mR M x0 10)) ∧ wp_X13_divisor (mJ M (mR M x0 10) x1.toNatClampNeg) x3 M (fun r31 M30 => (¬ x2 = (0 : Int32) → jn_X13_think_94 Q r31 x3 M30) ∧ (x2 = (0 : Int32) → mK M30 x0 = 14 ∧ mK M30 (mR M30 x0 10) = 21 ∧ vp_in x1 (mN M30 (mR M30 x0 10)) ∧ jn_X13_think_94 Q r31 (mJ M30 (mR M30 x0 10) x1.toNatClampNeg) M30))) ∧ (¬ (mI M x0 0) ≤ x5 → mK M (mR M x0 10) = 21 ∧ vp_in x5 (mN M (mR M x0 10)) ∧ ∀ y36 : Int64, y36 = x3 + (mJ M (mR M x0 10) x5.toNatClampNeg) → (lp_X13_think_43 Q n) x0 x1 x2 y36 (x5 + 1) M)
theorem P_lp_X13_think_43 {G : GG} {Q : Int64 → Mem → Prop} : ∀ (n : Nat) (x0 : Nat) (x1 : Int32) (x2 : Int32) (x3 : Int64) (x5 : Int32) (M : Mem), lp_X13_think_43 Q n x0 x1 x2 x3 x5 M → PW G mX13_think (rmD 2 0 0) (QJ Q) 43 [some (.ref x0), some (.int x1), some (.int x2), some (.long x3), none, some (.int x5), none] [] M 0 0 := by
  intro n
  induction n with
  | zero => intro x0 x1 x2 x3 x5 M h; exact h.elim
  | succ n ih =>
    intro x0 x1 x2 x3 x5 M h
    exact (s_iload (pc := 43) dX13_think_43 rfl (s_aload_n (pc := 45) dX13_think_45 rfl (s_getI (pc := 46) dX13_think_46 f_X13_119 rfl h.1 (s_icmp_ge (pc := 49) (tgt := 68) dX13_think_49 rfl (fun c25 => have h26 := h.2.1 c25; s_aload_n (pc := 68) dX13_think_68 rfl (s_getR (pc := 69) dX13_think_69 f_X13_32 rfl h.1 (s_iload_n (pc := 72) dX13_think_72 rfl (s_lal (pc := 73) dX13_think_73 h26.1 h26.2.1 (s_lload_n (pc := 74) dX13_think_74 rfl (s_callS (pc := 75) (As := [.long (mJ M (mR M x0 10) x1.toNatClampNeg), .long x3]) (rest := []) (d' := 0) (mc' := 0) (ms' := 0) dX13_think_75 c_X13_218 rfl rfl (Nat.le_of_ble_eq_true rfl) (rm_ok rfl rfl) ⟨Nat.le_refl 0, Nat.le_refl 0⟩ (T_X13_divisor h26.2.2) (kkJ (fun r31 M30 h29 => s_lstore (pc := 78) (L1 := [some (.ref x0), some (.int x1), some (.int x2), some (.long x3), none, some (.long r31), none]) dX13_think_78 (Nat.le_of_ble_eq_true rfl) rfl (s_iload_n (pc := 80) dX13_think_80 rfl (s_if_ne (pc := 81) (tgt := 93) dX13_think_81 rfl (fun c32 => have h33 := h29.1 c32; s_lload_n (pc := 93) dX13_think_93 rfl (s_sel (L1 := [none, none, none, none, none, some (.long r31), none]) [false, false, false, false, false, true, false] rfl (P_jn_X13_think_94 r31 x3 M30 h33))) (fun c34 => have h35 := h29.2 c34; s_aload_n (pc := 84) dX13_think_84 rfl (s_getR (pc := 85) dX13_think_85 f_X13_32 rfl h35.1 (s_iload_n (pc := 88) dX13_think_88 rfl (s_lal (pc := 89) dX13_think_89 h35.2.1 h35.2.2.1 (s_goto (pc := 90) (tgt := 94) dX13_think_90 rfl (s_sel (L1 := [none, none, none, none, none, some (.long r31), none]) [false, false, false, false, false, true, false] rfl (P_jn_X13_think_94 r31 (mJ M30 (mR M30 x0 10) x1.toNatClampNeg) M30 h35.2.2.2))))))))))))))))) (fun c27 => have h28 := h.2.2 c27; s_lload_n (pc := 52) dX13_think_52 rfl (s_aload_n (pc := 53) dX13_think_53 rfl (s_getR (pc := 54) dX13_think_54 f_X13_32 rfl h.1 (s_iload (pc := 57) dX13_think_57 rfl (s_lal (pc := 59) dX13_think_59 h28.1 h28.2.1 (s_ladd (pc := 60) dX13_think_60 (nmJ (fun y36 e37 => have h38 := h28.2.2 y36 e37; s_lstore_n (pc := 61) (L1 := [some (.ref x0), some (.int x1), some (.int x2), some (.long y36), none, some (.int x5), none]) dX13_think_61 (Nat.le_of_ble_eq_true rfl) rfl (s_iinc (pc := 62) (L1 := [some (.ref x0), some (.int x1), some (.int x2), some (.long y36), none, some (.int (x5 + 1)), none]) dX13_think_62 rfl ci_1 (Nat.le_of_ble_eq_true rfl) rfl (s_goto (pc := 65) (tgt := 43) dX13_think_65 rfl (s_sel (L1 := [some (.ref x0), some (.int x1), some (.int x2), some (.long y36), none, some (.int (x5 + 1)), none]) [true, true, true, true, false, true, false] rfl (ih x0 x1 x2 y36 (x5 + 1) M h38))))))))))))))))
def wp_X13_think (p0 : Nat) (p1 : Int32) (p2 : Int32) (M : Mem) (Q : Int64 → Mem → Prop) : Prop := mK M p0 = 14 ∧ ∀ M1 : Mem, M1 = uI M p0 12 0 → wp_X13_isWorth p0 p1 M1 (fun r6 M5 => (r6 = (0 : Int32) → Q (-4000000000000000001) M5) ∧ (¬ r6 = (0 : Int32) → wp_X13_in p2.toInt64 0 1 M5 (fun r13 M12 => (¬ r13 = (0 : Int32) → mK M12 p0 = 14 ∧ wp_X13_isReady p0 M12 (fun r20 M19 => (¬ r20 = (0 : Int32) → ∃ n39 : Nat, lp_X13_think_43 Q n39 p0 p1 p2 0 0 M19) ∧ (r20 = (0 : Int32) → Q (-4000000000000000003) M19))) ∧ (r13 = (0 : Int32) → Q (-4000000000000000001) M12))))
theorem T_X13_think {G : GG} {Q : Int64 → Mem → Prop} {M : Mem} {p0 : Nat} {p1 : Int32} {p2 : Int32} (h : wp_X13_think p0 p1 p2 M Q) : PMet G mX13_think 2 0 0 [.ref p0, .int p1, .int p2] M (QJ Q) :=
  mk_met (by decide) rfl rfl (by
    intro w hw x9 e9
    subst e9
    simp at hw) (Nat.le_of_ble_eq_true rfl) (s_pad (L1 := [some (.ref p0), some (.int p1), some (.int p2), none, none, none, none]) 7 rfl (s_aload_n (pc := 0) dX13_think_0 rfl (s_iconst (pc := 1) dX13_think_1 ci_0 (s_putI (pc := 2) dX13_think_2 f_X13_115 (Or.inl rfl) (Or.inl rfl) h.1 (nmM (fun M1 e2 => have h3 := h.2 M1 e2; s_aload_n (pc := 5) dX13_think_5 rfl (s_iload_n (pc := 6) dX13_think_6 rfl (s_callV (pc := 7) (As := [.int p1]) (rest := []) (d' := 1) (mc' := 0) (ms' := 0) dX13_think_7 c_X13_193 (Nat.le_of_ble_eq_true rfl) rfl ((congrFun (congrArg mK e2) p0).trans h.1) rfl rfl (Nat.le_of_ble_eq_true rfl) (rm_ok rfl rfl) ⟨Nat.le_refl 0, Nat.le_refl 0⟩ (T_X13_isWorth h3) (kkI (fun r6 M5 h4 => s_if_eq (pc := 10) (tgt := 23) dX13_think_10 rfl (fun c7 => have h8 := h4.1 c7; s_ldc2 (pc := 23) dX13_think_23 k_X13_244 (s_lreturn (pc := 26) dX13_think_26 rfl (Nat.zero_le _) (Nat.zero_le _) ⟨_, rfl, h8⟩)) (fun c9 => have h10 := h4.2 c9; s_iload_n (pc := 13) dX13_think_13 rfl (s_i2l (pc := 14) dX13_think_14 (s_lconst (pc := 15) (v := 0) dX13_think_15 rfl (s_lconst (pc := 16) (v := 1) dX13_think_16 rfl (s_callS (pc := 17) (As := [.long p2.toInt64, .long 0, .long 1]) (rest := []) (d' := 0) (mc' := 0) (ms' := 0) dX13_think_17 c_X13_122 rfl rfl (Nat.le_of_ble_eq_true rfl) (rm_ok rfl rfl) ⟨Nat.le_refl 0, Nat.le_refl 0⟩ (T_X13_in h10) (kkI (fun r13 M12 h11 => s_if_ne (pc := 20) (tgt := 27) dX13_think_20 rfl (fun c14 => have h15 := h11.1 c14; s_aload_n (pc := 27) dX13_think_27 rfl (s_callV (pc := 28) (As := []) (rest := []) (d' := 1) (mc' := 0) (ms' := 0) dX13_think_28 c_X13_228 (Nat.le_of_ble_eq_true rfl) rfl h15.1 rfl rfl (Nat.le_of_ble_eq_true rfl) (rm_ok rfl rfl) ⟨Nat.le_refl 0, Nat.le_refl 0⟩ (T_X13_isReady h15.2) (kkI (fun r20 M19 h18 => s_if_ne (pc := 31) (tgt := 38) dX13_think_31 rfl (fun c21 => have h22 := h18.1 c21; s_lconst (pc := 38) (v := 0) dX13_think_38 rfl (s_lstore_n (pc := 39) (L1 := [some (.ref p0), some (.int p1), some (.int p2), some (.long 0), none, none, none]) dX13_think_39 (Nat.le_of_ble_eq_true rfl) rfl (s_iconst (pc := 40) dX13_think_40 ci_0 (s_istore (pc := 41) (L1 := [some (.ref p0), some (.int p1), some (.int p2), some (.long 0), none, some (.int 0), none]) dX13_think_41 (Nat.le_of_ble_eq_true rfl) rfl (Exists.elim h22 (fun n39 hn => s_sel (L1 := [some (.ref p0), some (.int p1), some (.int p2), some (.long 0), none, some (.int 0), none]) [true, true, true, true, false, true, false] rfl (P_lp_X13_think_43 n39 p0 p1 p2 0 0 M19 hn))))))) (fun c23 => have h24 := h18.2 c23; s_ldc2 (pc := 34) dX13_think_34 k_X13_246 (s_lreturn (pc := 37) dX13_think_37 rfl (Nat.zero_le _) (Nat.zero_le _) ⟨_, rfl, h24⟩)))))) (fun c16 => have h17 := h11.2 c16; s_ldc2 (pc := 23) dX13_think_23 k_X13_244 (s_lreturn (pc := 26) dX13_think_26 rfl (Nat.zero_le _) (Nat.zero_le _) ⟨_, rfl, h17⟩)))))))))))))))))))
/-! X13_thrown -/
theorem dX13_thrown_0 : cod mX13_thrown 0 (.aload_n 0) 1 := by decide +kernel
theorem dX13_thrown_1 : cod mX13_thrown 1 (.getfield 115) 3 := by decide +kernel
theorem dX13_thrown_4 : cod mX13_thrown 4 (.ireturn) 1 := by decide +kernel
def wp_X13_thrown (p0 : Nat) (M : Mem) (Q : Int32 → Mem → Prop) : Prop := mK M p0 = 14 ∧ Q (mI M p0 12) M
theorem T_X13_thrown {G : GG} {Q : Int32 → Mem → Prop} {M : Mem} {p0 : Nat} (h : wp_X13_thrown p0 M Q) : PMet G mX13_thrown 0 0 0 [.ref p0] M (QI Q) :=
  mk_met (by decide) rfl rfl (by
    intro w hw x9 e9
    subst e9
    simp at hw) (Nat.le_of_ble_eq_true rfl) (s_pad (L1 := [some (.ref p0)]) 1 rfl (s_aload_n (pc := 0) dX13_thrown_0 rfl (s_getI (pc := 1) dX13_thrown_1 f_X13_115 rfl h.1 (s_ireturn (pc := 4) dX13_thrown_4 rfl (Nat.zero_le _) (Nat.zero_le _) ⟨_, rfl, h.2⟩))))
/-! X13_toss -/
theorem dX13_toss_0 : cod mX13_toss 0 (.aload_n 0) 1 := by decide +kernel
theorem dX13_toss_1 : cod mX13_toss 1 (.iconst 0) 1 := by decide +kernel
theorem dX13_toss_2 : cod mX13_toss 2 (.putfield 115) 3 := by decide +kernel
theorem dX13_toss_5 : cod mX13_toss 5 (.aload_n 0) 1 := by decide +kernel
theorem dX13_toss_6 : cod mX13_toss 6 (.iload_n 1) 1 := by decide +kernel
theorem dX13_toss_7 : cod mX13_toss 7 (.invokevirtual 275) 3 := by decide +kernel
theorem dX13_toss_10 : cod mX13_toss 10 (.ifCond .ge 9) 3 := by decide +kernel
theorem dX13_toss_13 : cod mX13_toss 13 (.aload_n 0) 1 := by decide +kernel
theorem dX13_toss_14 : cod mX13_toss 14 (.iload_n 1) 1 := by decide +kernel
theorem dX13_toss_15 : cod mX13_toss 15 (.invokevirtual 275) 3 := by decide +kernel
theorem dX13_toss_18 : cod mX13_toss 18 (.ireturn) 1 := by decide +kernel
theorem dX13_toss_19 : cod mX13_toss 19 (.aload_n 0) 1 := by decide +kernel
theorem dX13_toss_20 : cod mX13_toss 20 (.getfield 100) 3 := by decide +kernel
theorem dX13_toss_23 : cod mX13_toss 23 (.iload_n 1) 1 := by decide +kernel
theorem dX13_toss_24 : cod mX13_toss 24 (.iaload) 1 := by decide +kernel
theorem dX13_toss_25 : cod mX13_toss 25 (.istore_n 2) 1 := by decide +kernel
theorem dX13_toss_26 : cod mX13_toss 26 (.aload_n 0) 1 := by decide +kernel
theorem dX13_toss_27 : cod mX13_toss 27 (.getfield 97) 3 := by decide +kernel
theorem dX13_toss_30 : cod mX13_toss 30 (.iload_n 1) 1 := by decide +kernel
theorem dX13_toss_31 : cod mX13_toss 31 (.iaload) 1 := by decide +kernel
theorem dX13_toss_32 : cod mX13_toss 32 (.iconst 5) 1 := by decide +kernel
theorem dX13_toss_33 : cod mX13_toss 33 (.if_icmp .eq 7) 3 := by decide +kernel
theorem dX13_toss_36 : cod mX13_toss 36 (.iload_n 2) 1 := by decide +kernel
theorem dX13_toss_37 : cod mX13_toss 37 (.ifCond .ne 6) 3 := by decide +kernel
theorem dX13_toss_40 : cod mX13_toss 40 (.bipush (-15)) 2 := by decide +kernel
theorem dX13_toss_42 : cod mX13_toss 42 (.ireturn) 1 := by decide +kernel
theorem dX13_toss_43 : cod mX13_toss 43 (.aload_n 0) 1 := by decide +kernel
theorem dX13_toss_44 : cod mX13_toss 44 (.getfield 97) 3 := by decide +kernel
theorem dX13_toss_47 : cod mX13_toss 47 (.iload_n 1) 1 := by decide +kernel
theorem dX13_toss_48 : cod mX13_toss 48 (.iaload) 1 := by decide +kernel
theorem dX13_toss_49 : cod mX13_toss 49 (.iconst 2) 1 := by decide +kernel
theorem dX13_toss_50 : cod mX13_toss 50 (.if_icmp .ne 10) 3 := by decide +kernel
theorem dX13_toss_53 : cod mX13_toss 53 (.bipush 100) 2 := by decide +kernel
theorem dX13_toss_55 : cod mX13_toss 55 (.iload_n 2) 1 := by decide +kernel
theorem dX13_toss_56 : cod mX13_toss 56 (.iadd) 1 := by decide +kernel
theorem dX13_toss_57 : cod mX13_toss 57 (.goto 26) 3 := by decide +kernel
theorem dX13_toss_60 : cod mX13_toss 60 (.aload_n 0) 1 := by decide +kernel
theorem dX13_toss_61 : cod mX13_toss 61 (.getfield 97) 3 := by decide +kernel
theorem dX13_toss_64 : cod mX13_toss 64 (.iload_n 1) 1 := by decide +kernel
theorem dX13_toss_65 : cod mX13_toss 65 (.iaload) 1 := by decide +kernel
theorem dX13_toss_66 : cod mX13_toss 66 (.iconst 4) 1 := by decide +kernel
theorem dX13_toss_67 : cod mX13_toss 67 (.if_icmp .ne 15) 3 := by decide +kernel
theorem dX13_toss_70 : cod mX13_toss 70 (.sipush 200) 3 := by decide +kernel
theorem dX13_toss_73 : cod mX13_toss 73 (.aload_n 0) 1 := by decide +kernel
theorem dX13_toss_74 : cod mX13_toss 74 (.iload_n 1) 1 := by decide +kernel
theorem dX13_toss_75 : cod mX13_toss 75 (.invokevirtual 392) 3 := by decide +kernel
theorem dX13_toss_78 : cod mX13_toss 78 (.iadd) 1 := by decide +kernel
theorem dX13_toss_79 : cod mX13_toss 79 (.goto 4) 3 := by decide +kernel
theorem dX13_toss_82 : cod mX13_toss 82 (.iload_n 2) 1 := by decide +kernel
theorem dX13_toss_83 : cod mX13_toss 83 (.ireturn) 1 := by decide +kernel
def wp_X13_toss (p0 : Nat) (p1 : Int32) (M : Mem) (Q : Int32 → Mem → Prop) : Prop := mK M p0 = 14 ∧ ∀ M1 : Mem, M1 = uI M p0 12 0 → wp_X13_wrongWay p0 p1 M1 (fun r6 M5 => ((0 : Int32) ≤ r6 → mK M5 p0 = 14 ∧ mK M5 (mR M5 p0 51) = 20 ∧ vp_in p1 (mN M5 (mR M5 p0 51)) ∧ ∀ y11 : Int32, y11 = mI M5 (mR M5 p0 51) p1.toNatClampNeg → mK M5 (mR M5 p0 50) = 20 ∧ vp_in p1 (mN M5 (mR M5 p0 50)) ∧ ((mI M5 (mR M5 p0 50) p1.toNatClampNeg) = (5 : Int32) → Q (-15) M5) ∧ (¬ (mI M5 (mR M5 p0 50) p1.toNatClampNeg) = (5 : Int32) → (¬ y11 = (0 : Int32) → vp_in p1 (mN M5 (mR M5 p0 50)) ∧ (¬ (mI M5 (mR M5 p0 50) p1.toNatClampNeg) = (2 : Int32) → vp_in p1 (mN M5 (mR M5 p0 50)) ∧ (¬ (mI M5 (mR M5 p0 50) p1.toNatClampNeg) = (4 : Int32) → Q y11 M5) ∧ ((mI M5 (mR M5 p0 50) p1.toNatClampNeg) = (4 : Int32) → wp_X13_spreadOf p0 p1 M5 (fun r32 M31 => Q (200 + r32) M31))) ∧ ((mI M5 (mR M5 p0 50) p1.toNatClampNeg) = (2 : Int32) → Q (100 + y11) M5)) ∧ (y11 = (0 : Int32) → Q (-15) M5))) ∧ (¬ (0 : Int32) ≤ r6 → mK M5 p0 = 14 ∧ wp_X13_wrongWay p0 p1 M5 (fun r35 M34 => Q r35 M34)))
theorem T_X13_toss {G : GG} {Q : Int32 → Mem → Prop} {M : Mem} {p0 : Nat} {p1 : Int32} (h : wp_X13_toss p0 p1 M Q) : PMet G mX13_toss 2 0 0 [.ref p0, .int p1] M (QI Q) :=
  mk_met (by decide) rfl rfl (by
    intro w hw x9 e9
    subst e9
    simp at hw) (Nat.le_of_ble_eq_true rfl) (s_pad (L1 := [some (.ref p0), some (.int p1), none]) 3 rfl (s_aload_n (pc := 0) dX13_toss_0 rfl (s_iconst (pc := 1) dX13_toss_1 ci_0 (s_putI (pc := 2) dX13_toss_2 f_X13_115 (Or.inl rfl) (Or.inl rfl) h.1 (nmM (fun M1 e2 => have h3 := h.2 M1 e2; s_aload_n (pc := 5) dX13_toss_5 rfl (s_iload_n (pc := 6) dX13_toss_6 rfl (s_callV (pc := 7) (As := [.int p1]) (rest := []) (d' := 1) (mc' := 0) (ms' := 0) dX13_toss_7 c_X13_275 (Nat.le_of_ble_eq_true rfl) rfl ((congrFun (congrArg mK e2) p0).trans h.1) rfl rfl (Nat.le_of_ble_eq_true rfl) (rm_ok rfl rfl) ⟨Nat.le_refl 0, Nat.le_refl 0⟩ (T_X13_wrongWay h3) (kkI (fun r6 M5 h4 => s_if_ge (pc := 10) (tgt := 19) dX13_toss_10 rfl (fun c7 => have h8 := h4.1 c7; s_aload_n (pc := 19) dX13_toss_19 rfl (s_getR (pc := 20) dX13_toss_20 f_X13_100 rfl h8.1 (s_iload_n (pc := 23) dX13_toss_23 rfl (s_ial (pc := 24) dX13_toss_24 h8.2.1 h8.2.2.1 (nmI (fun y11 e12 => have h13 := h8.2.2.2 y11 e12; s_istore_n (pc := 25) (L1 := [some (.ref p0), some (.int p1), some (.int y11)]) dX13_toss_25 (Nat.le_of_ble_eq_true rfl) rfl (s_aload_n (pc := 26) dX13_toss_26 rfl (s_getR (pc := 27) dX13_toss_27 f_X13_97 rfl h8.1 (s_iload_n (pc := 30) dX13_toss_30 rfl (s_ial (pc := 31) dX13_toss_31 h13.1 h13.2.1 (s_iconst (pc := 32) dX13_toss_32 ci_5 (s_icmp_eq (pc := 33) (tgt := 40) dX13_toss_33 rfl (fun c14 => have h15 := h13.2.2.1 c14; s_bipush (pc := 40) dX13_toss_40 cb_m15 (s_ireturn (pc := 42) dX13_toss_42 rfl (Nat.zero_le _) (Nat.zero_le _) ⟨_, rfl, h15⟩)) (fun c16 => have h17 := h13.2.2.2 c16; s_iload_n (pc := 36) dX13_toss_36 rfl (s_if_ne (pc := 37) (tgt := 43) dX13_toss_37 rfl (fun c18 => have h19 := h17.1 c18; s_aload_n (pc := 43) dX13_toss_43 rfl (s_getR (pc := 44) dX13_toss_44 f_X13_97 rfl h8.1 (s_iload_n (pc := 47) dX13_toss_47 rfl (s_ial (pc := 48) dX13_toss_48 h13.1 h19.1 (s_iconst (pc := 49) dX13_toss_49 ci_2 (s_icmp_ne (pc := 50) (tgt := 60) dX13_toss_50 rfl (fun c22 => have h23 := h19.2.1 c22; s_aload_n (pc := 60) dX13_toss_60 rfl (s_getR (pc := 61) dX13_toss_61 f_X13_97 rfl h8.1 (s_iload_n (pc := 64) dX13_toss_64 rfl (s_ial (pc := 65) dX13_toss_65 h13.1 h23.1 (s_iconst (pc := 66) dX13_toss_66 ci_4 (s_icmp_ne (pc := 67) (tgt := 82) dX13_toss_67 rfl (fun c26 => have h27 := h23.2.1 c26; s_iload_n (pc := 82) dX13_toss_82 rfl (s_ireturn (pc := 83) dX13_toss_83 rfl (Nat.zero_le _) (Nat.zero_le _) ⟨_, rfl, h27⟩)) (fun c28 => have h29 := h23.2.2 c28; s_sipush (pc := 70) dX13_toss_70 cs_200 (s_aload_n (pc := 73) dX13_toss_73 rfl (s_iload_n (pc := 74) dX13_toss_74 rfl (s_callV (pc := 75) (As := [.int p1]) (rest := [.int 200]) (d' := 0) (mc' := 0) (ms' := 0) dX13_toss_75 c_X13_392 (Nat.le_of_ble_eq_true rfl) rfl h8.1 rfl rfl (Nat.le_of_ble_eq_true rfl) (rm_ok rfl rfl) ⟨Nat.le_refl 0, Nat.le_refl 0⟩ (T_X13_spreadOf h29) (kkI (fun r32 M31 h30 => s_iadd (pc := 78) dX13_toss_78 (s_goto (pc := 79) (tgt := 83) dX13_toss_79 rfl (s_ireturn (pc := 83) dX13_toss_83 rfl (Nat.zero_le _) (Nat.zero_le _) ⟨_, rfl, h30⟩)))))))))))))) (fun c24 => have h25 := h19.2.2 c24; s_bipush (pc := 53) dX13_toss_53 cb_100 (s_iload_n (pc := 55) dX13_toss_55 rfl (s_iadd (pc := 56) dX13_toss_56 (s_goto (pc := 57) (tgt := 83) dX13_toss_57 rfl (s_ireturn (pc := 83) dX13_toss_83 rfl (Nat.zero_le _) (Nat.zero_le _) ⟨_, rfl, h25⟩))))))))))) (fun c20 => have h21 := h17.2 c20; s_bipush (pc := 40) dX13_toss_40 cb_m15 (s_ireturn (pc := 42) dX13_toss_42 rfl (Nat.zero_le _) (Nat.zero_le _) ⟨_, rfl, h21⟩)))))))))))))))) (fun c9 => have h10 := h4.2 c9; s_aload_n (pc := 13) dX13_toss_13 rfl (s_iload_n (pc := 14) dX13_toss_14 rfl (s_callV (pc := 15) (As := [.int p1]) (rest := []) (d' := 1) (mc' := 0) (ms' := 0) dX13_toss_15 c_X13_275 (Nat.le_of_ble_eq_true rfl) rfl h10.1 rfl rfl (Nat.le_of_ble_eq_true rfl) (rm_ok rfl rfl) ⟨Nat.le_refl 0, Nat.le_refl 0⟩ (T_X13_wrongWay h10.2) (kkI (fun r35 M34 h33 => s_ireturn (pc := 18) dX13_toss_18 rfl (Nat.zero_le _) (Nat.zero_le _) ⟨_, rfl, h33⟩)))))))))))))))
/-! X13_worth -/
theorem dX13_worth_0 : cod mX13_worth 0 (.aload_n 0) 1 := by decide +kernel
theorem dX13_worth_1 : cod mX13_worth 1 (.iconst 0) 1 := by decide +kernel
theorem dX13_worth_2 : cod mX13_worth 2 (.putfield 115) 3 := by decide +kernel
theorem dX13_worth_5 : cod mX13_worth 5 (.aload_n 0) 1 := by decide +kernel
theorem dX13_worth_6 : cod mX13_worth 6 (.iload_n 1) 1 := by decide +kernel
theorem dX13_worth_7 : cod mX13_worth 7 (.invokevirtual 193) 3 := by decide +kernel
theorem dX13_worth_10 : cod mX13_worth 10 (.ifCond .eq 35) 3 := by decide +kernel
theorem dX13_worth_13 : cod mX13_worth 13 (.iload_n 2) 1 := by decide +kernel
theorem dX13_worth_14 : cod mX13_worth 14 (.i2l) 1 := by decide +kernel
theorem dX13_worth_15 : cod mX13_worth 15 (.lconst 0) 1 := by decide +kernel
theorem dX13_worth_16 : cod mX13_worth 16 (.lconst 1) 1 := by decide +kernel
theorem dX13_worth_17 : cod mX13_worth 17 (.invokestatic 122) 3 := by decide +kernel
theorem dX13_worth_20 : cod mX13_worth 20 (.ifCond .eq 25) 3 := by decide +kernel
theorem dX13_worth_23 : cod mX13_worth 23 (.iload_n 2) 1 := by decide +kernel
theorem dX13_worth_24 : cod mX13_worth 24 (.ifCond .ne 12) 3 := by decide +kernel
theorem dX13_worth_27 : cod mX13_worth 27 (.aload_n 0) 1 := by decide +kernel
theorem dX13_worth_28 : cod mX13_worth 28 (.getfield 7) 3 := by decide +kernel
theorem dX13_worth_31 : cod mX13_worth 31 (.iload_n 1) 1 := by decide +kernel
theorem dX13_worth_32 : cod mX13_worth 32 (.iaload) 1 := by decide +kernel
theorem dX13_worth_33 : cod mX13_worth 33 (.goto 13) 3 := by decide +kernel
theorem dX13_worth_36 : cod mX13_worth 36 (.aload_n 0) 1 := by decide +kernel
theorem dX13_worth_37 : cod mX13_worth 37 (.getfield 13) 3 := by decide +kernel
theorem dX13_worth_40 : cod mX13_worth 40 (.iload_n 1) 1 := by decide +kernel
theorem dX13_worth_41 : cod mX13_worth 41 (.iaload) 1 := by decide +kernel
theorem dX13_worth_42 : cod mX13_worth 42 (.goto 4) 3 := by decide +kernel
theorem dX13_worth_45 : cod mX13_worth 45 (.iconst (-1)) 1 := by decide +kernel
theorem dX13_worth_46 : cod mX13_worth 46 (.ireturn) 1 := by decide +kernel
def wp_X13_worth (p0 : Nat) (p1 : Int32) (p2 : Int32) (M : Mem) (Q : Int32 → Mem → Prop) : Prop := mK M p0 = 14 ∧ ∀ M1 : Mem, M1 = uI M p0 12 0 → wp_X13_isWorth p0 p1 M1 (fun r6 M5 => (r6 = (0 : Int32) → Q (-1) M5) ∧ (¬ r6 = (0 : Int32) → wp_X13_in p2.toInt64 0 1 M5 (fun r13 M12 => (r13 = (0 : Int32) → Q (-1) M12) ∧ (¬ r13 = (0 : Int32) → (¬ p2 = (0 : Int32) → mK M12 p0 = 14 ∧ mK M12 (mR M12 p0 2) = 20 ∧ vp_in p1 (mN M12 (mR M12 p0 2)) ∧ Q (mI M12 (mR M12 p0 2) p1.toNatClampNeg) M12) ∧ (p2 = (0 : Int32) → mK M12 p0 = 14 ∧ mK M12 (mR M12 p0 1) = 20 ∧ vp_in p1 (mN M12 (mR M12 p0 1)) ∧ Q (mI M12 (mR M12 p0 1) p1.toNatClampNeg) M12)))))
theorem T_X13_worth {G : GG} {Q : Int32 → Mem → Prop} {M : Mem} {p0 : Nat} {p1 : Int32} {p2 : Int32} (h : wp_X13_worth p0 p1 p2 M Q) : PMet G mX13_worth 2 0 0 [.ref p0, .int p1, .int p2] M (QI Q) :=
  mk_met (by decide) rfl rfl (by
    intro w hw x9 e9
    subst e9
    simp at hw) (Nat.le_of_ble_eq_true rfl) (s_pad (L1 := [some (.ref p0), some (.int p1), some (.int p2)]) 3 rfl (s_aload_n (pc := 0) dX13_worth_0 rfl (s_iconst (pc := 1) dX13_worth_1 ci_0 (s_putI (pc := 2) dX13_worth_2 f_X13_115 (Or.inl rfl) (Or.inl rfl) h.1 (nmM (fun M1 e2 => have h3 := h.2 M1 e2; s_aload_n (pc := 5) dX13_worth_5 rfl (s_iload_n (pc := 6) dX13_worth_6 rfl (s_callV (pc := 7) (As := [.int p1]) (rest := []) (d' := 1) (mc' := 0) (ms' := 0) dX13_worth_7 c_X13_193 (Nat.le_of_ble_eq_true rfl) rfl ((congrFun (congrArg mK e2) p0).trans h.1) rfl rfl (Nat.le_of_ble_eq_true rfl) (rm_ok rfl rfl) ⟨Nat.le_refl 0, Nat.le_refl 0⟩ (T_X13_isWorth h3) (kkI (fun r6 M5 h4 => s_if_eq (pc := 10) (tgt := 45) dX13_worth_10 rfl (fun c7 => have h8 := h4.1 c7; s_iconst (pc := 45) dX13_worth_45 ci_m1 (s_ireturn (pc := 46) dX13_worth_46 rfl (Nat.zero_le _) (Nat.zero_le _) ⟨_, rfl, h8⟩)) (fun c9 => have h10 := h4.2 c9; s_iload_n (pc := 13) dX13_worth_13 rfl (s_i2l (pc := 14) dX13_worth_14 (s_lconst (pc := 15) (v := 0) dX13_worth_15 rfl (s_lconst (pc := 16) (v := 1) dX13_worth_16 rfl (s_callS (pc := 17) (As := [.long p2.toInt64, .long 0, .long 1]) (rest := []) (d' := 0) (mc' := 0) (ms' := 0) dX13_worth_17 c_X13_122 rfl rfl (Nat.le_of_ble_eq_true rfl) (rm_ok rfl rfl) ⟨Nat.le_refl 0, Nat.le_refl 0⟩ (T_X13_in h10) (kkI (fun r13 M12 h11 => s_if_eq (pc := 20) (tgt := 45) dX13_worth_20 rfl (fun c14 => have h15 := h11.1 c14; s_iconst (pc := 45) dX13_worth_45 ci_m1 (s_ireturn (pc := 46) dX13_worth_46 rfl (Nat.zero_le _) (Nat.zero_le _) ⟨_, rfl, h15⟩)) (fun c16 => have h17 := h11.2 c16; s_iload_n (pc := 23) dX13_worth_23 rfl (s_if_ne (pc := 24) (tgt := 36) dX13_worth_24 rfl (fun c18 => have h19 := h17.1 c18; s_aload_n (pc := 36) dX13_worth_36 rfl (s_getR (pc := 37) dX13_worth_37 f_X13_13 rfl h19.1 (s_iload_n (pc := 40) dX13_worth_40 rfl (s_ial (pc := 41) dX13_worth_41 h19.2.1 h19.2.2.1 (s_goto (pc := 42) (tgt := 46) dX13_worth_42 rfl (s_ireturn (pc := 46) dX13_worth_46 rfl (Nat.zero_le _) (Nat.zero_le _) ⟨_, rfl, h19.2.2.2⟩)))))) (fun c20 => have h21 := h17.2 c20; s_aload_n (pc := 27) dX13_worth_27 rfl (s_getR (pc := 28) dX13_worth_28 f_X13_7 rfl h21.1 (s_iload_n (pc := 31) dX13_worth_31 rfl (s_ial (pc := 32) dX13_worth_32 h21.2.1 h21.2.2.1 (s_goto (pc := 33) (tgt := 46) dX13_worth_33 rfl (s_ireturn (pc := 46) dX13_worth_46 rfl (Nat.zero_le _) (Nat.zero_le _) ⟨_, rfl, h21.2.2.2⟩)))))))))))))))))))))))))
