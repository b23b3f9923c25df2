/-! X9_follow -/
theorem dX9_follow_0 : cod mX9_follow 0 (.aload_n 0) 1 := by decide +kernel
theorem dX9_follow_1 : cod mX9_follow 1 (.aload_n 1) 1 := by decide +kernel
theorem dX9_follow_2 : cod mX9_follow 2 (.aload_n 2) 1 := by decide +kernel
theorem dX9_follow_3 : cod mX9_follow 3 (.iload_n 3) 1 := by decide +kernel
theorem dX9_follow_4 : cod mX9_follow 4 (.iload 4) 2 := by decide +kernel
theorem dX9_follow_6 : cod mX9_follow 6 (.iload 5) 2 := by decide +kernel
theorem dX9_follow_8 : cod mX9_follow 8 (.invokevirtual 51) 3 := by decide +kernel
theorem dX9_follow_11 : cod mX9_follow 11 (.ifCond .ne 5) 3 := by decide +kernel
theorem dX9_follow_14 : cod mX9_follow 14 (.iconst 0) 1 := by decide +kernel
theorem dX9_follow_15 : cod mX9_follow 15 (.ireturn) 1 := by decide +kernel
theorem dX9_follow_16 : cod mX9_follow 16 (.lconst 0) 1 := by decide +kernel
theorem dX9_follow_17 : cod mX9_follow 17 (.lstore 6) 2 := by decide +kernel
theorem dX9_follow_19 : cod mX9_follow 19 (.iconst 0) 1 := by decide +kernel
theorem dX9_follow_20 : cod mX9_follow 20 (.istore 8) 2 := by decide +kernel
theorem dX9_follow_22 : cod mX9_follow 22 (.iload 8) 2 := by decide +kernel
theorem dX9_follow_24 : cod mX9_follow 24 (.aload_n 2) 1 := by decide +kernel
theorem dX9_follow_25 : cod mX9_follow 25 (.getfield 15) 3 := by decide +kernel
theorem dX9_follow_28 : cod mX9_follow 28 (.if_icmp .ge 23) 3 := by decide +kernel
theorem dX9_follow_31 : cod mX9_follow 31 (.lload 6) 2 := by decide +kernel
theorem dX9_follow_33 : cod mX9_follow 33 (.aload_n 0) 1 := by decide +kernel
theorem dX9_follow_34 : cod mX9_follow 34 (.getfield 9) 3 := by decide +kernel
theorem dX9_follow_37 : cod mX9_follow 37 (.iload 8) 2 := by decide +kernel
theorem dX9_follow_39 : cod mX9_follow 39 (.laload) 1 := by decide +kernel
theorem dX9_follow_40 : cod mX9_follow 40 (.invokestatic 55) 3 := by decide +kernel
theorem dX9_follow_43 : cod mX9_follow 43 (.lstore 6) 2 := by decide +kernel
theorem dX9_follow_45 : cod mX9_follow 45 (.iinc 8 1) 3 := by decide +kernel
theorem dX9_follow_48 : cod mX9_follow 48 (.goto (-26)) 3 := by decide +kernel
theorem dX9_follow_51 : cod mX9_follow 51 (.iconst 0) 1 := by decide +kernel
theorem dX9_follow_52 : cod mX9_follow 52 (.istore 8) 2 := by decide +kernel
theorem dX9_follow_54 : cod mX9_follow 54 (.iload 8) 2 := by decide +kernel
theorem dX9_follow_56 : cod mX9_follow 56 (.aload_n 2) 1 := by decide +kernel
theorem dX9_follow_57 : cod mX9_follow 57 (.getfield 15) 3 := by decide +kernel
theorem dX9_follow_60 : cod mX9_follow 60 (.if_icmp .ge 28) 3 := by decide +kernel
theorem dX9_follow_63 : cod mX9_follow 63 (.lload 6) 2 := by decide +kernel
theorem dX9_follow_65 : cod mX9_follow 65 (.lconst 1) 1 := by decide +kernel
theorem dX9_follow_66 : cod mX9_follow 66 (.lcmp) 1 := by decide +kernel
theorem dX9_follow_67 : cod mX9_follow 67 (.ifCond .le 21) 3 := by decide +kernel
theorem dX9_follow_70 : cod mX9_follow 70 (.aload_n 0) 1 := by decide +kernel
theorem dX9_follow_71 : cod mX9_follow 71 (.getfield 9) 3 := by decide +kernel
theorem dX9_follow_74 : cod mX9_follow 74 (.iload 8) 2 := by decide +kernel
theorem dX9_follow_76 : cod mX9_follow 76 (.dup2) 1 := by decide +kernel
theorem dX9_follow_77 : cod mX9_follow 77 (.laload) 1 := by decide +kernel
theorem dX9_follow_78 : cod mX9_follow 78 (.lload 6) 2 := by decide +kernel
theorem dX9_follow_80 : cod mX9_follow 80 (.ldiv) 1 := by decide +kernel
theorem dX9_follow_81 : cod mX9_follow 81 (.lastore) 1 := by decide +kernel
theorem dX9_follow_82 : cod mX9_follow 82 (.iinc 8 1) 3 := by decide +kernel
theorem dX9_follow_85 : cod mX9_follow 85 (.goto (-31)) 3 := by decide +kernel
theorem dX9_follow_88 : cod mX9_follow 88 (.iconst 0) 1 := by decide +kernel
theorem dX9_follow_89 : cod mX9_follow 89 (.istore 8) 2 := by decide +kernel
theorem dX9_follow_91 : cod mX9_follow 91 (.iload 8) 2 := by decide +kernel
theorem dX9_follow_93 : cod mX9_follow 93 (.bipush 64) 2 := by decide +kernel
theorem dX9_follow_95 : cod mX9_follow 95 (.if_icmp .ge 26) 3 := by decide +kernel
theorem dX9_follow_98 : cod mX9_follow 98 (.aload_n 0) 1 := by decide +kernel
theorem dX9_follow_99 : cod mX9_follow 99 (.aload_n 2) 1 := by decide +kernel
theorem dX9_follow_100 : cod mX9_follow 100 (.invokevirtual 59) 3 := by decide +kernel
theorem dX9_follow_103 : cod mX9_follow 103 (.ldc2_w 63) 3 := by decide +kernel
theorem dX9_follow_106 : cod mX9_follow 106 (.lcmp) 1 := by decide +kernel
theorem dX9_follow_107 : cod mX9_follow 107 (.ifCond .le 14) 3 := by decide +kernel
theorem dX9_follow_110 : cod mX9_follow 110 (.aload_n 0) 1 := by decide +kernel
theorem dX9_follow_111 : cod mX9_follow 111 (.aload_n 2) 1 := by decide +kernel
theorem dX9_follow_112 : cod mX9_follow 112 (.invokevirtual 65) 3 := by decide +kernel
theorem dX9_follow_115 : cod mX9_follow 115 (.iinc 8 1) 3 := by decide +kernel
theorem dX9_follow_118 : cod mX9_follow 118 (.goto (-27)) 3 := by decide +kernel
theorem dX9_follow_121 : cod mX9_follow 121 (.iconst 1) 1 := by decide +kernel
theorem dX9_follow_122 : cod mX9_follow 122 (.ireturn) 1 := by decide +kernel
def lp_X9_follow_91 (Q : Int32 → Mem → Prop) : Nat → Nat → Nat → Int32 → Mem → Prop
  | 0 => fun _ _ _ _ => False
  | n + 1 => fun x0 x2 x8 M => ((64 : Int32) ≤ x8 → Q 1 M) ∧ (¬ (64 : Int32) ≤ x8 → mK M x0 = 10 ∧ wp_X9_greatest x0 x2 M (fun r22 M21 => (r22 ≤ (100000000000 : Int64) → Q 1 M21) ∧ (¬ r22 ≤ (100000000000 : Int64) → mK M21 x0 = 10 ∧ wp_X9_halve x0 x2 M21 (fun M28 => (lp_X9_follow_91 Q n) x0 x2 (x8 + 1) M28))))
theorem P_lp_X9_follow_91 {G : GG} {Q : Int32 → Mem → Prop} : ∀ (n : Nat) (x0 : Nat) (x2 : Nat) (x8 : Int32) (M : Mem), lp_X9_follow_91 Q n x0 x2 x8 M → PW G mX9_follow (rmD 2 0 0) (QI Q) 91 [some (.ref x0), none, some (.ref x2), none, none, none, none, none, some (.int x8)] [] M 0 0 := by
  intro n
  induction n with
  | zero => intro x0 x2 x8 M h; exact h.elim
  | succ n ih =>
    intro x0 x2 x8 M h
    exact (s_iload (pc := 91) dX9_follow_91 rfl (s_bipush (pc := 93) dX9_follow_93 cb_64 (s_icmp_ge (pc := 95) (tgt := 121) dX9_follow_95 rfl (fun c16 => have h17 := h.1 c16; s_iconst (pc := 121) dX9_follow_121 ci_1 (s_zreturn (pc := 122) dX9_follow_122 rfl (Or.inr rfl) (Nat.zero_le _) (Nat.zero_le _) ⟨_, rfl, h17⟩)) (fun c18 => have h19 := h.2 c18; s_aload_n (pc := 98) dX9_follow_98 rfl (s_aload_n (pc := 99) dX9_follow_99 rfl (s_callV (pc := 100) (As := [.ref x2]) (rest := []) (d' := 1) (mc' := 0) (ms' := 0) dX9_follow_100 c_X9_59 (Nat.le_of_ble_eq_true rfl) rfl h19.1 rfl rfl (Nat.le_of_ble_eq_true rfl) (rm_ok rfl rfl) ⟨Nat.le_refl 0, Nat.le_refl 0⟩ (T_X9_greatest h19.2) (kkJ (fun r22 M21 h20 => s_ldc2 (pc := 103) dX9_follow_103 k_X9_63 (s_lif_le (pc := 106) (tgt := 121) dX9_follow_106 dX9_follow_107 rfl (fun c23 => have h24 := h20.1 c23; s_iconst (pc := 121) dX9_follow_121 ci_1 (s_zreturn (pc := 122) dX9_follow_122 rfl (Or.inr rfl) (Nat.zero_le _) (Nat.zero_le _) ⟨_, rfl, h24⟩)) (fun c25 => have h26 := h20.2 c25; s_aload_n (pc := 110) dX9_follow_110 rfl (s_aload_n (pc := 111) dX9_follow_111 rfl (s_callV (pc := 112) (As := [.ref x2]) (rest := []) (d' := 0) (mc' := 0) (ms' := 0) dX9_follow_112 c_X9_65 (Nat.le_of_ble_eq_true rfl) rfl h26.1 rfl rfl (Nat.le_of_ble_eq_true rfl) (rm_ok rfl rfl) ⟨Nat.le_refl 0, Nat.le_refl 0⟩ (T_X9_halve h26.2) (kkV (fun M28 h27 => s_iinc (pc := 115) (L1 := [some (.ref x0), none, some (.ref x2), none, none, none, none, none, some (.int (x8 + 1))]) dX9_follow_115 rfl ci_1 (Nat.le_of_ble_eq_true rfl) rfl (s_goto (pc := 118) (tgt := 91) dX9_follow_118 rfl (s_sel (L1 := [some (.ref x0), none, some (.ref x2), none, none, none, none, none, some (.int (x8 + 1))]) [true, false, true, false, false, false, false, false, true] rfl (ih x0 x2 (x8 + 1) M28 h27)))))))))))))))))
def jn_X9_follow_88 (Q : Int32 → Mem → Prop) (x0 : Nat) (x2 : Nat) (M : Mem) : Prop := ∃ n29 : Nat, lp_X9_follow_91 Q n29 x0 x2 0 M
theorem P_jn_X9_follow_88 {G : GG} {Q : Int32 → Mem → Prop} (x0 : Nat) (x2 : Nat) (M : Mem) (h : jn_X9_follow_88 Q x0 x2 M) : PW G mX9_follow (rmD 2 0 0) (QI Q) 88 [some (.ref x0), none, some (.ref x2), none, none, none, none, none, none] [] M 0 0 := (s_iconst (pc := 88) dX9_follow_88 ci_0 (s_istore (pc := 89) (L1 := [some (.ref x0), none, some (.ref x2), none, none, none, none, none, some (.int 0)]) dX9_follow_89 (Nat.le_of_ble_eq_true rfl) rfl (Exists.elim h (fun n29 hn => s_sel (L1 := [some (.ref x0), none, some (.ref x2), none, none, none, none, none, some (.int 0)]) [true, false, true, false, false, false, false, false, true] rfl (P_lp_X9_follow_91 n29 x0 x2 0 M hn)))))
def lp_X9_follow_54 (Q : Int32 → Mem → Prop) : Nat → Nat → Nat → Int64 → Int32 → Mem → Prop
  | 0 => fun _ _ _ _ _ => False
  | n + 1 => fun x0 x2 x6 x8 M => mK M x2 = 7 ∧ ((mI M x2 0) ≤ x8 → jn_X9_follow_88 Q x0 x2 M) ∧ (¬ (mI M x2 0) ≤ x8 → (x6 ≤ (1 : Int64) → jn_X9_follow_88 Q x0 x2 M) ∧ (¬ x6 ≤ (1 : Int64) → mK M x0 = 10 ∧ mK M (mR M x0 0) = 21 ∧ vp_in x8 (mN M (mR M x0 0)) ∧ ¬ x6 = 0 ∧ vp_in x8 (mN M (mR M x0 0)) ∧ ∀ M34 : Mem, M34 = uJ M (mR M x0 0) x8.toNatClampNeg ((mJ M (mR M x0 0) x8.toNatClampNeg) / x6) → (lp_X9_follow_54 Q n) x0 x2 x6 (x8 + 1) M34))
theorem P_lp_X9_follow_54 {G : GG} {Q : Int32 → Mem → Prop} : ∀ (n : Nat) (x0 : Nat) (x2 : Nat) (x6 : Int64) (x8 : Int32) (M : Mem), lp_X9_follow_54 Q n x0 x2 x6 x8 M → PW G mX9_follow (rmD 2 0 0) (QI Q) 54 [some (.ref x0), none, some (.ref x2), none, none, none, some (.long x6), none, some (.int x8)] [] M 0 0 := by
  intro n
  induction n with
  | zero => intro x0 x2 x6 x8 M h; exact h.elim
  | succ n ih =>
    intro x0 x2 x6 x8 M h
    exact (s_iload (pc := 54) dX9_follow_54 rfl (s_aload_n (pc := 56) dX9_follow_56 rfl (s_getI (pc := 57) dX9_follow_57 f_X9_15 rfl h.1 (s_icmp_ge (pc := 60) (tgt := 88) dX9_follow_60 rfl (fun c12 => have h13 := h.2.1 c12; s_sel (L1 := [some (.ref x0), none, some (.ref x2), none, none, none, none, none, none]) [true, false, true, false, false, false, false, false, false] rfl (P_jn_X9_follow_88 x0 x2 M h13)) (fun c14 => have h15 := h.2.2 c14; s_lload (pc := 63) dX9_follow_63 rfl (s_lconst (pc := 65) (v := 1) dX9_follow_65 rfl (s_lif_le (pc := 66) (tgt := 88) dX9_follow_66 dX9_follow_67 rfl (fun c30 => have h31 := h15.1 c30; s_sel (L1 := [some (.ref x0), none, some (.ref x2), none, none, none, none, none, none]) [true, false, true, false, false, false, false, false, false] rfl (P_jn_X9_follow_88 x0 x2 M h31)) (fun c32 => have h33 := h15.2 c32; s_aload_n (pc := 70) dX9_follow_70 rfl (s_getR (pc := 71) dX9_follow_71 f_X9_9 rfl h33.1 (s_iload (pc := 74) dX9_follow_74 rfl (s_dup2 (pc := 76) dX9_follow_76 rfl rfl (s_lal (pc := 77) dX9_follow_77 h33.2.1 h33.2.2.1 (s_lload (pc := 78) dX9_follow_78 rfl (s_ldiv (pc := 80) dX9_follow_80 h33.2.2.2.1 (s_las (pc := 81) dX9_follow_81 h33.2.1 h33.2.2.2.2.1 (nmM (fun M34 e35 => have h36 := (h33.2.2.2.2.2) M34 e35; s_iinc (pc := 82) (L1 := [some (.ref x0), none, some (.ref x2), none, none, none, some (.long x6), none, some (.int (x8 + 1))]) dX9_follow_82 rfl ci_1 (Nat.le_of_ble_eq_true rfl) rfl (s_goto (pc := 85) (tgt := 54) dX9_follow_85 rfl (s_sel (L1 := [some (.ref x0), none, some (.ref x2), none, none, none, some (.long x6), none, some (.int (x8 + 1))]) [true, false, true, false, false, false, true, false, true] rfl (ih x0 x2 x6 (x8 + 1) M34 h36))))))))))))))))))))
def lp_X9_follow_22 (Q : Int32 → Mem → Prop) : Nat → Nat → Nat → Int64 → Int32 → Mem → Prop
  | 0 => fun _ _ _ _ _ => False
  | n + 1 => fun x0 x2 x6 x8 M => mK M x2 = 7 ∧ ((mI M x2 0) ≤ x8 → ∃ n37 : Nat, lp_X9_follow_54 Q n37 x0 x2 x6 0 M) ∧ (¬ (mI M x2 0) ≤ x8 → mK M x0 = 10 ∧ mK M (mR M x0 0) = 21 ∧ vp_in x8 (mN M (mR M x0 0)) ∧ wp_X12_divisorOf x6 (mJ M (mR M x0 0) x8.toNatClampNeg) M (fun r40 M39 => (lp_X9_follow_22 Q n) x0 x2 r40 (x8 + 1) M39))
theorem P_lp_X9_follow_22 {G : GG} {Q : Int32 → Mem → Prop} : ∀ (n : Nat) (x0 : Nat) (x2 : Nat) (x6 : Int64) (x8 : Int32) (M : Mem), lp_X9_follow_22 Q n x0 x2 x6 x8 M → PW G mX9_follow (rmD 2 0 0) (QI Q) 22 [some (.ref x0), none, some (.ref x2), none, none, none, some (.long x6), none, some (.int x8)] [] M 0 0 := by
  intro n
  induction n with
  | zero => intro x0 x2 x6 x8 M h; exact h.elim
  | succ n ih =>
    intro x0 x2 x6 x8 M h
    exact (s_iload (pc := 22) dX9_follow_22 rfl (s_aload_n (pc := 24) dX9_follow_24 rfl (s_getI (pc := 25) dX9_follow_25 f_X9_15 rfl h.1 (s_icmp_ge (pc := 28) (tgt := 51) dX9_follow_28 rfl (fun c8 => have h9 := h.2.1 c8; s_iconst (pc := 51) dX9_follow_51 ci_0 (s_istore (pc := 52) (L1 := [some (.ref x0), none, some (.ref x2), none, none, none, some (.long x6), none, some (.int 0)]) dX9_follow_52 (Nat.le_of_ble_eq_true rfl) rfl (Exists.elim h9 (fun n37 hn => s_sel (L1 := [some (.ref x0), none, some (.ref x2), none, none, none, some (.long x6), none, some (.int 0)]) [true, false, true, false, false, false, true, false, true] rfl (P_lp_X9_follow_54 n37 x0 x2 x6 0 M hn))))) (fun c10 => have h11 := h.2.2 c10; s_lload (pc := 31) dX9_follow_31 rfl (s_aload_n (pc := 33) dX9_follow_33 rfl (s_getR (pc := 34) dX9_follow_34 f_X9_9 rfl h11.1 (s_iload (pc := 37) dX9_follow_37 rfl (s_lal (pc := 39) dX9_follow_39 h11.2.1 h11.2.2.1 (s_callSN (pc := 40) (As := [.long x6, .long (mJ M (mR M x0 0) x8.toNatClampNeg)]) (rest := []) (d' := 0) (mc' := 0) (ms' := 0) dX9_follow_40 c_X9_55 rfl rfl (Nat.le_of_ble_eq_true rfl) (rm_ok rfl rfl) ⟨Nat.le_refl 0, Nat.le_refl 0⟩ (T_X12_divisorOf h11.2.2.2) (kkJ (fun r40 M39 h38 => s_lstore (pc := 43) (L1 := [some (.ref x0), none, some (.ref x2), none, none, none, some (.long r40), none, some (.int x8)]) dX9_follow_43 (Nat.le_of_ble_eq_true rfl) rfl (s_iinc (pc := 45) (L1 := [some (.ref x0), none, some (.ref x2), none, none, none, some (.long r40), none, some (.int (x8 + 1))]) dX9_follow_45 rfl ci_1 (Nat.le_of_ble_eq_true rfl) rfl (s_goto (pc := 48) (tgt := 22) dX9_follow_48 rfl (s_sel (L1 := [some (.ref x0), none, some (.ref x2), none, none, none, some (.long r40), none, some (.int (x8 + 1))]) [true, false, true, false, false, false, true, false, true] rfl (ih x0 x2 r40 (x8 + 1) M39 h38))))))))))))))))
def wp_X9_follow (p0 : Nat) (p1 : Nat) (p2 : Nat) (p3 : Int32) (p4 : Int32) (p5 : Int32) (M : Mem) (Q : Int32 → Mem → Prop) : Prop := mK M p0 = 10 ∧ wp_X9_takeTimes p0 p1 p2 p3 p4 p5 M (fun r3 M2 => (¬ r3 = (0 : Int32) → ∃ n41 : Nat, lp_X9_follow_22 Q n41 p0 p2 0 0 M2) ∧ (r3 = (0 : Int32) → Q 0 M2))
theorem T_X9_follow {G : GG} {Q : Int32 → Mem → Prop} {M : Mem} {p0 : Nat} {p1 : Nat} {p2 : Nat} {p3 : Int32} {p4 : Int32} {p5 : Int32} (h : wp_X9_follow p0 p1 p2 p3 p4 p5 M Q) : PMet G mX9_follow 2 0 0 [.ref p0, .ref p1, .ref p2, .int p3, .int p4, .int p5] M (QI Q) :=
  mk_met (by decide) rfl rfl (by
    intro w hw x9 e9
    subst e9
    simp at hw) (Nat.le_of_ble_eq_true rfl) (s_pad (L1 := [some (.ref p0), some (.ref p1), some (.ref p2), some (.int p3), some (.int p4), some (.int p5), none, none, none]) 9 rfl (s_aload_n (pc := 0) dX9_follow_0 rfl (s_aload_n (pc := 1) dX9_follow_1 rfl (s_aload_n (pc := 2) dX9_follow_2 rfl (s_iload_n (pc := 3) dX9_follow_3 rfl (s_iload (pc := 4) dX9_follow_4 rfl (s_iload (pc := 6) dX9_follow_6 rfl (s_callV (pc := 8) (As := [.ref p1, .ref p2, .int p3, .int p4, .int p5]) (rest := []) (d' := 1) (mc' := 0) (ms' := 0) dX9_follow_8 c_X9_51 (Nat.le_of_ble_eq_true rfl) rfl h.1 rfl rfl (Nat.le_of_ble_eq_true rfl) (rm_ok rfl rfl) ⟨Nat.le_refl 0, Nat.le_refl 0⟩ (T_X9_takeTimes h.2) (kkI (fun r3 M2 h1 => s_if_ne (pc := 11) (tgt := 16) dX9_follow_11 rfl (fun c4 => have h5 := h1.1 c4; s_lconst (pc := 16) (v := 0) dX9_follow_16 rfl (s_lstore (pc := 17) (L1 := [some (.ref p0), some (.ref p1), some (.ref p2), some (.int p3), some (.int p4), some (.int p5), some (.long 0), none, none]) dX9_follow_17 (Nat.le_of_ble_eq_true rfl) rfl (s_iconst (pc := 19) dX9_follow_19 ci_0 (s_istore (pc := 20) (L1 := [some (.ref p0), some (.ref p1), some (.ref p2), some (.int p3), some (.int p4), some (.int p5), some (.long 0), none, some (.int 0)]) dX9_follow_20 (Nat.le_of_ble_eq_true rfl) rfl (Exists.elim h5 (fun n41 hn => s_sel (L1 := [some (.ref p0), none, some (.ref p2), none, none, none, some (.long 0), none, some (.int 0)]) [true, false, true, false, false, false, true, false, true] rfl (P_lp_X9_follow_22 n41 p0 p2 0 0 M2 hn))))))) (fun c6 => have h7 := h1.2 c6; s_iconst (pc := 14) dX9_follow_14 ci_0 (s_zreturn (pc := 15) dX9_follow_15 rfl (Or.inl rfl) (Nat.zero_le _) (Nat.zero_le _) ⟨_, rfl, h7⟩))))))))))))
/-! X12_takings -/
theorem dX12_takings_0 : cod mX12_takings 0 (.iload_n 0) 1 := by decide +kernel
theorem dX12_takings_1 : cod mX12_takings 1 (.iconst 1) 1 := by decide +kernel
theorem dX12_takings_2 : cod mX12_takings 2 (.if_icmp .ne 7) 3 := by decide +kernel
theorem dX12_takings_5 : cod mX12_takings 5 (.iload_n 2) 1 := by decide +kernel
theorem dX12_takings_6 : cod mX12_takings 6 (.goto 14) 3 := by decide +kernel
theorem dX12_takings_9 : cod mX12_takings 9 (.iload_n 0) 1 := by decide +kernel
theorem dX12_takings_10 : cod mX12_takings 10 (.iconst 2) 1 := by decide +kernel
theorem dX12_takings_11 : cod mX12_takings 11 (.if_icmp .ne 8) 3 := by decide +kernel
theorem dX12_takings_14 : cod mX12_takings 14 (.iload_n 1) 1 := by decide +kernel
theorem dX12_takings_15 : cod mX12_takings 15 (.ineg) 1 := by decide +kernel
theorem dX12_takings_16 : cod mX12_takings 16 (.goto 4) 3 := by decide +kernel
theorem dX12_takings_19 : cod mX12_takings 19 (.iconst 0) 1 := by decide +kernel
theorem dX12_takings_20 : cod mX12_takings 20 (.ireturn) 1 := by decide +kernel
def wp_X12_takings (p0 : Int32) (p1 : Int32) (p2 : Int32) (M : Mem) (Q : Int32 → Mem → Prop) : Prop := (¬ p0 = (1 : Int32) → (¬ p0 = (2 : Int32) → Q 0 M) ∧ (p0 = (2 : Int32) → Q (-p1) M)) ∧ (p0 = (1 : Int32) → Q p2 M)
theorem T_X12_takings {G : GG} {Q : Int32 → Mem → Prop} {M : Mem} {p0 : Int32} {p1 : Int32} {p2 : Int32} (h : wp_X12_takings p0 p1 p2 M Q) : PMet G mX12_takings 0 0 0 [.int p0, .int p1, .int p2] M (QI Q) :=
  mk_met (by decide) rfl rfl (by
    intro w hw x9 e9
    subst e9
    simp at hw) (Nat.le_of_ble_eq_true rfl) (s_pad (L1 := [some (.int p0), some (.int p1), some (.int p2)]) 3 rfl (s_iload_n (pc := 0) dX12_takings_0 rfl (s_iconst (pc := 1) dX12_takings_1 ci_1 (s_icmp_ne (pc := 2) (tgt := 9) dX12_takings_2 rfl (fun c1 => have h2 := h.1 c1; s_iload_n (pc := 9) dX12_takings_9 rfl (s_iconst (pc := 10) dX12_takings_10 ci_2 (s_icmp_ne (pc := 11) (tgt := 19) dX12_takings_11 rfl (fun c5 => have h6 := h2.1 c5; s_iconst (pc := 19) dX12_takings_19 ci_0 (s_ireturn (pc := 20) dX12_takings_20 rfl (Nat.zero_le _) (Nat.zero_le _) ⟨_, rfl, h6⟩)) (fun c7 => have h8 := h2.2 c7; s_iload_n (pc := 14) dX12_takings_14 rfl (s_ineg (pc := 15) dX12_takings_15 (s_goto (pc := 16) (tgt := 20) dX12_takings_16 rfl (s_ireturn (pc := 20) dX12_takings_20 rfl (Nat.zero_le _) (Nat.zero_le _) ⟨_, rfl, h8⟩))))))) (fun c3 => have h4 := h.2 c3; s_iload_n (pc := 5) dX12_takings_5 rfl (s_goto (pc := 6) (tgt := 20) dX12_takings_6 rfl (s_ireturn (pc := 20) dX12_takings_20 rfl (Nat.zero_le _) (Nat.zero_le _) ⟨_, rfl, h4⟩)))))))
/-! X6_costOf -/
theorem dX6_costOf_0 : cod mX6_costOf 0 (.aload_n 0) 1 := by decide +kernel
theorem dX6_costOf_1 : cod mX6_costOf 1 (.getfield 46) 3 := by decide +kernel
theorem dX6_costOf_4 : cod mX6_costOf 4 (.iload_n 1) 1 := by decide +kernel
theorem dX6_costOf_5 : cod mX6_costOf 5 (.invokestatic 73) 3 := by decide +kernel
theorem dX6_costOf_8 : cod mX6_costOf 8 (.imul) 1 := by decide +kernel
theorem dX6_costOf_9 : cod mX6_costOf 9 (.ireturn) 1 := by decide +kernel
def wp_X6_costOf (p0 : Nat) (p1 : Int32) (M : Mem) (Q : Int32 → Mem → Prop) : Prop := mK M p0 = 7 ∧ Q ((mI M p0 8) * (iAbs p1)) M
theorem T_X6_costOf {G : GG} {Q : Int32 → Mem → Prop} {M : Mem} {p0 : Nat} {p1 : Int32} (h : wp_X6_costOf p0 p1 M Q) : PMet G mX6_costOf 1 0 0 [.ref p0, .int p1] M (QI Q) :=
  mk_met (by decide) rfl rfl (by
    intro w hw x9 e9
    subst e9
    simp at hw) (Nat.le_of_ble_eq_true rfl) (s_pad (L1 := [some (.ref p0), some (.int p1)]) 2 rfl (s_aload_n (pc := 0) dX6_costOf_0 rfl (s_getI (pc := 1) dX6_costOf_1 f_X6_46 rfl h.1 (s_iload_n (pc := 4) dX6_costOf_4 rfl (s_mabs (pc := 5) dX6_costOf_5 c_X6_73 (Nat.le_of_ble_eq_true rfl) (Nat.le_of_ble_eq_true rfl) (Nat.le_refl 0) (Nat.le_refl 0) (s_imul (pc := 8) dX6_costOf_8 (s_ireturn (pc := 9) dX6_costOf_9 rfl (Nat.zero_le _) (Nat.zero_le _) ⟨_, rfl, h.2⟩)))))))
/-! X0_goOn -/
theorem dX0_goOn_0 : cod mX0_goOn 0 (.iload_n 3) 1 := by decide +kernel
theorem dX0_goOn_1 : cod mX0_goOn 1 (.aload_n 1) 1 := by decide +kernel
theorem dX0_goOn_2 : cod mX0_goOn 2 (.getfield 34) 3 := by decide +kernel
theorem dX0_goOn_5 : cod mX0_goOn 5 (.if_icmp .ge 9) 3 := by decide +kernel
theorem dX0_goOn_8 : cod mX0_goOn 8 (.iload_n 3) 1 := by decide +kernel
theorem dX0_goOn_9 : cod mX0_goOn 9 (.bipush 6) 2 := by decide +kernel
theorem dX0_goOn_11 : cod mX0_goOn 11 (.if_icmp .lt 14) 3 := by decide +kernel
theorem dX0_goOn_14 : cod mX0_goOn 14 (.aload_n 0) 1 := by decide +kernel
theorem dX0_goOn_15 : cod mX0_goOn 15 (.aload_n 1) 1 := by decide +kernel
theorem dX0_goOn_16 : cod mX0_goOn 16 (.iload_n 3) 1 := by decide +kernel
theorem dX0_goOn_17 : cod mX0_goOn 17 (.iload 4) 2 := by decide +kernel
theorem dX0_goOn_19 : cod mX0_goOn 19 (.iload 5) 2 := by decide +kernel
theorem dX0_goOn_21 : cod mX0_goOn 21 (.invokevirtual 112) 3 := by decide +kernel
theorem dX0_goOn_24 : cod mX0_goOn 24 (.return_) 1 := by decide +kernel
theorem dX0_goOn_25 : cod mX0_goOn 25 (.aload_n 0) 1 := by decide +kernel
theorem dX0_goOn_26 : cod mX0_goOn 26 (.getfield 11) 3 := by decide +kernel
theorem dX0_goOn_29 : cod mX0_goOn 29 (.iload_n 3) 1 := by decide +kernel
theorem dX0_goOn_30 : cod mX0_goOn 30 (.aaload) 1 := by decide +kernel
theorem dX0_goOn_31 : cod mX0_goOn 31 (.astore 6) 2 := by decide +kernel
theorem dX0_goOn_33 : cod mX0_goOn 33 (.aload_n 0) 1 := by decide +kernel
theorem dX0_goOn_34 : cod mX0_goOn 34 (.getfield 11) 3 := by decide +kernel
theorem dX0_goOn_37 : cod mX0_goOn 37 (.iload_n 3) 1 := by decide +kernel
theorem dX0_goOn_38 : cod mX0_goOn 38 (.iconst 1) 1 := by decide +kernel
theorem dX0_goOn_39 : cod mX0_goOn 39 (.iadd) 1 := by decide +kernel
theorem dX0_goOn_40 : cod mX0_goOn 40 (.aaload) 1 := by decide +kernel
theorem dX0_goOn_41 : cod mX0_goOn 41 (.astore 7) 2 := by decide +kernel
theorem dX0_goOn_43 : cod mX0_goOn 43 (.aload_n 2) 1 := by decide +kernel
theorem dX0_goOn_44 : cod mX0_goOn 44 (.aload_n 1) 1 := by decide +kernel
theorem dX0_goOn_45 : cod mX0_goOn 45 (.aload 6) 2 := by decide +kernel
theorem dX0_goOn_47 : cod mX0_goOn 47 (.invokevirtual 39) 3 := by decide +kernel
theorem dX0_goOn_50 : cod mX0_goOn 50 (.istore 8) 2 := by decide +kernel
theorem dX0_goOn_52 : cod mX0_goOn 52 (.aload_n 2) 1 := by decide +kernel
theorem dX0_goOn_53 : cod mX0_goOn 53 (.aload_n 1) 1 := by decide +kernel
theorem dX0_goOn_54 : cod mX0_goOn 54 (.aload 6) 2 := by decide +kernel
theorem dX0_goOn_56 : cod mX0_goOn 56 (.iload 8) 2 := by decide +kernel
theorem dX0_goOn_58 : cod mX0_goOn 58 (.invokevirtual 45) 3 := by decide +kernel
theorem dX0_goOn_61 : cod mX0_goOn 61 (.istore 9) 2 := by decide +kernel
theorem dX0_goOn_63 : cod mX0_goOn 63 (.iconst 0) 1 := by decide +kernel
theorem dX0_goOn_64 : cod mX0_goOn 64 (.istore 10) 2 := by decide +kernel
theorem dX0_goOn_66 : cod mX0_goOn 66 (.iload 10) 2 := by decide +kernel
theorem dX0_goOn_68 : cod mX0_goOn 68 (.iconst 2) 1 := by decide +kernel
theorem dX0_goOn_69 : cod mX0_goOn 69 (.if_icmp .gt 152) 3 := by decide +kernel
theorem dX0_goOn_72 : cod mX0_goOn 72 (.aload 7) 2 := by decide +kernel
theorem dX0_goOn_74 : cod mX0_goOn 74 (.aload 6) 2 := by decide +kernel
theorem dX0_goOn_76 : cod mX0_goOn 76 (.aload_n 1) 1 := by decide +kernel
theorem dX0_goOn_77 : cod mX0_goOn 77 (.iload 10) 2 := by decide +kernel
theorem dX0_goOn_79 : cod mX0_goOn 79 (.iload 8) 2 := by decide +kernel
theorem dX0_goOn_81 : cod mX0_goOn 81 (.iload 9) 2 := by decide +kernel
theorem dX0_goOn_83 : cod mX0_goOn 83 (.invokevirtual 54) 3 := by decide +kernel
theorem dX0_goOn_86 : cod mX0_goOn 86 (.ifCond .eq 129) 3 := by decide +kernel
theorem dX0_goOn_89 : cod mX0_goOn 89 (.iconst 0) 1 := by decide +kernel
theorem dX0_goOn_90 : cod mX0_goOn 90 (.istore 11) 2 := by decide +kernel
theorem dX0_goOn_92 : cod mX0_goOn 92 (.iload 11) 2 := by decide +kernel
theorem dX0_goOn_94 : cod mX0_goOn 94 (.aload_n 1) 1 := by decide +kernel
theorem dX0_goOn_95 : cod mX0_goOn 95 (.getfield 102) 3 := by decide +kernel
theorem dX0_goOn_98 : cod mX0_goOn 98 (.if_icmp .ge 45) 3 := by decide +kernel
theorem dX0_goOn_101 : cod mX0_goOn 101 (.aload_n 0) 1 := by decide +kernel
theorem dX0_goOn_102 : cod mX0_goOn 102 (.getfield 19) 3 := by decide +kernel
theorem dX0_goOn_105 : cod mX0_goOn 105 (.iload_n 3) 1 := by decide +kernel
theorem dX0_goOn_106 : cod mX0_goOn 106 (.iconst 1) 1 := by decide +kernel
theorem dX0_goOn_107 : cod mX0_goOn 107 (.iadd) 1 := by decide +kernel
theorem dX0_goOn_108 : cod mX0_goOn 108 (.aaload) 1 := by decide +kernel
theorem dX0_goOn_109 : cod mX0_goOn 109 (.iload 11) 2 := by decide +kernel
theorem dX0_goOn_111 : cod mX0_goOn 111 (.aload_n 0) 1 := by decide +kernel
theorem dX0_goOn_112 : cod mX0_goOn 112 (.getfield 19) 3 := by decide +kernel
theorem dX0_goOn_115 : cod mX0_goOn 115 (.iload_n 3) 1 := by decide +kernel
theorem dX0_goOn_116 : cod mX0_goOn 116 (.aaload) 1 := by decide +kernel
theorem dX0_goOn_117 : cod mX0_goOn 117 (.iload 11) 2 := by decide +kernel
theorem dX0_goOn_119 : cod mX0_goOn 119 (.laload) 1 := by decide +kernel
theorem dX0_goOn_120 : cod mX0_goOn 120 (.aload 6) 2 := by decide +kernel
theorem dX0_goOn_122 : cod mX0_goOn 122 (.aload_n 1) 1 := by decide +kernel
theorem dX0_goOn_123 : cod mX0_goOn 123 (.iload 10) 2 := by decide +kernel
theorem dX0_goOn_125 : cod mX0_goOn 125 (.iload 11) 2 := by decide +kernel
theorem dX0_goOn_127 : cod mX0_goOn 127 (.iload 8) 2 := by decide +kernel
theorem dX0_goOn_129 : cod mX0_goOn 129 (.iload 9) 2 := by decide +kernel
theorem dX0_goOn_131 : cod mX0_goOn 131 (.invokevirtual 116) 3 := by decide +kernel
theorem dX0_goOn_134 : cod mX0_goOn 134 (.i2l) 1 := by decide +kernel
theorem dX0_goOn_135 : cod mX0_goOn 135 (.lmul) 1 := by decide +kernel
theorem dX0_goOn_136 : cod mX0_goOn 136 (.lastore) 1 := by decide +kernel
theorem dX0_goOn_137 : cod mX0_goOn 137 (.iinc 11 1) 3 := by decide +kernel
theorem dX0_goOn_140 : cod mX0_goOn 140 (.goto (-48)) 3 := by decide +kernel
theorem dX0_goOn_143 : cod mX0_goOn 143 (.iload 4) 2 := by decide +kernel
theorem dX0_goOn_145 : cod mX0_goOn 145 (.iload 10) 2 := by decide +kernel
theorem dX0_goOn_147 : cod mX0_goOn 147 (.iload 8) 2 := by decide +kernel
theorem dX0_goOn_149 : cod mX0_goOn 149 (.iload 9) 2 := by decide +kernel
theorem dX0_goOn_151 : cod mX0_goOn 151 (.invokestatic 62) 3 := by decide +kernel
theorem dX0_goOn_154 : cod mX0_goOn 154 (.iadd) 1 := by decide +kernel
theorem dX0_goOn_155 : cod mX0_goOn 155 (.aload_n 1) 1 := by decide +kernel
theorem dX0_goOn_156 : cod mX0_goOn 156 (.aload 7) 2 := by decide +kernel
theorem dX0_goOn_158 : cod mX0_goOn 158 (.getfield 66) 3 := by decide +kernel
theorem dX0_goOn_161 : cod mX0_goOn 161 (.invokevirtual 69) 3 := by decide +kernel
theorem dX0_goOn_164 : cod mX0_goOn 164 (.isub) 1 := by decide +kernel
theorem dX0_goOn_165 : cod mX0_goOn 165 (.istore 11) 2 := by decide +kernel
theorem dX0_goOn_167 : cod mX0_goOn 167 (.aload 7) 2 := by decide +kernel
theorem dX0_goOn_169 : cod mX0_goOn 169 (.getfield 66) 3 := by decide +kernel
theorem dX0_goOn_172 : cod mX0_goOn 172 (.invokestatic 120) 3 := by decide +kernel
theorem dX0_goOn_175 : cod mX0_goOn 175 (.aload_n 1) 1 := by decide +kernel
theorem dX0_goOn_176 : cod mX0_goOn 176 (.getfield 92) 3 := by decide +kernel
theorem dX0_goOn_179 : cod mX0_goOn 179 (.if_icmp .ne 7) 3 := by decide +kernel
theorem dX0_goOn_182 : cod mX0_goOn 182 (.iconst 1) 1 := by decide +kernel
theorem dX0_goOn_183 : cod mX0_goOn 183 (.goto 4) 3 := by decide +kernel
theorem dX0_goOn_186 : cod mX0_goOn 186 (.iconst 0) 1 := by decide +kernel
theorem dX0_goOn_187 : cod mX0_goOn 187 (.istore 12) 2 := by decide +kernel
theorem dX0_goOn_189 : cod mX0_goOn 189 (.aload_n 0) 1 := by decide +kernel
theorem dX0_goOn_190 : cod mX0_goOn 190 (.aload_n 1) 1 := by decide +kernel
theorem dX0_goOn_191 : cod mX0_goOn 191 (.aload_n 2) 1 := by decide +kernel
theorem dX0_goOn_192 : cod mX0_goOn 192 (.iload_n 3) 1 := by decide +kernel
theorem dX0_goOn_193 : cod mX0_goOn 193 (.iconst 1) 1 := by decide +kernel
theorem dX0_goOn_194 : cod mX0_goOn 194 (.iadd) 1 := by decide +kernel
theorem dX0_goOn_195 : cod mX0_goOn 195 (.iload 11) 2 := by decide +kernel
theorem dX0_goOn_197 : cod mX0_goOn 197 (.iload 5) 2 := by decide +kernel
theorem dX0_goOn_199 : cod mX0_goOn 199 (.ifCond .ne 8) 3 := by decide +kernel
theorem dX0_goOn_202 : cod mX0_goOn 202 (.iload 12) 2 := by decide +kernel
theorem dX0_goOn_204 : cod mX0_goOn 204 (.ifCond .eq 7) 3 := by decide +kernel
theorem dX0_goOn_207 : cod mX0_goOn 207 (.iconst 1) 1 := by decide +kernel
theorem dX0_goOn_208 : cod mX0_goOn 208 (.goto 4) 3 := by decide +kernel
theorem dX0_goOn_211 : cod mX0_goOn 211 (.iconst 0) 1 := by decide +kernel
theorem dX0_goOn_212 : cod mX0_goOn 212 (.invokevirtual 108) 3 := by decide +kernel
theorem dX0_goOn_215 : cod mX0_goOn 215 (.iinc 10 1) 3 := by decide +kernel
theorem dX0_goOn_218 : cod mX0_goOn 218 (.goto (-152)) 3 := by decide +kernel
theorem dX0_goOn_221 : cod mX0_goOn 221 (.return_) 1 := by decide +kernel
def jn_X0_goOn_14 (R : Nat → Nat → Nat → Int32 → Int32 → Int32 → Mem → (Mem → Prop) → Prop) (Q : Mem → Prop) (x0 : Nat) (x1 : Nat) (x3 : Int32) (x4 : Int32) (x5 : Int32) (M : Mem) : Prop := mK M x0 = 1 ∧ wp_X0_close x0 x1 x3 x4 x5 M (fun M6 => Q M6)
theorem P_jn_X0_goOn_14 {G : GG} {R : Nat → Nat → Nat → Int32 → Int32 → Int32 → Mem → (Mem → Prop) → Prop} {j : Nat} {Q : Mem → Prop} (hR : ∀ (p0 : Nat) (p1 : Nat) (p2 : Nat) (p3 : Int32) (p4 : Int32) (p5 : Int32) (M : Mem) (Q : Mem → Prop), R p0 p1 p2 p3 p4 p5 M Q → PMet G mX0_goOn (j + 4) 0 0 [.ref p0, .ref p1, .ref p2, .int p3, .int p4, .int p5] M (QV Q)) (x0 : Nat) (x1 : Nat) (x3 : Int32) (x4 : Int32) (x5 : Int32) (M : Mem) (h : jn_X0_goOn_14 R Q x0 x1 x3 x4 x5 M) : PW G mX0_goOn (rmD (j + 5) 0 0) (QV Q) 14 [some (.ref x0), some (.ref x1), none, some (.int x3), some (.int x4), some (.int x5), none, none, none, none, none, none, none] [] M 0 0 := (s_aload_n (pc := 14) dX0_goOn_14 rfl (s_aload_n (pc := 15) dX0_goOn_15 rfl (s_iload_n (pc := 16) dX0_goOn_16 rfl (s_iload (pc := 17) dX0_goOn_17 rfl (s_iload (pc := 19) dX0_goOn_19 rfl (s_callV (pc := 21) (As := [.ref x1, .int x3, .int x4, .int x5]) (rest := []) (d' := 0) (mc' := 0) (ms' := 0) dX0_goOn_21 c_X0_112 (Nat.le_of_ble_eq_true rfl) rfl h.1 rfl rfl (Nat.le_of_ble_eq_true rfl) (rm_okJ rfl rfl) ⟨Nat.le_refl 0, Nat.le_refl 0⟩ (T_X0_close h.2) (kkV (fun M6 h5 => s_return (pc := 24) dX0_goOn_24 rfl (Nat.zero_le _) (Nat.zero_le _) ⟨rfl, h5⟩))))))))
def jn_X0_goOn_215 (R : Nat → Nat → Nat → Int32 → Int32 → Int32 → Mem → (Mem → Prop) → Prop) (K66 : Nat → Nat → Nat → Int32 → Int32 → Int32 → Nat → Nat → Int32 → Int32 → Int32 → Mem → Prop) (Q : Mem → Prop) (x0 : Nat) (x1 : Nat) (x2 : Nat) (x3 : Int32) (x4 : Int32) (x5 : Int32) (x6 : Nat) (x7 : Nat) (x8 : Int32) (x9 : Int32) (x10 : Int32) (M : Mem) : Prop := K66 x0 x1 x2 x3 x4 x5 x6 x7 x8 x9 (x10 + 1) M
theorem P_jn_X0_goOn_215 {G : GG} {R : Nat → Nat → Nat → Int32 → Int32 → Int32 → Mem → (Mem → Prop) → Prop} {j : Nat} {K66 : Nat → Nat → Nat → Int32 → Int32 → Int32 → Nat → Nat → Int32 → Int32 → Int32 → Mem → Prop} {Q : Mem → Prop} (hR : ∀ (p0 : Nat) (p1 : Nat) (p2 : Nat) (p3 : Int32) (p4 : Int32) (p5 : Int32) (M : Mem) (Q : Mem → Prop), R p0 p1 p2 p3 p4 p5 M Q → PMet G mX0_goOn (j + 4) 0 0 [.ref p0, .ref p1, .ref p2, .int p3, .int p4, .int p5] M (QV Q)) (hK66 : ∀ (x0 : Nat) (x1 : Nat) (x2 : Nat) (x3 : Int32) (x4 : Int32) (x5 : Int32) (x6 : Nat) (x7 : Nat) (x8 : Int32) (x9 : Int32) (x10 : Int32) (M : Mem), K66 x0 x1 x2 x3 x4 x5 x6 x7 x8 x9 x10 M → PW G mX0_goOn (rmD (j + 5) 0 0) (QV Q) 66 [some (.ref x0), some (.ref x1), some (.ref x2), some (.int x3), some (.int x4), some (.int x5), some (.ref x6), some (.ref x7), some (.int x8), some (.int x9), some (.int x10), none, none] [] M 0 0) (x0 : Nat) (x1 : Nat) (x2 : Nat) (x3 : Int32) (x4 : Int32) (x5 : Int32) (x6 : Nat) (x7 : Nat) (x8 : Int32) (x9 : Int32) (x10 : Int32) (M : Mem) (h : jn_X0_goOn_215 R K66 Q x0 x1 x2 x3 x4 x5 x6 x7 x8 x9 x10 M) : PW G mX0_goOn (rmD (j + 5) 0 0) (QV Q) 215 [some (.ref x0), some (.ref x1), some (.ref x2), some (.int x3), some (.int x4), some (.int x5), some (.ref x6), some (.ref x7), some (.int x8), some (.int x9), some (.int x10), none, none] [] M 0 0 := (s_iinc (pc := 215) (L1 := [some (.ref x0), some (.ref x1), some (.ref x2), some (.int x3), some (.int x4), some (.int x5), some (.ref x6), some (.ref x7), some (.int x8), some (.int x9), some (.int (x10 + 1)), none, none]) dX0_goOn_215 rfl ci_1 (Nat.le_of_ble_eq_true rfl) rfl (s_goto (pc := 218) (tgt := 66) dX0_goOn_218 rfl (s_sel (L1 := [some (.ref x0), some (.ref x1), some (.ref x2), some (.int x3), some (.int x4), some (.int x5), some (.ref x6), some (.ref x7), some (.int x8), some (.int x9), some (.int (x10 + 1)), none, none]) [true, true, true, true, true, true, true, true, true, true, true, false, false] rfl (hK66 x0 x1 x2 x3 x4 x5 x6 x7 x8 x9 (x10 + 1) M h))))
def jn_X0_goOn_212 (R : Nat → Nat → Nat → Int32 → Int32 → Int32 → Mem → (Mem → Prop) → Prop) (K66 : Nat → Nat → Nat → Int32 → Int32 → Int32 → Nat → Nat → Int32 → Int32 → Int32 → Mem → Prop) (Q : Mem → Prop) (x0 : Nat) (x1 : Nat) (x2 : Nat) (x3 : Int32) (x4 : Int32) (x5 : Int32) (x6 : Nat) (x7 : Nat) (x8 : Int32) (x9 : Int32) (x10 : Int32) (s0 : Int32) (s1 : Int32) (s2 : Int32) (s3 : Nat) (s4 : Nat) (s5 : Nat) (M : Mem) : Prop := mK M s5 = 1 ∧ R s5 s4 s3 s2 s1 s0 M (fun M56 => jn_X0_goOn_215 R K66 Q x0 x1 x2 x3 x4 x5 x6 x7 x8 x9 x10 M56)
theorem P_jn_X0_goOn_212 {G : GG} {R : Nat → Nat → Nat → Int32 → Int32 → Int32 → Mem → (Mem → Prop) → Prop} {j : Nat} {K66 : Nat → Nat → Nat → Int32 → Int32 → Int32 → Nat → Nat → Int32 → Int32 → Int32 → Mem → Prop} {Q : Mem → Prop} (hR : ∀ (p0 : Nat) (p1 : Nat) (p2 : Nat) (p3 : Int32) (p4 : Int32) (p5 : Int32) (M : Mem) (Q : Mem → Prop), R p0 p1 p2 p3 p4 p5 M Q → PMet G mX0_goOn (j + 4) 0 0 [.ref p0, .ref p1, .ref p2, .int p3, .int p4, .int p5] M (QV Q)) (hK66 : ∀ (x0 : Nat) (x1 : Nat) (x2 : Nat) (x3 : Int32) (x4 : Int32) (x5 : Int32) (x6 : Nat) (x7 : Nat) (x8 : Int32) (x9 : Int32) (x10 : Int32) (M : Mem), K66 x0 x1 x2 x3 x4 x5 x6 x7 x8 x9 x10 M → PW G mX0_goOn (rmD (j + 5) 0 0) (QV Q) 66 [some (.ref x0), some (.ref x1), some (.ref x2), some (.int x3), some (.int x4), some (.int x5), some (.ref x6), some (.ref x7), some (.int x8), some (.int x9), some (.int x10), none, none] [] M 0 0) (x0 : Nat) (x1 : Nat) (x2 : Nat) (x3 : Int32) (x4 : Int32) (x5 : Int32) (x6 : Nat) (x7 : Nat) (x8 : Int32) (x9 : Int32) (x10 : Int32) (s0 : Int32) (s1 : Int32) (s2 : Int32) (s3 : Nat) (s4 : Nat) (s5 : Nat) (M : Mem) (h : jn_X0_goOn_212 R K66 Q x0 x1 x2 x3 x4 x5 x6 x7 x8 x9 x10 s0 s1 s2 s3 s4 s5 M) : PW G mX0_goOn (rmD (j + 5) 0 0) (QV Q) 212 [some (.ref x0), some (.ref x1), some (.ref x2), some (.int x3), some (.int x4), some (.int x5), some (.ref x6), some (.ref x7), some (.int x8), some (.int x9), some (.int x10), none, none] [.int s0, .int s1, .int s2, .ref s3, .ref s4, .ref s5] M 0 0 := (s_callV (pc := 212) (As := [.ref s4, .ref s3, .int s2, .int s1, .int s0]) (rest := []) (d' := j + 4) (mc' := 0) (ms' := 0) dX0_goOn_212 c_X0_108 (Nat.le_of_ble_eq_true rfl) rfl h.1 rfl rfl (Nat.le_of_ble_eq_true rfl) rm_okR ⟨Nat.le_refl 0, Nat.le_refl 0⟩ (hR _ _ _ _ _ _ _ _ h.2) (kkV (fun M56 h55 => s_sel (L1 := [some (.ref x0), some (.ref x1), some (.ref x2), some (.int x3), some (.int x4), some (.int x5), some (.ref x6), some (.ref x7), some (.int x8), some (.int x9), some (.int x10), none, none]) [true, true, true, true, true, true, true, true, true, true, true, false, false] rfl (P_jn_X0_goOn_215 hR hK66 x0 x1 x2 x3 x4 x5 x6 x7 x8 x9 x10 M56 h55))))
def jn_X0_goOn_207 (R : Nat → Nat → Nat → Int32 → Int32 → Int32 → Mem → (Mem → Prop) → Prop) (K66 : Nat → Nat → Nat → Int32 → Int32 → Int32 → Nat → Nat → Int32 → Int32 → Int32 → Mem → Prop) (Q : Mem → Prop) (x0 : Nat) (x1 : Nat) (x2 : Nat) (x3 : Int32) (x4 : Int32) (x5 : Int32) (x6 : Nat) (x7 : Nat) (x8 : Int32) (x9 : Int32) (x10 : Int32) (s0 : Int32) (s1 : Int32) (s2 : Nat) (s3 : Nat) (s4 : Nat) (M : Mem) : Prop := jn_X0_goOn_212 R K66 Q x0 x1 x2 x3 x4 x5 x6 x7 x8 x9 x10 1 s0 s1 s2 s3 s4 M
theorem P_jn_X0_goOn_207 {G : GG} {R : Nat → Nat → Nat → Int32 → Int32 → Int32 → Mem → (Mem → Prop) → Prop} {j : Nat} {K66 : Nat → Nat → Nat → Int32 → Int32 → Int32 → Nat → Nat → Int32 → Int32 → Int32 → Mem → Prop} {Q : Mem → Prop} (hR : ∀ (p0 : Nat) (p1 : Nat) (p2 : Nat) (p3 : Int32) (p4 : Int32) (p5 : Int32) (M : Mem) (Q : Mem → Prop), R p0 p1 p2 p3 p4 p5 M Q → PMet G mX0_goOn (j + 4) 0 0 [.ref p0, .ref p1, .ref p2, .int p3, .int p4, .int p5] M (QV Q)) (hK66 : ∀ (x0 : Nat) (x1 : Nat) (x2 : Nat) (x3 : Int32) (x4 : Int32) (x5 : Int32) (x6 : Nat) (x7 : Nat) (x8 : Int32) (x9 : Int32) (x10 : Int32) (M : Mem), K66 x0 x1 x2 x3 x4 x5 x6 x7 x8 x9 x10 M → PW G mX0_goOn (rmD (j + 5) 0 0) (QV Q) 66 [some (.ref x0), some (.ref x1), some (.ref x2), some (.int x3), some (.int x4), some (.int x5), some (.ref x6), some (.ref x7), some (.int x8), some (.int x9), some (.int x10), none, none] [] M 0 0) (x0 : Nat) (x1 : Nat) (x2 : Nat) (x3 : Int32) (x4 : Int32) (x5 : Int32) (x6 : Nat) (x7 : Nat) (x8 : Int32) (x9 : Int32) (x10 : Int32) (s0 : Int32) (s1 : Int32) (s2 : Nat) (s3 : Nat) (s4 : Nat) (M : Mem) (h : jn_X0_goOn_207 R K66 Q x0 x1 x2 x3 x4 x5 x6 x7 x8 x9 x10 s0 s1 s2 s3 s4 M) : PW G mX0_goOn (rmD (j + 5) 0 0) (QV Q) 207 [some (.ref x0), some (.ref x1), some (.ref x2), some (.int x3), some (.int x4), some (.int x5), some (.ref x6), some (.ref x7), some (.int x8), some (.int x9), some (.int x10), none, none] [.int s0, .int s1, .ref s2, .ref s3, .ref s4] M 0 0 := (s_iconst (pc := 207) dX0_goOn_207 ci_1 (s_goto (pc := 208) (tgt := 212) dX0_goOn_208 rfl (s_sel (L1 := [some (.ref x0), some (.ref x1), some (.ref x2), some (.int x3), some (.int x4), some (.int x5), some (.ref x6), some (.ref x7), some (.int x8), some (.int x9), some (.int x10), none, none]) [true, true, true, true, true, true, true, true, true, true, true, false, false] rfl (P_jn_X0_goOn_212 hR hK66 x0 x1 x2 x3 x4 x5 x6 x7 x8 x9 x10 1 s0 s1 s2 s3 s4 M h))))
def jn_X0_goOn_187 (R : Nat → Nat → Nat → Int32 → Int32 → Int32 → Mem → (Mem → Prop) → Prop) (K66 : Nat → Nat → Nat → Int32 → Int32 → Int32 → Nat → Nat → Int32 → Int32 → Int32 → Mem → Prop) (Q : Mem → Prop) (x0 : Nat) (x1 : Nat) (x2 : Nat) (x3 : Int32) (x4 : Int32) (x5 : Int32) (x6 : Nat) (x7 : Nat) (x8 : Int32) (x9 : Int32) (x10 : Int32) (x11 : Int32) (s0 : Int32) (M : Mem) : Prop := (¬ x5 = (0 : Int32) → jn_X0_goOn_207 R K66 Q x0 x1 x2 x3 x4 x5 x6 x7 x8 x9 x10 x11 (x3 + 1) x2 x1 x0 M) ∧ (x5 = (0 : Int32) → (s0 = (0 : Int32) → jn_X0_goOn_212 R K66 Q x0 x1 x2 x3 x4 x5 x6 x7 x8 x9 x10 0 x11 (x3 + 1) x2 x1 x0 M) ∧ (¬ s0 = (0 : Int32) → jn_X0_goOn_207 R K66 Q x0 x1 x2 x3 x4 x5 x6 x7 x8 x9 x10 x11 (x3 + 1) x2 x1 x0 M))
theorem P_jn_X0_goOn_187 {G : GG} {R : Nat → Nat → Nat → Int32 → Int32 → Int32 → Mem → (Mem → Prop) → Prop} {j : Nat} {K66 : Nat → Nat → Nat → Int32 → Int32 → Int32 → Nat → Nat → Int32 → Int32 → Int32 → Mem → Prop} {Q : Mem → Prop} (hR : ∀ (p0 : Nat) (p1 : Nat) (p2 : Nat) (p3 : Int32) (p4 : Int32) (p5 : Int32) (M : Mem) (Q : Mem → Prop), R p0 p1 p2 p3 p4 p5 M Q → PMet G mX0_goOn (j + 4) 0 0 [.ref p0, .ref p1, .ref p2, .int p3, .int p4, .int p5] M (QV Q)) (hK66 : ∀ (x0 : Nat) (x1 : Nat) (x2 : Nat) (x3 : Int32) (x4 : Int32) (x5 : Int32) (x6 : Nat) (x7 : Nat) (x8 : Int32) (x9 : Int32) (x10 : Int32) (M : Mem), K66 x0 x1 x2 x3 x4 x5 x6 x7 x8 x9 x10 M → PW G mX0_goOn (rmD (j + 5) 0 0) (QV Q) 66 [some (.ref x0), some (.ref x1), some (.ref x2), some (.int x3), some (.int x4), some (.int x5), some (.ref x6), some (.ref x7), some (.int x8), some (.int x9), some (.int x10), none, none] [] M 0 0) (x0 : Nat) (x1 : Nat) (x2 : Nat) (x3 : Int32) (x4 : Int32) (x5 : Int32) (x6 : Nat) (x7 : Nat) (x8 : Int32) (x9 : Int32) (x10 : Int32) (x11 : Int32) (s0 : Int32) (M : Mem) (h : jn_X0_goOn_187 R K66 Q x0 x1 x2 x3 x4 x5 x6 x7 x8 x9 x10 x11 s0 M) : PW G mX0_goOn (rmD (j + 5) 0 0) (QV Q) 187 [some (.ref x0), some (.ref x1), some (.ref x2), some (.int x3), some (.int x4), some (.int x5), some (.ref x6), some (.ref x7), some (.int x8), some (.int x9), some (.int x10), some (.int x11), none] [.int s0] M 0 0 := (s_istore (pc := 187) (L1 := [some (.ref x0), some (.ref x1), some (.ref x2), some (.int x3), some (.int x4), some (.int x5), some (.ref x6), some (.ref x7), some (.int x8), some (.int x9), some (.int x10), some (.int x11), some (.int s0)]) dX0_goOn_187 (Nat.le_of_ble_eq_true rfl) rfl (s_aload_n (pc := 189) dX0_goOn_189 rfl (s_aload_n (pc := 190) dX0_goOn_190 rfl (s_aload_n (pc := 191) dX0_goOn_191 rfl (s_iload_n (pc := 192) dX0_goOn_192 rfl (s_iconst (pc := 193) dX0_goOn_193 ci_1 (s_iadd (pc := 194) dX0_goOn_194 (s_iload (pc := 195) dX0_goOn_195 rfl (s_iload (pc := 197) dX0_goOn_197 rfl (s_if_ne (pc := 199) (tgt := 207) dX0_goOn_199 rfl (fun c51 => have h52 := h.1 c51; s_sel (L1 := [some (.ref x0), some (.ref x1), some (.ref x2), some (.int x3), some (.int x4), some (.int x5), some (.ref x6), some (.ref x7), some (.int x8), some (.int x9), some (.int x10), none, none]) [true, true, true, true, true, true, true, true, true, true, true, false, false] rfl (P_jn_X0_goOn_207 hR hK66 x0 x1 x2 x3 x4 x5 x6 x7 x8 x9 x10 x11 (x3 + 1) x2 x1 x0 M h52)) (fun c53 => have h54 := h.2 c53; s_iload (pc := 202) dX0_goOn_202 rfl (s_if_eq (pc := 204) (tgt := 211) dX0_goOn_204 rfl (fun c57 => have h58 := h54.1 c57; s_iconst (pc := 211) dX0_goOn_211 ci_0 (s_sel (L1 := [some (.ref x0), some (.ref x1), some (.ref x2), some (.int x3), some (.int x4), some (.int x5), some (.ref x6), some (.ref x7), some (.int x8), some (.int x9), some (.int x10), none, none]) [true, true, true, true, true, true, true, true, true, true, true, false, false] rfl (P_jn_X0_goOn_212 hR hK66 x0 x1 x2 x3 x4 x5 x6 x7 x8 x9 x10 0 x11 (x3 + 1) x2 x1 x0 M h58))) (fun c59 => have h60 := h54.2 c59; s_sel (L1 := [some (.ref x0), some (.ref x1), some (.ref x2), some (.int x3), some (.int x4), some (.int x5), some (.ref x6), some (.ref x7), some (.int x8), some (.int x9), some (.int x10), none, none]) [true, true, true, true, true, true, true, true, true, true, true, false, false] rfl (P_jn_X0_goOn_207 hR hK66 x0 x1 x2 x3 x4 x5 x6 x7 x8 x9 x10 x11 (x3 + 1) x2 x1 x0 M h60))))))))))))))
def lp_X0_goOn_92 (R : Nat → Nat → Nat → Int32 → Int32 → Int32 → Mem → (Mem → Prop) → Prop) (K66 : Nat → Nat → Nat → Int32 → Int32 → Int32 → Nat → Nat → Int32 → Int32 → Int32 → Mem → Prop) (Q : Mem → Prop) : Nat → Nat → Nat → Nat → Int32 → Int32 → Int32 → Nat → Nat → Int32 → Int32 → Int32 → Int32 → Mem → Prop
  | 0 => fun _ _ _ _ _ _ _ _ _ _ _ _ _ => False
  | n + 1 => fun x0 x1 x2 x3 x4 x5 x6 x7 x8 x9 x10 x11 M => mK M x1 = 7 ∧ ((mI M x1 0) ≤ x11 → wp_X12_takings x10 x8 x9 M (fun r40 M39 => mK M39 x7 = 10 ∧ mK M39 x1 = 7 ∧ wp_X6_costOf x1 (mI M39 x7 1) M39 (fun r43 M42 => ∀ y44 : Int32, y44 = (x4 + r40) - r43 → mK M42 x7 = 10 ∧ mK M42 x1 = 7 ∧ (¬ (iAbs (mI M42 x7 1)) = (mI M42 x1 7) → jn_X0_goOn_187 R K66 Q x0 x1 x2 x3 x4 x5 x6 x7 x8 x9 x10 y44 0 M42) ∧ ((iAbs (mI M42 x7 1)) = (mI M42 x1 7) → jn_X0_goOn_187 R K66 Q x0 x1 x2 x3 x4 x5 x6 x7 x8 x9 x10 y44 1 M42)))) ∧ (¬ (mI M x1 0) ≤ x11 → mK M x0 = 1 ∧ mK M (mR M x0 1) = 25 ∧ vp_in (x3 + 1) (mN M (mR M x0 1)) ∧ vp_in x3 (mN M (mR M x0 1)) ∧ mK M (mR M (mR M x0 1) x3.toNatClampNeg) = 21 ∧ vp_in x11 (mN M (mR M (mR M x0 1) x3.toNatClampNeg)) ∧ mK M x6 = 10 ∧ wp_X9_oddsOf x6 x1 x10 x11 x8 x9 M (fun r63 M62 => mK M62 (mR M (mR M x0 1) (x3 + 1).toNatClampNeg) = 21 ∧ vp_in x11 (mN M62 (mR M (mR M x0 1) (x3 + 1).toNatClampNeg)) ∧ ∀ M64 : Mem, M64 = uJ M62 (mR M (mR M x0 1) (x3 + 1).toNatClampNeg) x11.toNatClampNeg ((mJ M (mR M (mR M x0 1) x3.toNatClampNeg) x11.toNatClampNeg) * r63.toInt64) → (lp_X0_goOn_92 R K66 Q n) x0 x1 x2 x3 x4 x5 x6 x7 x8 x9 x10 (x11 + 1) M64))
theorem P_lp_X0_goOn_92 {G : GG} {R : Nat → Nat → Nat → Int32 → Int32 → Int32 → Mem → (Mem → Prop) → Prop} {j : Nat} {K66 : Nat → Nat → Nat → Int32 → Int32 → Int32 → Nat → Nat → Int32 → Int32 → Int32 → Mem → Prop} {Q : Mem → Prop} (hR : ∀ (p0 : Nat) (p1 : Nat) (p2 : Nat) (p3 : Int32) (p4 : Int32) (p5 : Int32) (M : Mem) (Q : Mem → Prop), R p0 p1 p2 p3 p4 p5 M Q → PMet G mX0_goOn (j + 4) 0 0 [.ref p0, .ref p1, .ref p2, .int p3, .int p4, .int p5] M (QV Q)) (hK66 : ∀ (x0 : Nat) (x1 : Nat) (x2 : Nat) (x3 : Int32) (x4 : Int32) (x5 : Int32) (x6 : Nat) (x7 : Nat) (x8 : Int32) (x9 : Int32) (x10 : Int32) (M : Mem), K66 x0 x1 x2 x3 x4 x5 x6 x7 x8 x9 x10 M → PW G mX0_goOn (rmD (j + 5) 0 0) (QV Q) 66 [some (.ref x0), some (.ref x1), some (.ref x2), some (.int x3), some (.int x4), some (.int x5), some (.ref x6), some (.ref x7), some (.int x8), some (.int x9), some (.int x10), none, none] [] M 0 0) : ∀ (n : Nat) (x0 : Nat) (x1 : Nat) (x2 : Nat) (x3 : Int32) (x4 : Int32) (x5 : Int32) (x6 : Nat) (x7 : Nat) (x8 : Int32) (x9 : Int32) (x10 : Int32) (x11 : Int32) (M : Mem), lp_X0_goOn_92 R K66 Q n x0 x1 x2 x3 x4 x5 x6 x7 x8 x9 x10 x11 M → PW G mX0_goOn (rmD (j + 5) 0 0) (QV Q) 92 [some (.ref x0), some (.ref x1), some (.ref x2), some (.int x3), some (.int x4), some (.int x5), some (.ref x6), some (.ref x7), some (.int x8), some (.int x9), some (.int x10), some (.int x11), none] [] M 0 0 := by
  intro n
  induction n with
  | zero => intro x0 x1 x2 x3 x4 x5 x6 x7 x8 x9 x10 x11 M h; exact h.elim
  | succ n ih =>
    intro x0 x1 x2 x3 x4 x5 x6 x7 x8 x9 x10 x11 M h
    exact (s_iload (pc := 92) dX0_goOn_92 rfl (s_aload_n (pc := 94) dX0_goOn_94 rfl (s_getI (pc := 95) dX0_goOn_95 f_X0_102 rfl h.1 (s_icmp_ge (pc := 98) (tgt := 143) dX0_goOn_98 rfl (fun c34 => have h35 := h.2.1 c34; s_iload (pc := 143) dX0_goOn_143 rfl (s_iload (pc := 145) dX0_goOn_145 rfl (s_iload (pc := 147) dX0_goOn_147 rfl (s_iload (pc := 149) dX0_goOn_149 rfl (s_callSN (pc := 151) (As := [.int x10, .int x8, .int x9]) (rest := [.int x4]) (d' := 0) (mc' := 0) (ms' := 0) dX0_goOn_151 c_X0_62 rfl rfl (Nat.le_of_ble_eq_true rfl) (rm_okJ rfl rfl) ⟨Nat.le_refl 0, Nat.le_refl 0⟩ (T_X12_takings h35) (kkI (fun r40 M39 h38 => s_iadd (pc := 154) dX0_goOn_154 (s_aload_n (pc := 155) dX0_goOn_155 rfl (s_aload (pc := 156) dX0_goOn_156 rfl (s_getI (pc := 158) dX0_goOn_158 f_X0_66 rfl h38.1 (s_callV (pc := 161) (As := [.int (mI M39 x7 1)]) (rest := [.int (x4 + r40)]) (d' := 1) (mc' := 0) (ms' := 0) dX0_goOn_161 c_X0_69 (Nat.le_of_ble_eq_true rfl) rfl h38.2.1 rfl rfl (Nat.le_of_ble_eq_true rfl) (rm_okJ rfl rfl) ⟨Nat.le_refl 0, Nat.le_refl 0⟩ (T_X6_costOf h38.2.2) (kkI (fun r43 M42 h41 => s_isub (pc := 164) dX0_goOn_164 (nmI (fun y44 e45 => have h46 := h41 y44 e45; s_istore (pc := 165) (L1 := [some (.ref x0), some (.ref x1), some (.ref x2), some (.int x3), some (.int x4), some (.int x5), some (.ref x6), some (.ref x7), some (.int x8), some (.int x9), some (.int x10), some (.int y44), none]) dX0_goOn_165 (Nat.le_of_ble_eq_true rfl) rfl (s_aload (pc := 167) dX0_goOn_167 rfl (s_getI (pc := 169) dX0_goOn_169 f_X0_66 rfl h46.1 (s_mabs (pc := 172) dX0_goOn_172 c_X0_120 (Nat.le_of_ble_eq_true rfl) (Nat.le_of_ble_eq_true rfl) (Nat.le_refl 0) (Nat.le_refl 0) (s_aload_n (pc := 175) dX0_goOn_175 rfl (s_getI (pc := 176) dX0_goOn_176 f_X0_92 rfl h46.2.1 (s_icmp_ne (pc := 179) (tgt := 186) dX0_goOn_179 rfl (fun c47 => have h48 := h46.2.2.1 c47; s_iconst (pc := 186) dX0_goOn_186 ci_0 (s_sel (L1 := [some (.ref x0), some (.ref x1), some (.ref x2), some (.int x3), some (.int x4), some (.int x5), some (.ref x6), some (.ref x7), some (.int x8), some (.int x9), some (.int x10), some (.int y44), none]) [true, true, true, true, true, true, true, true, true, true, true, true, false] rfl (P_jn_X0_goOn_187 hR hK66 x0 x1 x2 x3 x4 x5 x6 x7 x8 x9 x10 y44 0 M42 h48))) (fun c49 => have h50 := h46.2.2.2 c49; s_iconst (pc := 182) dX0_goOn_182 ci_1 (s_goto (pc := 183) (tgt := 187) dX0_goOn_183 rfl (s_sel (L1 := [some (.ref x0), some (.ref x1), some (.ref x2), some (.int x3), some (.int x4), some (.int x5), some (.ref x6), some (.ref x7), some (.int x8), some (.int x9), some (.int x10), some (.int y44), none]) [true, true, true, true, true, true, true, true, true, true, true, true, false] rfl (P_jn_X0_goOn_187 hR hK66 x0 x1 x2 x3 x4 x5 x6 x7 x8 x9 x10 y44 1 M42 h50))))))))))))))))))))))))) (fun c36 => have h37 := h.2.2 c36; s_aload_n (pc := 101) dX0_goOn_101 rfl (s_getR (pc := 102) dX0_goOn_102 f_X0_19 rfl h37.1 (s_iload_n (pc := 105) dX0_goOn_105 rfl (s_iconst (pc := 106) dX0_goOn_106 ci_1 (s_iadd (pc := 107) dX0_goOn_107 (s_aal (pc := 108) (t := 5) dX0_goOn_108 (Nat.le_of_ble_eq_true rfl) (Nat.le_of_ble_eq_true rfl) h37.2.1 h37.2.2.1 (s_iload (pc := 109) dX0_goOn_109 rfl (s_aload_n (pc := 111) dX0_goOn_111 rfl (s_getR (pc := 112) dX0_goOn_112 f_X0_19 rfl h37.1 (s_iload_n (pc := 115) dX0_goOn_115 rfl (s_aal (pc := 116) (t := 5) dX0_goOn_116 (Nat.le_of_ble_eq_true rfl) (Nat.le_of_ble_eq_true rfl) h37.2.1 h37.2.2.2.1 (s_iload (pc := 117) dX0_goOn_117 rfl (s_lal (pc := 119) dX0_goOn_119 h37.2.2.2.2.1 h37.2.2.2.2.2.1 (s_aload (pc := 120) dX0_goOn_120 rfl (s_aload_n (pc := 122) dX0_goOn_122 rfl (s_iload (pc := 123) dX0_goOn_123 rfl (s_iload (pc := 125) dX0_goOn_125 rfl (s_iload (pc := 127) dX0_goOn_127 rfl (s_iload (pc := 129) dX0_goOn_129 rfl (s_callV (pc := 131) (As := [.ref x1, .int x10, .int x11, .int x8, .int x9]) (rest := [.long (mJ M (mR M (mR M x0 1) x3.toNatClampNeg) x11.toNatClampNeg), .int x11, .ref (mR M (mR M x0 1) (x3 + 1).toNatClampNeg)]) (d' := 0) (mc' := 0) (ms' := 0) dX0_goOn_131 c_X0_116 (Nat.le_of_ble_eq_true rfl) rfl h37.2.2.2.2.2.2.1 rfl rfl (Nat.le_of_ble_eq_true rfl) (rm_okJ rfl rfl) ⟨Nat.le_refl 0, Nat.le_refl 0⟩ (T_X9_oddsOf h37.2.2.2.2.2.2.2) (kkI (fun r63 M62 h61 => s_i2l (pc := 134) dX0_goOn_134 (s_lmul (pc := 135) dX0_goOn_135 (s_las (pc := 136) dX0_goOn_136 h61.1 h61.2.1 (nmM (fun M64 e65 => have h66 := (h61.2.2) M64 e65; s_iinc (pc := 137) (L1 := [some (.ref x0), some (.ref x1), some (.ref x2), some (.int x3), some (.int x4), some (.int x5), some (.ref x6), some (.ref x7), some (.int x8), some (.int x9), some (.int x10), some (.int (x11 + 1)), none]) dX0_goOn_137 rfl ci_1 (Nat.le_of_ble_eq_true rfl) rfl (s_goto (pc := 140) (tgt := 92) dX0_goOn_140 rfl (s_sel (L1 := [some (.ref x0), some (.ref x1), some (.ref x2), some (.int x3), some (.int x4), some (.int x5), some (.ref x6), some (.ref x7), some (.int x8), some (.int x9), some (.int x10), some (.int (x11 + 1)), none]) [true, true, true, true, true, true, true, true, true, true, true, true, false] rfl (ih x0 x1 x2 x3 x4 x5 x6 x7 x8 x9 x10 (x11 + 1) M64 h66)))))))))))))))))))))))))))))))))
def lp_X0_goOn_66 (R : Nat → Nat → Nat → Int32 → Int32 → Int32 → Mem → (Mem → Prop) → Prop) (Q : Mem → Prop) : Nat → Nat → Nat → Nat → Int32 → Int32 → Int32 → Nat → Nat → Int32 → Int32 → Int32 → Mem → Prop
  | 0 => fun _ _ _ _ _ _ _ _ _ _ _ _ => False
  | n + 1 => fun x0 x1 x2 x3 x4 x5 x6 x7 x8 x9 x10 M => ((2 : Int32) < x10 → Q M) ∧ (¬ (2 : Int32) < x10 → mK M x7 = 10 ∧ wp_X9_follow x7 x6 x1 x10 x8 x9 M (fun r29 M28 => (r29 = (0 : Int32) → jn_X0_goOn_215 R (fun fx0 fx1 fx2 fx3 fx4 fx5 fx6 fx7 fx8 fx9 fx10 fM => lp_X0_goOn_66 R Q n fx0 fx1 fx2 fx3 fx4 fx5 fx6 fx7 fx8 fx9 fx10 fM) Q x0 x1 x2 x3 x4 x5 x6 x7 x8 x9 x10 M28) ∧ (¬ r29 = (0 : Int32) → ∃ n67 : Nat, lp_X0_goOn_92 R (fun fx0 fx1 fx2 fx3 fx4 fx5 fx6 fx7 fx8 fx9 fx10 fM => lp_X0_goOn_66 R Q n fx0 fx1 fx2 fx3 fx4 fx5 fx6 fx7 fx8 fx9 fx10 fM) Q n67 x0 x1 x2 x3 x4 x5 x6 x7 x8 x9 x10 0 M28)))
theorem P_lp_X0_goOn_66 {G : GG} {R : Nat → Nat → Nat → Int32 → Int32 → Int32 → Mem → (Mem → Prop) → Prop} {j : Nat} {Q : Mem → Prop} (hR : ∀ (p0 : Nat) (p1 : Nat) (p2 : Nat) (p3 : Int32) (p4 : Int32) (p5 : Int32) (M : Mem) (Q : Mem → Prop), R p0 p1 p2 p3 p4 p5 M Q → PMet G mX0_goOn (j + 4) 0 0 [.ref p0, .ref p1, .ref p2, .int p3, .int p4, .int p5] M (QV Q)) : ∀ (n : Nat) (x0 : Nat) (x1 : Nat) (x2 : Nat) (x3 : Int32) (x4 : Int32) (x5 : Int32) (x6 : Nat) (x7 : Nat) (x8 : Int32) (x9 : Int32) (x10 : Int32) (M : Mem), lp_X0_goOn_66 R Q n x0 x1 x2 x3 x4 x5 x6 x7 x8 x9 x10 M → PW G mX0_goOn (rmD (j + 5) 0 0) (QV Q) 66 [some (.ref x0), some (.ref x1), some (.ref x2), some (.int x3), some (.int x4), some (.int x5), some (.ref x6), some (.ref x7), some (.int x8), some (.int x9), some (.int x10), none, none] [] M 0 0 := by
  intro n
  induction n with
  | zero => intro x0 x1 x2 x3 x4 x5 x6 x7 x8 x9 x10 M h; exact h.elim
  | succ n ih =>
    intro x0 x1 x2 x3 x4 x5 x6 x7 x8 x9 x10 M h
    exact (s_iload (pc := 66) dX0_goOn_66 rfl (s_iconst (pc := 68) dX0_goOn_68 ci_2 (s_icmp_gt (pc := 69) (tgt := 221) dX0_goOn_69 rfl (fun c23 => have h24 := h.1 c23; s_return (pc := 221) dX0_goOn_221 rfl (Nat.zero_le _) (Nat.zero_le _) ⟨rfl, h24⟩) (fun c25 => have h26 := h.2 c25; s_aload (pc := 72) dX0_goOn_72 rfl (s_aload (pc := 74) dX0_goOn_74 rfl (s_aload_n (pc := 76) dX0_goOn_76 rfl (s_iload (pc := 77) dX0_goOn_77 rfl (s_iload (pc := 79) dX0_goOn_79 rfl (s_iload (pc := 81) dX0_goOn_81 rfl (s_callV (pc := 83) (As := [.ref x6, .ref x1, .int x10, .int x8, .int x9]) (rest := []) (d' := 2) (mc' := 0) (ms' := 0) dX0_goOn_83 c_X0_54 (Nat.le_of_ble_eq_true rfl) rfl h26.1 rfl rfl (Nat.le_of_ble_eq_true rfl) (rm_okJ rfl rfl) ⟨Nat.le_refl 0, Nat.le_refl 0⟩ (T_X9_follow h26.2) (kkI (fun r29 M28 h27 => s_if_eq (pc := 86) (tgt := 215) dX0_goOn_86 rfl (fun c30 => have h31 := h27.1 c30; s_sel (L1 := [some (.ref x0), some (.ref x1), some (.ref x2), some (.int x3), some (.int x4), some (.int x5), some (.ref x6), some (.ref x7), some (.int x8), some (.int x9), some (.int x10), none, none]) [true, true, true, true, true, true, true, true, true, true, true, false, false] rfl (P_jn_X0_goOn_215 hR ih x0 x1 x2 x3 x4 x5 x6 x7 x8 x9 x10 M28 h31)) (fun c32 => have h33 := h27.2 c32; s_iconst (pc := 89) dX0_goOn_89 ci_0 (s_istore (pc := 90) (L1 := [some (.ref x0), some (.ref x1), some (.ref x2), some (.int x3), some (.int x4), some (.int x5), some (.ref x6), some (.ref x7), some (.int x8), some (.int x9), some (.int x10), some (.int 0), none]) dX0_goOn_90 (Nat.le_of_ble_eq_true rfl) rfl (Exists.elim h33 (fun n67 hn => s_sel (L1 := [some (.ref x0), some (.ref x1), some (.ref x2), some (.int x3), some (.int x4), some (.int x5), some (.ref x6), some (.ref x7), some (.int x8), some (.int x9), some (.int x10), some (.int 0), none]) [true, true, true, true, true, true, true, true, true, true, true, true, false] rfl (P_lp_X0_goOn_92 hR ih n67 x0 x1 x2 x3 x4 x5 x6 x7 x8 x9 x10 0 M28 hn)))))))))))))))))
def wb_X0_goOn (R : Nat → Nat → Nat → Int32 → Int32 → Int32 → Mem → (Mem → Prop) → Prop) (p0 : Nat) (p1 : Nat) (p2 : Nat) (p3 : Int32) (p4 : Int32) (p5 : Int32) (M : Mem) (Q : Mem → Prop) : Prop := mK M p1 = 7 ∧ ((mI M p1 9) ≤ p3 → jn_X0_goOn_14 R Q p0 p1 p3 p4 p5 M) ∧ (¬ (mI M p1 9) ≤ p3 → (p3 < (6 : Int32) → mK M p0 = 1 ∧ mK M (mR M p0 0) = 23 ∧ vp_in p3 (mN M (mR M p0 0)) ∧ ∀ y11 : Nat, y11 = mR M (mR M p0 0) p3.toNatClampNeg → vp_in (p3 + 1) (mN M (mR M p0 0)) ∧ ∀ y14 : Nat, y14 = mR M (mR M p0 0) (p3 + 1).toNatClampNeg → isW M p2 ∧ wp_X11_bid p2 p1 y11 M (fun r19 M18 => isW M18 p2 ∧ wp_X11_ask p2 p1 y11 r19 M18 (fun r22 M21 => ∃ n68 : Nat, lp_X0_goOn_66 R Q n68 p0 p1 p2 p3 p4 p5 y11 y14 r19 r22 0 M21))) ∧ (¬ p3 < (6 : Int32) → jn_X0_goOn_14 R Q p0 p1 p3 p4 p5 M))
def wp_X0_goOn : Nat → Nat → Nat → Nat → Int32 → Int32 → Int32 → Mem → (Mem → Prop) → Prop
  | 0 => fun _ _ _ _ _ _ _ _ => False
  | h + 1 => fun p0 p1 p2 p3 p4 p5 M Q => wb_X0_goOn (fun q0 q1 q2 q3 q4 q5 N Q2 => wp_X0_goOn h q0 q1 q2 q3 q4 q5 N Q2) p0 p1 p2 p3 p4 p5 M Q
theorem B_X0_goOn {G : GG} {R : Nat → Nat → Nat → Int32 → Int32 → Int32 → Mem → (Mem → Prop) → Prop} {j : Nat} (hR : ∀ (p0 : Nat) (p1 : Nat) (p2 : Nat) (p3 : Int32) (p4 : Int32) (p5 : Int32) (M : Mem) (Q : Mem → Prop), R p0 p1 p2 p3 p4 p5 M Q → PMet G mX0_goOn (j + 4) 0 0 [.ref p0, .ref p1, .ref p2, .int p3, .int p4, .int p5] M (QV Q)) (p0 : Nat) (p1 : Nat) (p2 : Nat) (p3 : Int32) (p4 : Int32) (p5 : Int32) (M : Mem) (Q : Mem → Prop) (h : wb_X0_goOn R p0 p1 p2 p3 p4 p5 M Q) : PMet G mX0_goOn (j + 5) 0 0 [.ref p0, .ref p1, .ref p2, .int p3, .int p4, .int p5] M (QV Q) := mk_met (by decide) rfl rfl (by
    intro w hw x9 e9
    subst e9
    simp at hw) (Nat.le_of_ble_eq_true rfl) (s_pad (L1 := [some (.ref p0), some (.ref p1), some (.ref p2), some (.int p3), some (.int p4), some (.int p5), none, none, none, none, none, none, none]) 13 rfl (s_iload_n (pc := 0) dX0_goOn_0 rfl (s_aload_n (pc := 1) dX0_goOn_1 rfl (s_getI (pc := 2) dX0_goOn_2 f_X0_34 rfl h.1 (s_icmp_ge (pc := 5) (tgt := 14) dX0_goOn_5 rfl (fun c1 => have h2 := h.2.1 c1; s_sel (L1 := [some (.ref p0), some (.ref p1), none, some (.int p3), some (.int p4), some (.int p5), none, none, none, none, none, none, none]) [true, true, false, true, true, true, false, false, false, false, false, false, false] rfl (P_jn_X0_goOn_14 hR p0 p1 p3 p4 p5 M h2)) (fun c3 => have h4 := h.2.2 c3; s_iload_n (pc := 8) dX0_goOn_8 rfl (s_bipush (pc := 9) dX0_goOn_9 cb_6 (s_icmp_lt (pc := 11) (tgt := 25) dX0_goOn_11 rfl (fun c7 => have h8 := h4.1 c7; s_aload_n (pc := 25) dX0_goOn_25 rfl (s_getR (pc := 26) dX0_goOn_26 f_X0_11 rfl h8.1 (s_iload_n (pc := 29) dX0_goOn_29 rfl (s_aal (pc := 30) (t := 3) dX0_goOn_30 (Nat.le_of_ble_eq_true rfl) (Nat.le_of_ble_eq_true rfl) h8.2.1 h8.2.2.1 (nmR (fun y11 e12 => have h13 := h8.2.2.2 y11 e12; s_astore (pc := 31) (L1 := [some (.ref p0), some (.ref p1), some (.ref p2), some (.int p3), some (.int p4), some (.int p5), some (.ref y11), none, none, none, none, none, none]) dX0_goOn_31 (Nat.le_of_ble_eq_true rfl) rfl (s_aload_n (pc := 33) dX0_goOn_33 rfl (s_getR (pc := 34) dX0_goOn_34 f_X0_11 rfl h8.1 (s_iload_n (pc := 37) dX0_goOn_37 rfl (s_iconst (pc := 38) dX0_goOn_38 ci_1 (s_iadd (pc := 39) dX0_goOn_39 (s_aal (pc := 40) (t := 3) dX0_goOn_40 (Nat.le_of_ble_eq_true rfl) (Nat.le_of_ble_eq_true rfl) h8.2.1 h13.1 (nmR (fun y14 e15 => have h16 := h13.2 y14 e15; s_astore (pc := 41) (L1 := [some (.ref p0), some (.ref p1), some (.ref p2), some (.int p3), some (.int p4), some (.int p5), some (.ref y11), some (.ref y14), none, none, none, none, none]) dX0_goOn_41 (Nat.le_of_ble_eq_true rfl) rfl (s_aload_n (pc := 43) dX0_goOn_43 rfl (s_aload_n (pc := 44) dX0_goOn_44 rfl (s_aload (pc := 45) dX0_goOn_45 rfl (s_callW (pc := 47) (Q' := QI (fun r19 M18 => isW M18 p2 ∧ wp_X11_ask p2 p1 y11 r19 M18 (fun r22 M21 => ∃ n68 : Nat, lp_X0_goOn_66 R Q n68 p0 p1 p2 p3 p4 p5 y11 y14 r19 r22 0 M21))) (As := [.ref p1, .ref y11]) (rest := []) dX0_goOn_47 h16.1 rfl rfl (Nat.le_of_ble_eq_true rfl) (by
    intro c hc6 hk
    rcases hc6 with rfl | rfl | rfl | rfl | rfl | rfl
    · exact ⟨mX11_bid, 3, Or.inl ⟨c_X0_39, rfl⟩, rm_okJ rfl rfl, T_X11_bid h16.2⟩
    · exact ⟨mX11_bid, 3, Or.inr ⟨mX11_bid, c_X0_39_2⟩, rm_okJ rfl rfl, T_X11_bid h16.2⟩
    · exact ⟨mX11_bid, 3, Or.inr ⟨mX11_bid, c_X0_39_3⟩, rm_okJ rfl rfl, T_X11_bid h16.2⟩
    · exact ⟨mX11_bid, 3, Or.inr ⟨mX11_bid, c_X0_39_8⟩, rm_okJ rfl rfl, T_X11_bid h16.2⟩
    · exact ⟨mX11_bid, 3, Or.inr ⟨mX11_bid, c_X0_39_1⟩, rm_okJ rfl rfl, T_X11_bid h16.2⟩
    · exact ⟨mX11_bid, 3, Or.inr ⟨mX11_bid, c_X0_39_10⟩, rm_okJ rfl rfl, T_X11_bid h16.2⟩) ⟨Nat.le_refl 0, Nat.le_refl 0⟩ (kkI (fun r19 M18 h17 => s_istore (pc := 50) (L1 := [some (.ref p0), some (.ref p1), some (.ref p2), some (.int p3), some (.int p4), some (.int p5), some (.ref y11), some (.ref y14), some (.int r19), none, none, none, none]) dX0_goOn_50 (Nat.le_of_ble_eq_true rfl) rfl (s_aload_n (pc := 52) dX0_goOn_52 rfl (s_aload_n (pc := 53) dX0_goOn_53 rfl (s_aload (pc := 54) dX0_goOn_54 rfl (s_iload (pc := 56) dX0_goOn_56 rfl (s_callW (pc := 58) (Q' := QI (fun r22 M21 => ∃ n68 : Nat, lp_X0_goOn_66 R Q n68 p0 p1 p2 p3 p4 p5 y11 y14 r19 r22 0 M21)) (As := [.ref p1, .ref y11, .int r19]) (rest := []) dX0_goOn_58 h17.1 rfl rfl (Nat.le_of_ble_eq_true rfl) (by
    intro c hc6 hk
    rcases hc6 with rfl | rfl | rfl | rfl | rfl | rfl
    · exact ⟨mX11_ask, 3, Or.inl ⟨c_X0_45, rfl⟩, rm_okJ rfl rfl, T_X11_ask h17.2⟩
    · exact ⟨mX11_ask, 3, Or.inr ⟨mX11_ask, c_X0_45_2⟩, rm_okJ rfl rfl, T_X11_ask h17.2⟩
    · exact ⟨mX11_ask, 3, Or.inr ⟨mX11_ask, c_X0_45_3⟩, rm_okJ rfl rfl, T_X11_ask h17.2⟩
    · exact ⟨mX11_ask, 3, Or.inr ⟨mX11_ask, c_X0_45_8⟩, rm_okJ rfl rfl, T_X11_ask h17.2⟩
    · exact ⟨mX11_ask, 3, Or.inr ⟨mX11_ask, c_X0_45_1⟩, rm_okJ rfl rfl, T_X11_ask h17.2⟩
    · exact ⟨mX11_ask, 3, Or.inr ⟨mX11_ask, c_X0_45_10⟩, rm_okJ rfl rfl, T_X11_ask h17.2⟩) ⟨Nat.le_refl 0, Nat.le_refl 0⟩ (kkI (fun r22 M21 h20 => s_istore (pc := 61) (L1 := [some (.ref p0), some (.ref p1), some (.ref p2), some (.int p3), some (.int p4), some (.int p5), some (.ref y11), some (.ref y14), some (.int r19), some (.int r22), none, none, none]) dX0_goOn_61 (Nat.le_of_ble_eq_true rfl) rfl (s_iconst (pc := 63) dX0_goOn_63 ci_0 (s_istore (pc := 64) (L1 := [some (.ref p0), some (.ref p1), some (.ref p2), some (.int p3), some (.int p4), some (.int p5), some (.ref y11), some (.ref y14), some (.int r19), some (.int r22), some (.int 0), none, none]) dX0_goOn_64 (Nat.le_of_ble_eq_true rfl) rfl (Exists.elim h20 (fun n68 hn => s_sel (L1 := [some (.ref p0), some (.ref p1), some (.ref p2), some (.int p3), some (.int p4), some (.int p5), some (.ref y11), some (.ref y14), some (.int r19), some (.int r22), some (.int 0), none, none]) [true, true, true, true, true, true, true, true, true, true, true, false, false] rfl (P_lp_X0_goOn_66 hR n68 p0 p1 p2 p3 p4 p5 y11 y14 r19 r22 0 M21 hn)))))))))))))))))))))))))))))))) (fun c9 => have h10 := h4.2 c9; s_sel (L1 := [some (.ref p0), some (.ref p1), none, some (.int p3), some (.int p4), some (.int p5), none, none, none, none, none, none, none]) [true, true, false, true, true, true, false, false, false, false, false, false, false] rfl (P_jn_X0_goOn_14 hR p0 p1 p3 p4 p5 M h10))))))))))
theorem T_X0_goOn {G : GG} : ∀ (j : Nat) (p0 : Nat) (p1 : Nat) (p2 : Nat) (p3 : Int32) (p4 : Int32) (p5 : Int32) (M : Mem) (Q : Mem → Prop), wp_X0_goOn j p0 p1 p2 p3 p4 p5 M Q → PMet G mX0_goOn (j + 4) 0 0 [.ref p0, .ref p1, .ref p2, .int p3, .int p4, .int p5] M (QV Q) := by
  intro j
  induction j with
  | zero => intro _ _ _ _ _ _ _ _ h; exact h.elim
  | succ j ih =>
    intro p0 p1 p2 p3 p4 p5 M Q h
    exact B_X0_goOn ih p0 p1 p2 p3 p4 p5 M Q h
/-! X9_init -/
theorem dX9_init_0 : cod mX9_init 0 (.aload_n 0) 1 := by decide +kernel
theorem dX9_init_1 : cod mX9_init 1 (.invokespecial 3) 3 := by decide +kernel
theorem dX9_init_4 : cod mX9_init 4 (.aload_n 0) 1 := by decide +kernel
theorem dX9_init_5 : cod mX9_init 5 (.bipush 6) 2 := by decide +kernel
theorem dX9_init_7 : cod mX9_init 7 (.newarray .long) 2 := by decide +kernel
theorem dX9_init_9 : cod mX9_init 9 (.putfield 9) 3 := by decide +kernel
theorem dX9_init_12 : cod mX9_init 12 (.return_) 1 := by decide +kernel
def wp_X9_init (p0 : Nat) (M : Mem) (Q : Mem → Prop) : Prop := mK M p0 = 10 ∧ (0 + 1 ≤ 1 ∧ 0 + 6 ≤ 6) ∧ ∀ a1 : Nat, a1 = mT M → ∀ M4 : Mem, M4 = nw M 21 6 → mK M4 p0 = 10 ∧ ∀ M7 : Mem, M7 = uR M4 p0 0 a1 → ((0 + 1) ≤ 1 ∧ (0 + 6) ≤ 6) ∧ Q M7
theorem T_X9_init {G : GG} {Q : Mem → Prop} {M : Mem} {p0 : Nat} (h : wp_X9_init p0 M Q) : PMet G mX9_init 0 1 6 [.ref p0] M (QV Q) :=
  mk_met (by decide) rfl rfl (by
    intro w hw x9 e9
    subst e9
    simp at hw) (Nat.le_of_ble_eq_true rfl) (s_pad (L1 := [some (.ref p0)]) 1 rfl (s_aload_n (pc := 0) dX9_init_0 rfl (s_objInitK (pc := 1) dX9_init_1 ob_X9_3 h.1 (Nat.le_of_ble_eq_true rfl) (Nat.le_of_ble_eq_true rfl) (s_aload_n (pc := 4) dX9_init_4 rfl (s_bipush (pc := 5) dX9_init_5 cb_6 (s_newarray (pc := 7) (n := 6) dX9_init_7 na_long (by decide) rfl (Nat.le_of_ble_eq_true rfl) h.2.1.1 h.2.1.2 (nmR (fun a1 e2 => nmM (fun M4 e5 => have h6 := h.2.2 a1 e2 M4 e5; s_putR (pc := 9) dX9_init_9 f_X9_9 (Or.inr ⟨rfl, rfl⟩) rfl h6.1 (nmM (fun M7 e8 => have h9 := h6.2 M7 e8; s_return (pc := 12) dX9_init_12 rfl h9.1.1 h9.1.2 ⟨rfl, h9.2⟩)))))))))))
/-! X9_begin -/
theorem dX9_begin_0 : cod mX9_begin 0 (.iconst 0) 1 := by decide +kernel
theorem dX9_begin_1 : cod mX9_begin 1 (.istore_n 2) 1 := by decide +kernel
theorem dX9_begin_2 : cod mX9_begin 2 (.iload_n 2) 1 := by decide +kernel
theorem dX9_begin_3 : cod mX9_begin 3 (.bipush 6) 2 := by decide +kernel
theorem dX9_begin_5 : cod mX9_begin 5 (.if_icmp .ge 34) 3 := by decide +kernel
theorem dX9_begin_8 : cod mX9_begin 8 (.aload_n 0) 1 := by decide +kernel
theorem dX9_begin_9 : cod mX9_begin 9 (.getfield 9) 3 := by decide +kernel
theorem dX9_begin_12 : cod mX9_begin 12 (.iload_n 2) 1 := by decide +kernel
theorem dX9_begin_13 : cod mX9_begin 13 (.iload_n 2) 1 := by decide +kernel
theorem dX9_begin_14 : cod mX9_begin 14 (.aload_n 1) 1 := by decide +kernel
theorem dX9_begin_15 : cod mX9_begin 15 (.getfield 15) 3 := by decide +kernel
theorem dX9_begin_18 : cod mX9_begin 18 (.if_icmp .ge 13) 3 := by decide +kernel
theorem dX9_begin_21 : cod mX9_begin 21 (.aload_n 1) 1 := by decide +kernel
theorem dX9_begin_22 : cod mX9_begin 22 (.getfield 21) 3 := by decide +kernel
theorem dX9_begin_25 : cod mX9_begin 25 (.iload_n 2) 1 := by decide +kernel
theorem dX9_begin_26 : cod mX9_begin 26 (.iaload) 1 := by decide +kernel
theorem dX9_begin_27 : cod mX9_begin 27 (.i2l) 1 := by decide +kernel
theorem dX9_begin_28 : cod mX9_begin 28 (.goto 4) 3 := by decide +kernel
theorem dX9_begin_31 : cod mX9_begin 31 (.lconst 0) 1 := by decide +kernel
theorem dX9_begin_32 : cod mX9_begin 32 (.lastore) 1 := by decide +kernel
theorem dX9_begin_33 : cod mX9_begin 33 (.iinc 2 1) 3 := by decide +kernel
theorem dX9_begin_36 : cod mX9_begin 36 (.goto (-34)) 3 := by decide +kernel
theorem dX9_begin_39 : cod mX9_begin 39 (.aload_n 0) 1 := by decide +kernel
theorem dX9_begin_40 : cod mX9_begin 40 (.iconst 0) 1 := by decide +kernel
theorem dX9_begin_41 : cod mX9_begin 41 (.putfield 25) 3 := by decide +kernel
theorem dX9_begin_44 : cod mX9_begin 44 (.return_) 1 := by decide +kernel
def jn_X9_begin_32 (K2 : Nat → Nat → Int32 → Mem → Prop) (Q : Mem → Prop) (x0 : Nat) (x1 : Nat) (x2 : Int32) (s0 : Int64) (s1 : Int32) (s2 : Nat) (M : Mem) : Prop := mK M s2 = 21 ∧ vp_in s1 (mN M s2) ∧ ∀ M12 : Mem, M12 = uJ M s2 s1.toNatClampNeg s0 → K2 x0 x1 (x2 + 1) M12
theorem P_jn_X9_begin_32 {G : GG} {K2 : Nat → Nat → Int32 → Mem → Prop} {Q : Mem → Prop} (hK2 : ∀ (x0 : Nat) (x1 : Nat) (x2 : Int32) (M : Mem), K2 x0 x1 x2 M → PW G mX9_begin (rmD 0 0 0) (QV Q) 2 [some (.ref x0), some (.ref x1), some (.int x2)] [] M 0 0) (x0 : Nat) (x1 : Nat) (x2 : Int32) (s0 : Int64) (s1 : Int32) (s2 : Nat) (M : Mem) (h : jn_X9_begin_32 K2 Q x0 x1 x2 s0 s1 s2 M) : PW G mX9_begin (rmD 0 0 0) (QV Q) 32 [some (.ref x0), some (.ref x1), some (.int x2)] [.long s0, .int s1, .ref s2] M 0 0 := (s_las (pc := 32) dX9_begin_32 h.1 h.2.1 (nmM (fun M12 e13 => have h14 := (h.2.2) M12 e13; s_iinc (pc := 33) (L1 := [some (.ref x0), some (.ref x1), some (.int (x2 + 1))]) dX9_begin_33 rfl ci_1 (Nat.le_of_ble_eq_true rfl) rfl (s_goto (pc := 36) (tgt := 2) dX9_begin_36 rfl (s_sel (L1 := [some (.ref x0), some (.ref x1), some (.int (x2 + 1))]) [true, true, true] rfl (hK2 x0 x1 (x2 + 1) M12 h14))))))
def lp_X9_begin_2 (Q : Mem → Prop) : Nat → Nat → Nat → Int32 → Mem → Prop
  | 0 => fun _ _ _ _ => False
  | n + 1 => fun x0 x1 x2 M => ((6 : Int32) ≤ x2 → mK M x0 = 10 ∧ ∀ M5 : Mem, M5 = uI M x0 1 0 → Q M5) ∧ (¬ (6 : Int32) ≤ x2 → mK M x0 = 10 ∧ mK M x1 = 7 ∧ ((mI M x1 0) ≤ x2 → jn_X9_begin_32 (fun fx0 fx1 fx2 fM => lp_X9_begin_2 Q n fx0 fx1 fx2 fM) Q x0 x1 x2 0 x2 (mR M x0 0) M) ∧ (¬ (mI M x1 0) ≤ x2 → mK M (mR M x1 1) = 20 ∧ vp_in x2 (mN M (mR M x1 1)) ∧ jn_X9_begin_32 (fun fx0 fx1 fx2 fM => lp_X9_begin_2 Q n fx0 fx1 fx2 fM) Q x0 x1 x2 ((mI M (mR M x1 1) x2.toNatClampNeg).toInt64) x2 (mR M x0 0) M))
theorem P_lp_X9_begin_2 {G : GG} {Q : Mem → Prop} : ∀ (n : Nat) (x0 : Nat) (x1 : Nat) (x2 : Int32) (M : Mem), lp_X9_begin_2 Q n x0 x1 x2 M → PW G mX9_begin (rmD 0 0 0) (QV Q) 2 [some (.ref x0), some (.ref x1), some (.int x2)] [] M 0 0 := by
  intro n
  induction n with
  | zero => intro x0 x1 x2 M h; exact h.elim
  | succ n ih =>
    intro x0 x1 x2 M h
    exact (s_iload_n (pc := 2) dX9_begin_2 rfl (s_bipush (pc := 3) dX9_begin_3 cb_6 (s_icmp_ge (pc := 5) (tgt := 39) dX9_begin_5 rfl (fun c1 => have h2 := h.1 c1; s_aload_n (pc := 39) dX9_begin_39 rfl (s_iconst (pc := 40) dX9_begin_40 ci_0 (s_putI (pc := 41) dX9_begin_41 f_X9_25 (Or.inl rfl) (Or.inl rfl) h2.1 (nmM (fun M5 e6 => have h7 := h2.2 M5 e6; s_return (pc := 44) dX9_begin_44 rfl (Nat.zero_le _) (Nat.zero_le _) ⟨rfl, h7⟩))))) (fun c3 => have h4 := h.2 c3; s_aload_n (pc := 8) dX9_begin_8 rfl (s_getR (pc := 9) dX9_begin_9 f_X9_9 rfl h4.1 (s_iload_n (pc := 12) dX9_begin_12 rfl (s_iload_n (pc := 13) dX9_begin_13 rfl (s_aload_n (pc := 14) dX9_begin_14 rfl (s_getI (pc := 15) dX9_begin_15 f_X9_15 rfl h4.2.1 (s_icmp_ge (pc := 18) (tgt := 31) dX9_begin_18 rfl (fun c8 => have h9 := h4.2.2.1 c8; s_lconst (pc := 31) (v := 0) dX9_begin_31 rfl (s_sel (L1 := [some (.ref x0), some (.ref x1), some (.int x2)]) [true, true, true] rfl (P_jn_X9_begin_32 ih x0 x1 x2 0 x2 (mR M x0 0) M h9))) (fun c10 => have h11 := h4.2.2.2 c10; s_aload_n (pc := 21) dX9_begin_21 rfl (s_getR (pc := 22) dX9_begin_22 f_X9_21 rfl h4.2.1 (s_iload_n (pc := 25) dX9_begin_25 rfl (s_ial (pc := 26) dX9_begin_26 h11.1 h11.2.1 (s_i2l (pc := 27) dX9_begin_27 (s_goto (pc := 28) (tgt := 32) dX9_begin_28 rfl (s_sel (L1 := [some (.ref x0), some (.ref x1), some (.int x2)]) [true, true, true] rfl (P_jn_X9_begin_32 ih x0 x1 x2 ((mI M (mR M x1 1) x2.toNatClampNeg).toInt64) x2 (mR M x0 0) M h11.2.2))))))))))))))))))
def wp_X9_begin (p0 : Nat) (p1 : Nat) (M : Mem) (Q : Mem → Prop) : Prop := ∃ n15 : Nat, lp_X9_begin_2 Q n15 p0 p1 0 M
theorem T_X9_begin {G : GG} {Q : Mem → Prop} {M : Mem} {p0 : Nat} {p1 : Nat} (h : wp_X9_begin p0 p1 M Q) : PMet G mX9_begin 0 0 0 [.ref p0, .ref p1] M (QV Q) :=
  mk_met (by decide) rfl rfl (by
    intro w hw x9 e9
    subst e9
    simp at hw) (Nat.le_of_ble_eq_true rfl) (s_pad (L1 := [some (.ref p0), some (.ref p1), none]) 3 rfl (s_iconst (pc := 0) dX9_begin_0 ci_0 (s_istore_n (pc := 1) (L1 := [some (.ref p0), some (.ref p1), some (.int 0)]) dX9_begin_1 (Nat.le_of_ble_eq_true rfl) rfl (Exists.elim h (fun n15 hn => s_sel (L1 := [some (.ref p0), some (.ref p1), some (.int 0)]) [true, true, true] rfl (P_lp_X9_begin_2 n15 p0 p1 0 M hn))))))
/-! X9_copyFrom -/
theorem dX9_copyFrom_0 : cod mX9_copyFrom 0 (.aload_n 1) 1 := by decide +kernel
theorem dX9_copyFrom_1 : cod mX9_copyFrom 1 (.getfield 9) 3 := by decide +kernel
theorem dX9_copyFrom_4 : cod mX9_copyFrom 4 (.iconst 0) 1 := by decide +kernel
theorem dX9_copyFrom_5 : cod mX9_copyFrom 5 (.aload_n 0) 1 := by decide +kernel
theorem dX9_copyFrom_6 : cod mX9_copyFrom 6 (.getfield 9) 3 := by decide +kernel
theorem dX9_copyFrom_9 : cod mX9_copyFrom 9 (.iconst 0) 1 := by decide +kernel
theorem dX9_copyFrom_10 : cod mX9_copyFrom 10 (.bipush 6) 2 := by decide +kernel
theorem dX9_copyFrom_12 : cod mX9_copyFrom 12 (.invokestatic 28) 3 := by decide +kernel
theorem dX9_copyFrom_15 : cod mX9_copyFrom 15 (.aload_n 0) 1 := by decide +kernel
theorem dX9_copyFrom_16 : cod mX9_copyFrom 16 (.aload_n 1) 1 := by decide +kernel
theorem dX9_copyFrom_17 : cod mX9_copyFrom 17 (.getfield 25) 3 := by decide +kernel
theorem dX9_copyFrom_20 : cod mX9_copyFrom 20 (.putfield 25) 3 := by decide +kernel
theorem dX9_copyFrom_23 : cod mX9_copyFrom 23 (.return_) 1 := by decide +kernel
def wp_X9_copyFrom (p0 : Nat) (p1 : Nat) (M : Mem) (Q : Mem → Prop) : Prop := mK M p1 = 10 ∧ mK M p0 = 10 ∧ mK M (mR M p1 0) = 21 ∧ mK M (mR M p0 0) = 21 ∧ ¬ (0 : Int32) < 0 ∧ ¬ (0 : Int32) < 0 ∧ ¬ (6 : Int32) < 0 ∧ (0 : Int32).toNatClampNeg + (6 : Int32).toNatClampNeg ≤ mN M (mR M p1 0) ∧ (0 : Int32).toNatClampNeg + (6 : Int32).toNatClampNeg ≤ mN M (mR M p0 0) ∧ ∀ M1 : Mem, M1 = wJ M (mR M p0 0) (va_cpy (mJ M (mR M p1 0)) (mJ M (mR M p0 0)) (0 : Int32).toNatClampNeg (0 : Int32).toNatClampNeg (6 : Int32).toNatClampNeg) → ∀ M4 : Mem, M4 = uI M1 p0 1 (mI M1 p1 1) → Q M4
theorem T_X9_copyFrom {G : GG} {Q : Mem → Prop} {M : Mem} {p0 : Nat} {p1 : Nat} (h : wp_X9_copyFrom p0 p1 M Q) : PMet G mX9_copyFrom 0 0 0 [.ref p0, .ref p1] M (QV Q) :=
  mk_met (by decide) rfl rfl (by
    intro w hw x9 e9
    subst e9
    simp at hw) (Nat.le_of_ble_eq_true rfl) (s_pad (L1 := [some (.ref p0), some (.ref p1)]) 2 rfl (s_aload_n (pc := 0) dX9_copyFrom_0 rfl (s_getR (pc := 1) dX9_copyFrom_1 f_X9_9 rfl h.1 (s_iconst (pc := 4) dX9_copyFrom_4 ci_0 (s_aload_n (pc := 5) dX9_copyFrom_5 rfl (s_getR (pc := 6) dX9_copyFrom_6 f_X9_9 rfl h.2.1 (s_iconst (pc := 9) dX9_copyFrom_9 ci_0 (s_bipush (pc := 10) dX9_copyFrom_10 cb_6 (s_copyJ (pc := 12) dX9_copyFrom_12 cp_X9_28 h.2.2.1 h.2.2.2.1 h.2.2.2.2.1 h.2.2.2.2.2.1 h.2.2.2.2.2.2.1 h.2.2.2.2.2.2.2.1 h.2.2.2.2.2.2.2.2.1 (Nat.le_of_ble_eq_true rfl) (by decide +kernel) (nmM (fun M1 e2 => have h3 := (h.2.2.2.2.2.2.2.2.2) M1 e2; s_aload_n (pc := 15) dX9_copyFrom_15 rfl (s_aload_n (pc := 16) dX9_copyFrom_16 rfl (s_getI (pc := 17) dX9_copyFrom_17 f_X9_25 rfl ((congrFun (congrArg mK e2) p1).trans h.1) (s_putI (pc := 20) dX9_copyFrom_20 f_X9_25 (Or.inl rfl) (Or.inl rfl) ((congrFun (congrArg mK e2) p0).trans h.2.1) (nmM (fun M4 e5 => have h6 := h3 M4 e5; s_return (pc := 23) dX9_copyFrom_23 rfl (Nat.zero_le _) (Nat.zero_le _) ⟨rfl, h6⟩))))))))))))))))
/-! X0_live -/
theorem dX0_live_0 : cod mX0_live 0 (.iload 4) 2 := by decide +kernel
theorem dX0_live_2 : cod mX0_live 2 (.istore 5) 2 := by decide +kernel
theorem dX0_live_4 : cod mX0_live 4 (.aload_n 0) 1 := by decide +kernel
theorem dX0_live_5 : cod mX0_live 5 (.getfield 11) 3 := by decide +kernel
theorem dX0_live_8 : cod mX0_live 8 (.iconst 0) 1 := by decide +kernel
theorem dX0_live_9 : cod mX0_live 9 (.aaload) 1 := by decide +kernel
theorem dX0_live_10 : cod mX0_live 10 (.astore 6) 2 := by decide +kernel
theorem dX0_live_12 : cod mX0_live 12 (.aload_n 0) 1 := by decide +kernel
theorem dX0_live_13 : cod mX0_live 13 (.getfield 11) 3 := by decide +kernel
theorem dX0_live_16 : cod mX0_live 16 (.iconst 1) 1 := by decide +kernel
theorem dX0_live_17 : cod mX0_live 17 (.aaload) 1 := by decide +kernel
theorem dX0_live_18 : cod mX0_live 18 (.astore 7) 2 := by decide +kernel
theorem dX0_live_20 : cod mX0_live 20 (.aload 6) 2 := by decide +kernel
theorem dX0_live_22 : cod mX0_live 22 (.aload_n 1) 1 := by decide +kernel
theorem dX0_live_23 : cod mX0_live 23 (.invokevirtual 23) 3 := by decide +kernel
theorem dX0_live_26 : cod mX0_live 26 (.aload_n 0) 1 := by decide +kernel
theorem dX0_live_27 : cod mX0_live 27 (.iconst 0) 1 := by decide +kernel
theorem dX0_live_28 : cod mX0_live 28 (.putfield 27) 3 := by decide +kernel
theorem dX0_live_31 : cod mX0_live 31 (.aload_n 0) 1 := by decide +kernel
theorem dX0_live_32 : cod mX0_live 32 (.iconst 0) 1 := by decide +kernel
theorem dX0_live_33 : cod mX0_live 33 (.putfield 31) 3 := by decide +kernel
theorem dX0_live_36 : cod mX0_live 36 (.iconst 0) 1 := by decide +kernel
theorem dX0_live_37 : cod mX0_live 37 (.istore 8) 2 := by decide +kernel
theorem dX0_live_39 : cod mX0_live 39 (.iload 8) 2 := by decide +kernel
theorem dX0_live_41 : cod mX0_live 41 (.aload_n 1) 1 := by decide +kernel
theorem dX0_live_42 : cod mX0_live 42 (.getfield 34) 3 := by decide +kernel
theorem dX0_live_45 : cod mX0_live 45 (.if_icmp .ge 124) 3 := by decide +kernel
theorem dX0_live_48 : cod mX0_live 48 (.aload_n 2) 1 := by decide +kernel
theorem dX0_live_49 : cod mX0_live 49 (.aload_n 1) 1 := by decide +kernel
theorem dX0_live_50 : cod mX0_live 50 (.aload 6) 2 := by decide +kernel
theorem dX0_live_52 : cod mX0_live 52 (.invokevirtual 39) 3 := by decide +kernel
theorem dX0_live_55 : cod mX0_live 55 (.istore 9) 2 := by decide +kernel
theorem dX0_live_57 : cod mX0_live 57 (.aload_n 2) 1 := by decide +kernel
theorem dX0_live_58 : cod mX0_live 58 (.aload_n 1) 1 := by decide +kernel
theorem dX0_live_59 : cod mX0_live 59 (.aload 6) 2 := by decide +kernel
theorem dX0_live_61 : cod mX0_live 61 (.iload 9) 2 := by decide +kernel
theorem dX0_live_63 : cod mX0_live 63 (.invokevirtual 45) 3 := by decide +kernel
theorem dX0_live_66 : cod mX0_live 66 (.istore 10) 2 := by decide +kernel
theorem dX0_live_68 : cod mX0_live 68 (.iload 5) 2 := by decide +kernel
theorem dX0_live_70 : cod mX0_live 70 (.ldc 49) 2 := by decide +kernel
theorem dX0_live_72 : cod mX0_live 72 (.imul) 1 := by decide +kernel
theorem dX0_live_73 : cod mX0_live 73 (.sipush 12345) 3 := by decide +kernel
theorem dX0_live_76 : cod mX0_live 76 (.iadd) 1 := by decide +kernel
theorem dX0_live_77 : cod mX0_live 77 (.istore 5) 2 := by decide +kernel
theorem dX0_live_79 : cod mX0_live 79 (.aload_n 1) 1 := by decide +kernel
theorem dX0_live_80 : cod mX0_live 80 (.aload 6) 2 := by decide +kernel
theorem dX0_live_82 : cod mX0_live 82 (.iload_n 3) 1 := by decide +kernel
theorem dX0_live_83 : cod mX0_live 83 (.iload 5) 2 := by decide +kernel
theorem dX0_live_85 : cod mX0_live 85 (.iload 9) 2 := by decide +kernel
theorem dX0_live_87 : cod mX0_live 87 (.iload 10) 2 := by decide +kernel
theorem dX0_live_89 : cod mX0_live 89 (.invokestatic 50) 3 := by decide +kernel
theorem dX0_live_92 : cod mX0_live 92 (.istore 11) 2 := by decide +kernel
theorem dX0_live_94 : cod mX0_live 94 (.aload 7) 2 := by decide +kernel
theorem dX0_live_96 : cod mX0_live 96 (.aload 6) 2 := by decide +kernel
theorem dX0_live_98 : cod mX0_live 98 (.aload_n 1) 1 := by decide +kernel
theorem dX0_live_99 : cod mX0_live 99 (.iload 11) 2 := by decide +kernel
theorem dX0_live_101 : cod mX0_live 101 (.iload 9) 2 := by decide +kernel
theorem dX0_live_103 : cod mX0_live 103 (.iload 10) 2 := by decide +kernel
theorem dX0_live_105 : cod mX0_live 105 (.invokevirtual 54) 3 := by decide +kernel
theorem dX0_live_108 : cod mX0_live 108 (.pop) 1 := by decide +kernel
theorem dX0_live_109 : cod mX0_live 109 (.aload 6) 2 := by decide +kernel
theorem dX0_live_111 : cod mX0_live 111 (.aload 7) 2 := by decide +kernel
theorem dX0_live_113 : cod mX0_live 113 (.invokevirtual 58) 3 := by decide +kernel
theorem dX0_live_116 : cod mX0_live 116 (.aload_n 0) 1 := by decide +kernel
theorem dX0_live_117 : cod mX0_live 117 (.dup) 1 := by decide +kernel
theorem dX0_live_118 : cod mX0_live 118 (.getfield 27) 3 := by decide +kernel
theorem dX0_live_121 : cod mX0_live 121 (.iload 11) 2 := by decide +kernel
theorem dX0_live_123 : cod mX0_live 123 (.iload 9) 2 := by decide +kernel
theorem dX0_live_125 : cod mX0_live 125 (.iload 10) 2 := by decide +kernel
theorem dX0_live_127 : cod mX0_live 127 (.invokestatic 62) 3 := by decide +kernel
theorem dX0_live_130 : cod mX0_live 130 (.aload_n 1) 1 := by decide +kernel
theorem dX0_live_131 : cod mX0_live 131 (.aload 6) 2 := by decide +kernel
theorem dX0_live_133 : cod mX0_live 133 (.getfield 66) 3 := by decide +kernel
theorem dX0_live_136 : cod mX0_live 136 (.invokevirtual 69) 3 := by decide +kernel
theorem dX0_live_139 : cod mX0_live 139 (.isub) 1 := by decide +kernel
theorem dX0_live_140 : cod mX0_live 140 (.iadd) 1 := by decide +kernel
theorem dX0_live_141 : cod mX0_live 141 (.putfield 27) 3 := by decide +kernel
theorem dX0_live_144 : cod mX0_live 144 (.aload_n 0) 1 := by decide +kernel
theorem dX0_live_145 : cod mX0_live 145 (.dup) 1 := by decide +kernel
theorem dX0_live_146 : cod mX0_live 146 (.getfield 31) 3 := by decide +kernel
theorem dX0_live_149 : cod mX0_live 149 (.iload 11) 2 := by decide +kernel
theorem dX0_live_151 : cod mX0_live 151 (.ifCond .ne 7) 3 := by decide +kernel
theorem dX0_live_154 : cod mX0_live 154 (.iconst 0) 1 := by decide +kernel
theorem dX0_live_155 : cod mX0_live 155 (.goto 4) 3 := by decide +kernel
theorem dX0_live_158 : cod mX0_live 158 (.iconst 1) 1 := by decide +kernel
theorem dX0_live_159 : cod mX0_live 159 (.iadd) 1 := by decide +kernel
theorem dX0_live_160 : cod mX0_live 160 (.putfield 31) 3 := by decide +kernel
theorem dX0_live_163 : cod mX0_live 163 (.iinc 8 1) 3 := by decide +kernel
theorem dX0_live_166 : cod mX0_live 166 (.goto (-127)) 3 := by decide +kernel
theorem dX0_live_169 : cod mX0_live 169 (.aload_n 0) 1 := by decide +kernel
theorem dX0_live_170 : cod mX0_live 170 (.aload 6) 2 := by decide +kernel
theorem dX0_live_172 : cod mX0_live 172 (.getfield 66) 3 := by decide +kernel
theorem dX0_live_175 : cod mX0_live 175 (.putfield 73) 3 := by decide +kernel
theorem dX0_live_178 : cod mX0_live 178 (.aload_n 0) 1 := by decide +kernel
theorem dX0_live_179 : cod mX0_live 179 (.dup) 1 := by decide +kernel
theorem dX0_live_180 : cod mX0_live 180 (.getfield 27) 3 := by decide +kernel
theorem dX0_live_183 : cod mX0_live 183 (.aload_n 0) 1 := by decide +kernel
theorem dX0_live_184 : cod mX0_live 184 (.getfield 73) 3 := by decide +kernel
theorem dX0_live_187 : cod mX0_live 187 (.iload_n 3) 1 := by decide +kernel
theorem dX0_live_188 : cod mX0_live 188 (.imul) 1 := by decide +kernel
theorem dX0_live_189 : cod mX0_live 189 (.iadd) 1 := by decide +kernel
theorem dX0_live_190 : cod mX0_live 190 (.putfield 27) 3 := by decide +kernel
theorem dX0_live_193 : cod mX0_live 193 (.return_) 1 := by decide +kernel
def jn_X0_live_159 (K39 : Nat → Nat → Nat → Int32 → Int32 → Nat → Nat → Int32 → Mem → Prop) (Q : Mem → Prop) (x0 : Nat) (x1 : Nat) (x2 : Nat) (x3 : Int32) (x5 : Int32) (x6 : Nat) (x7 : Nat) (x8 : Int32) (s0 : Int32) (s1 : Int32) (s2 : Nat) (M : Mem) : Prop := mK M s2 = 1 ∧ ∀ M55 : Mem, M55 = uI M s2 6 (s1 + s0) → K39 x0 x1 x2 x3 x5 x6 x7 (x8 + 1) M55
theorem P_jn_X0_live_159 {G : GG} {K39 : Nat → Nat → Nat → Int32 → Int32 → Nat → Nat → Int32 → Mem → Prop} {Q : Mem → Prop} (hK39 : ∀ (x0 : Nat) (x1 : Nat) (x2 : Nat) (x3 : Int32) (x5 : Int32) (x6 : Nat) (x7 : Nat) (x8 : Int32) (M : Mem), K39 x0 x1 x2 x3 x5 x6 x7 x8 M → PW G mX0_live (rmD 4 0 0) (QV Q) 39 [some (.ref x0), some (.ref x1), some (.ref x2), some (.int x3), none, some (.int x5), some (.ref x6), some (.ref x7), some (.int x8), none, none, none] [] M 0 0) (x0 : Nat) (x1 : Nat) (x2 : Nat) (x3 : Int32) (x5 : Int32) (x6 : Nat) (x7 : Nat) (x8 : Int32) (s0 : Int32) (s1 : Int32) (s2 : Nat) (M : Mem) (h : jn_X0_live_159 K39 Q x0 x1 x2 x3 x5 x6 x7 x8 s0 s1 s2 M) : PW G mX0_live (rmD 4 0 0) (QV Q) 159 [some (.ref x0), some (.ref x1), some (.ref x2), some (.int x3), none, some (.int x5), some (.ref x6), some (.ref x7), some (.int x8), none, none, none] [.int s0, .int s1, .ref s2] M 0 0 := (s_iadd (pc := 159) dX0_live_159 (s_putI (pc := 160) dX0_live_160 f_X0_31 (Or.inl rfl) (Or.inl rfl) h.1 (nmM (fun M55 e56 => have h57 := h.2 M55 e56; s_iinc (pc := 163) (L1 := [some (.ref x0), some (.ref x1), some (.ref x2), some (.int x3), none, some (.int x5), some (.ref x6), some (.ref x7), some (.int (x8 + 1)), none, none, none]) dX0_live_163 rfl ci_1 (Nat.le_of_ble_eq_true rfl) rfl (s_goto (pc := 166) (tgt := 39) dX0_live_166 rfl (s_sel (L1 := [some (.ref x0), some (.ref x1), some (.ref x2), some (.int x3), none, some (.int x5), some (.ref x6), some (.ref x7), some (.int (x8 + 1)), none, none, none]) [true, true, true, true, false, true, true, true, true, false, false, false] rfl (hK39 x0 x1 x2 x3 x5 x6 x7 (x8 + 1) M55 h57)))))))
def lp_X0_live_39 (Q : Mem → Prop) : Nat → Nat → Nat → Nat → Int32 → Int32 → Nat → Nat → Int32 → Mem → Prop
  | 0 => fun _ _ _ _ _ _ _ _ _ => False
  | n + 1 => fun x0 x1 x2 x3 x5 x6 x7 x8 M => mK M x1 = 7 ∧ ((mI M x1 9) ≤ x8 → mK M x6 = 10 ∧ mK M x0 = 1 ∧ ∀ M19 : Mem, M19 = uI M x0 5 (mI M x6 1) → ∀ M22 : Mem, M22 = uI M19 x0 4 ((mI M19 x0 4) + ((mI M19 x0 5) * x3)) → Q M22) ∧ (¬ (mI M x1 9) ≤ x8 → isW M x2 ∧ wp_X11_bid x2 x1 x6 M (fun r27 M26 => isW M26 x2 ∧ wp_X11_ask x2 x1 x6 r27 M26 (fun r30 M29 => ∀ y31 : Int32, y31 = (x5 * 1103515245) + 12345 → wp_X0_eventBy x1 x6 x3 y31 r27 r30 M29 (fun r36 M35 => mK M35 x7 = 10 ∧ wp_X9_follow x7 x6 x1 r36 r27 r30 M35 (fun r39 M38 => mK M38 x6 = 10 ∧ wp_X9_copyFrom x6 x7 M38 (fun M41 => mK M41 x0 = 1 ∧ wp_X12_takings r36 r27 r30 M41 (fun r44 M43 => mK M43 x6 = 10 ∧ mK M43 x1 = 7 ∧ wp_X6_costOf x1 (mI M43 x6 1) M43 (fun r47 M46 => mK M46 x0 = 1 ∧ ∀ M48 : Mem, M48 = uI M46 x0 4 ((mI M41 x0 4) + (r44 - r47)) → (¬ r36 = (0 : Int32) → jn_X0_live_159 (fun fx0 fx1 fx2 fx3 fx5 fx6 fx7 fx8 fM => lp_X0_live_39 Q n fx0 fx1 fx2 fx3 fx5 fx6 fx7 fx8 fM) Q x0 x1 x2 x3 y31 x6 x7 x8 1 (mI M48 x0 6) x0 M48) ∧ (r36 = (0 : Int32) → jn_X0_live_159 (fun fx0 fx1 fx2 fx3 fx5 fx6 fx7 fx8 fM => lp_X0_live_39 Q n fx0 fx1 fx2 fx3 fx5 fx6 fx7 fx8 fM) Q x0 x1 x2 x3 y31 x6 x7 x8 0 (mI M48 x0 6) x0 M48)))))))))
theorem P_lp_X0_live_39 {G : GG} {Q : Mem → Prop} : ∀ (n : Nat) (x0 : Nat) (x1 : Nat) (x2 : Nat) (x3 : Int32) (x5 : Int32) (x6 : Nat) (x7 : Nat) (x8 : Int32) (M : Mem), lp_X0_live_39 Q n x0 x1 x2 x3 x5 x6 x7 x8 M → PW G mX0_live (rmD 4 0 0) (QV Q) 39 [some (.ref x0), some (.ref x1), some (.ref x2), some (.int x3), none, some (.int x5), some (.ref x6), some (.ref x7), some (.int x8), none, none, none] [] M 0 0 := by
  intro n
  induction n with
  | zero => intro x0 x1 x2 x3 x5 x6 x7 x8 M h; exact h.elim
  | succ n ih =>
    intro x0 x1 x2 x3 x5 x6 x7 x8 M h
    exact (s_iload (pc := 39) dX0_live_39 rfl (s_aload_n (pc := 41) dX0_live_41 rfl (s_getI (pc := 42) dX0_live_42 f_X0_34 rfl h.1 (s_icmp_ge (pc := 45) (tgt := 169) dX0_live_45 rfl (fun c15 => have h16 := h.2.1 c15; s_aload_n (pc := 169) dX0_live_169 rfl (s_aload (pc := 170) dX0_live_170 rfl (s_getI (pc := 172) dX0_live_172 f_X0_66 rfl h16.1 (s_putI (pc := 175) dX0_live_175 f_X0_73 (Or.inl rfl) (Or.inl rfl) h16.2.1 (nmM (fun M19 e20 => have h21 := h16.2.2 M19 e20; s_aload_n (pc := 178) dX0_live_178 rfl (s_dup (pc := 179) dX0_live_179 rfl (s_getI (pc := 180) dX0_live_180 f_X0_27 rfl ((congrFun (congrArg mK e20) x0).trans h16.2.1) (s_aload_n (pc := 183) dX0_live_183 rfl (s_getI (pc := 184) dX0_live_184 f_X0_73 rfl ((congrFun (congrArg mK e20) x0).trans h16.2.1) (s_iload_n (pc := 187) dX0_live_187 rfl (s_imul (pc := 188) dX0_live_188 (s_iadd (pc := 189) dX0_live_189 (s_putI (pc := 190) dX0_live_190 f_X0_27 (Or.inl rfl) (Or.inl rfl) ((congrFun (congrArg mK e20) x0).trans h16.2.1) (nmM (fun M22 e23 => have h24 := h21 M22 e23; s_return (pc := 193) dX0_live_193 rfl (Nat.zero_le _) (Nat.zero_le _) ⟨rfl, h24⟩)))))))))))))))) (fun c17 => have h18 := h.2.2 c17; s_aload_n (pc := 48) dX0_live_48 rfl (s_aload_n (pc := 49) dX0_live_49 rfl (s_aload (pc := 50) dX0_live_50 rfl (s_callW (pc := 52) (Q' := QI (fun r27 M26 => isW M26 x2 ∧ wp_X11_ask x2 x1 x6 r27 M26 (fun r30 M29 => ∀ y31 : Int32, y31 = (x5 * 1103515245) + 12345 → wp_X0_eventBy x1 x6 x3 y31 r27 r30 M29 (fun r36 M35 => mK M35 x7 = 10 ∧ wp_X9_follow x7 x6 x1 r36 r27 r30 M35 (fun r39 M38 => mK M38 x6 = 10 ∧ wp_X9_copyFrom x6 x7 M38 (fun M41 => mK M41 x0 = 1 ∧ wp_X12_takings r36 r27 r30 M41 (fun r44 M43 => mK M43 x6 = 10 ∧ mK M43 x1 = 7 ∧ wp_X6_costOf x1 (mI M43 x6 1) M43 (fun r47 M46 => mK M46 x0 = 1 ∧ ∀ M48 : Mem, M48 = uI M46 x0 4 ((mI M41 x0 4) + (r44 - r47)) → (¬ r36 = (0 : Int32) → jn_X0_live_159 (fun fx0 fx1 fx2 fx3 fx5 fx6 fx7 fx8 fM => lp_X0_live_39 Q n fx0 fx1 fx2 fx3 fx5 fx6 fx7 fx8 fM) Q x0 x1 x2 x3 y31 x6 x7 x8 1 (mI M48 x0 6) x0 M48) ∧ (r36 = (0 : Int32) → jn_X0_live_159 (fun fx0 fx1 fx2 fx3 fx5 fx6 fx7 fx8 fM => lp_X0_live_39 Q n fx0 fx1 fx2 fx3 fx5 fx6 fx7 fx8 fM) Q x0 x1 x2 x3 y31 x6 x7 x8 0 (mI M48 x0 6) x0 M48))))))))) (As := [.ref x1, .ref x6]) (rest := []) dX0_live_52 h18.1 rfl rfl (Nat.le_of_ble_eq_true rfl) (by
    intro c hc6 hk
    rcases hc6 with rfl | rfl | rfl | rfl | rfl | rfl
    · exact ⟨mX11_bid, 3, Or.inl ⟨c_X0_39, rfl⟩, rm_ok rfl rfl, T_X11_bid h18.2⟩
    · exact ⟨mX11_bid, 3, Or.inr ⟨mX11_bid, c_X0_39_2⟩, rm_ok rfl rfl, T_X11_bid h18.2⟩
    · exact ⟨mX11_bid, 3, Or.inr ⟨mX11_bid, c_X0_39_3⟩, rm_ok rfl rfl, T_X11_bid h18.2⟩
    · exact ⟨mX11_bid, 3, Or.inr ⟨mX11_bid, c_X0_39_8⟩, rm_ok rfl rfl, T_X11_bid h18.2⟩
    · exact ⟨mX11_bid, 3, Or.inr ⟨mX11_bid, c_X0_39_1⟩, rm_ok rfl rfl, T_X11_bid h18.2⟩
    · exact ⟨mX11_bid, 3, Or.inr ⟨mX11_bid, c_X0_39_10⟩, rm_ok rfl rfl, T_X11_bid h18.2⟩) ⟨Nat.le_refl 0, Nat.le_refl 0⟩ (kkI (fun r27 M26 h25 => s_istore (pc := 55) (L1 := [some (.ref x0), some (.ref x1), some (.ref x2), some (.int x3), none, some (.int x5), some (.ref x6), some (.ref x7), some (.int x8), some (.int r27), none, none]) dX0_live_55 (Nat.le_of_ble_eq_true rfl) rfl (s_aload_n (pc := 57) dX0_live_57 rfl (s_aload_n (pc := 58) dX0_live_58 rfl (s_aload (pc := 59) dX0_live_59 rfl (s_iload (pc := 61) dX0_live_61 rfl (s_callW (pc := 63) (Q' := QI (fun r30 M29 => ∀ y31 : Int32, y31 = (x5 * 1103515245) + 12345 → wp_X0_eventBy x1 x6 x3 y31 r27 r30 M29 (fun r36 M35 => mK M35 x7 = 10 ∧ wp_X9_follow x7 x6 x1 r36 r27 r30 M35 (fun r39 M38 => mK M38 x6 = 10 ∧ wp_X9_copyFrom x6 x7 M38 (fun M41 => mK M41 x0 = 1 ∧ wp_X12_takings r36 r27 r30 M41 (fun r44 M43 => mK M43 x6 = 10 ∧ mK M43 x1 = 7 ∧ wp_X6_costOf x1 (mI M43 x6 1) M43 (fun r47 M46 => mK M46 x0 = 1 ∧ ∀ M48 : Mem, M48 = uI M46 x0 4 ((mI M41 x0 4) + (r44 - r47)) → (¬ r36 = (0 : Int32) → jn_X0_live_159 (fun fx0 fx1 fx2 fx3 fx5 fx6 fx7 fx8 fM => lp_X0_live_39 Q n fx0 fx1 fx2 fx3 fx5 fx6 fx7 fx8 fM) Q x0 x1 x2 x3 y31 x6 x7 x8 1 (mI M48 x0 6) x0 M48) ∧ (r36 = (0 : Int32) → jn_X0_live_159 (fun fx0 fx1 fx2 fx3 fx5 fx6 fx7 fx8 fM => lp_X0_live_39 Q n fx0 fx1 fx2 fx3 fx5 fx6 fx7 fx8 fM) Q x0 x1 x2 x3 y31 x6 x7 x8 0 (mI M48 x0 6) x0 M48)))))))) (As := [.ref x1, .ref x6, .int r27]) (rest := []) dX0_live_63 h25.1 rfl rfl (Nat.le_of_ble_eq_true rfl) (by
    intro c hc6 hk
    rcases hc6 with rfl | rfl | rfl | rfl | rfl | rfl
    · exact ⟨mX11_ask, 3, Or.inl ⟨c_X0_45, rfl⟩, rm_ok rfl rfl, T_X11_ask h25.2⟩
    · exact ⟨mX11_ask, 3, Or.inr ⟨mX11_ask, c_X0_45_2⟩, rm_ok rfl rfl, T_X11_ask h25.2⟩
    · exact ⟨mX11_ask, 3, Or.inr ⟨mX11_ask, c_X0_45_3⟩, rm_ok rfl rfl, T_X11_ask h25.2⟩
    · exact ⟨mX11_ask, 3, Or.inr ⟨mX11_ask, c_X0_45_8⟩, rm_ok rfl rfl, T_X11_ask h25.2⟩
    · exact ⟨mX11_ask, 3, Or.inr ⟨mX11_ask, c_X0_45_1⟩, rm_ok rfl rfl, T_X11_ask h25.2⟩
    · exact ⟨mX11_ask, 3, Or.inr ⟨mX11_ask, c_X0_45_10⟩, rm_ok rfl rfl, T_X11_ask h25.2⟩) ⟨Nat.le_refl 0, Nat.le_refl 0⟩ (kkI (fun r30 M29 h28 => s_istore (pc := 66) (L1 := [some (.ref x0), some (.ref x1), some (.ref x2), some (.int x3), none, some (.int x5), some (.ref x6), some (.ref x7), some (.int x8), some (.int r27), some (.int r30), none]) dX0_live_66 (Nat.le_of_ble_eq_true rfl) rfl (s_iload (pc := 68) dX0_live_68 rfl (s_ldc (pc := 70) dX0_live_70 k_X0_49 (s_imul (pc := 72) dX0_live_72 (s_sipush (pc := 73) dX0_live_73 cs_12345 (s_iadd (pc := 76) dX0_live_76 (nmI (fun y31 e32 => have h33 := h28 y31 e32; s_istore (pc := 77) (L1 := [some (.ref x0), some (.ref x1), some (.ref x2), some (.int x3), none, some (.int y31), some (.ref x6), some (.ref x7), some (.int x8), some (.int r27), some (.int r30), none]) dX0_live_77 (Nat.le_of_ble_eq_true rfl) rfl (s_aload_n (pc := 79) dX0_live_79 rfl (s_aload (pc := 80) dX0_live_80 rfl (s_iload_n (pc := 82) dX0_live_82 rfl (s_iload (pc := 83) dX0_live_83 rfl (s_iload (pc := 85) dX0_live_85 rfl (s_iload (pc := 87) dX0_live_87 rfl (s_callS (pc := 89) (As := [.ref x1, .ref x6, .int x3, .int y31, .int r27, .int r30]) (rest := []) (d' := 2) (mc' := 0) (ms' := 0) dX0_live_89 c_X0_50 rfl rfl (Nat.le_of_ble_eq_true rfl) (rm_ok rfl rfl) ⟨Nat.le_refl 0, Nat.le_refl 0⟩ (T_X0_eventBy h33) (kkI (fun r36 M35 h34 => s_istore (pc := 92) (L1 := [some (.ref x0), some (.ref x1), some (.ref x2), some (.int x3), none, some (.int y31), some (.ref x6), some (.ref x7), some (.int x8), some (.int r27), some (.int r30), some (.int r36)]) dX0_live_92 (Nat.le_of_ble_eq_true rfl) rfl (s_aload (pc := 94) dX0_live_94 rfl (s_aload (pc := 96) dX0_live_96 rfl (s_aload_n (pc := 98) dX0_live_98 rfl (s_iload (pc := 99) dX0_live_99 rfl (s_iload (pc := 101) dX0_live_101 rfl (s_iload (pc := 103) dX0_live_103 rfl (s_callV (pc := 105) (As := [.ref x6, .ref x1, .int r36, .int r27, .int r30]) (rest := []) (d' := 2) (mc' := 0) (ms' := 0) dX0_live_105 c_X0_54 (Nat.le_of_ble_eq_true rfl) rfl h34.1 rfl rfl (Nat.le_of_ble_eq_true rfl) (rm_ok rfl rfl) ⟨Nat.le_refl 0, Nat.le_refl 0⟩ (T_X9_follow h34.2) (kkI (fun r39 M38 h37 => s_pop (pc := 108) dX0_live_108 rfl (s_aload (pc := 109) dX0_live_109 rfl (s_aload (pc := 111) dX0_live_111 rfl (s_callV (pc := 113) (As := [.ref x7]) (rest := []) (d' := 0) (mc' := 0) (ms' := 0) dX0_live_113 c_X0_58 (Nat.le_of_ble_eq_true rfl) rfl h37.1 rfl rfl (Nat.le_of_ble_eq_true rfl) (rm_ok rfl rfl) ⟨Nat.le_refl 0, Nat.le_refl 0⟩ (T_X9_copyFrom h37.2) (kkV (fun M41 h40 => s_aload_n (pc := 116) dX0_live_116 rfl (s_dup (pc := 117) dX0_live_117 rfl (s_getI (pc := 118) dX0_live_118 f_X0_27 rfl h40.1 (s_iload (pc := 121) dX0_live_121 rfl (s_iload (pc := 123) dX0_live_123 rfl (s_iload (pc := 125) dX0_live_125 rfl (s_callSN (pc := 127) (As := [.int r36, .int r27, .int r30]) (rest := [.int (mI M41 x0 4), .ref x0]) (d' := 0) (mc' := 0) (ms' := 0) dX0_live_127 c_X0_62 rfl rfl (Nat.le_of_ble_eq_true rfl) (rm_ok rfl rfl) ⟨Nat.le_refl 0, Nat.le_refl 0⟩ (T_X12_takings h40.2) (kkI (fun r44 M43 h42 => s_aload_n (pc := 130) dX0_live_130 rfl (s_aload (pc := 131) dX0_live_131 rfl (s_getI (pc := 133) dX0_live_133 f_X0_66 rfl h42.1 (s_callV (pc := 136) (As := [.int (mI M43 x6 1)]) (rest := [.int r44, .int (mI M41 x0 4), .ref x0]) (d' := 1) (mc' := 0) (ms' := 0) dX0_live_136 c_X0_69 (Nat.le_of_ble_eq_true rfl) rfl h42.2.1 rfl rfl (Nat.le_of_ble_eq_true rfl) (rm_ok rfl rfl) ⟨Nat.le_refl 0, Nat.le_refl 0⟩ (T_X6_costOf h42.2.2) (kkI (fun r47 M46 h45 => s_isub (pc := 139) dX0_live_139 (s_iadd (pc := 140) dX0_live_140 (s_putI (pc := 141) dX0_live_141 f_X0_27 (Or.inl rfl) (Or.inl rfl) h45.1 (nmM (fun M48 e49 => have h50 := h45.2 M48 e49; s_aload_n (pc := 144) dX0_live_144 rfl (s_dup (pc := 145) dX0_live_145 rfl (s_getI (pc := 146) dX0_live_146 f_X0_31 rfl ((congrFun (congrArg mK e49) x0).trans h45.1) (s_iload (pc := 149) dX0_live_149 rfl (s_if_ne (pc := 151) (tgt := 158) dX0_live_151 rfl (fun c51 => have h52 := h50.1 c51; s_iconst (pc := 158) dX0_live_158 ci_1 (s_sel (L1 := [some (.ref x0), some (.ref x1), some (.ref x2), some (.int x3), none, some (.int y31), some (.ref x6), some (.ref x7), some (.int x8), none, none, none]) [true, true, true, true, false, true, true, true, true, false, false, false] rfl (P_jn_X0_live_159 ih x0 x1 x2 x3 y31 x6 x7 x8 1 (mI M48 x0 6) x0 M48 h52))) (fun c53 => have h54 := h50.2 c53; s_iconst (pc := 154) dX0_live_154 ci_0 (s_goto (pc := 155) (tgt := 159) dX0_live_155 rfl (s_sel (L1 := [some (.ref x0), some (.ref x1), some (.ref x2), some (.int x3), none, some (.int y31), some (.ref x6), some (.ref x7), some (.int x8), none, none, none]) [true, true, true, true, false, true, true, true, true, false, false, false] rfl (P_jn_X0_live_159 ih x0 x1 x2 x3 y31 x6 x7 x8 0 (mI M48 x0 6) x0 M48 h54))))))))))))))))))))))))))))))))))))))))))))))))))))))))))))))))))))))))
def wp_X0_live (p0 : Nat) (p1 : Nat) (p2 : Nat) (p3 : Int32) (p4 : Int32) (M : Mem) (Q : Mem → Prop) : Prop := mK M p0 = 1 ∧ mK M (mR M p0 0) = 23 ∧ vp_in (0 : Int32) (mN M (mR M p0 0)) ∧ ∀ y1 : Nat, y1 = mR M (mR M p0 0) (0 : Int32).toNatClampNeg → vp_in (1 : Int32) (mN M (mR M p0 0)) ∧ ∀ y4 : Nat, y4 = mR M (mR M p0 0) (1 : Int32).toNatClampNeg → mK M y1 = 10 ∧ wp_X9_begin y1 p1 M (fun M8 => mK M8 p0 = 1 ∧ ∀ M9 : Mem, M9 = uI M8 p0 4 0 → ∀ M12 : Mem, M12 = uI M9 p0 6 0 → ∃ n58 : Nat, lp_X0_live_39 Q n58 p0 p1 p2 p3 p4 y1 y4 0 M12)
theorem T_X0_live {G : GG} {Q : Mem → Prop} {M : Mem} {p0 : Nat} {p1 : Nat} {p2 : Nat} {p3 : Int32} {p4 : Int32} (h : wp_X0_live p0 p1 p2 p3 p4 M Q) : PMet G mX0_live 4 0 0 [.ref p0, .ref p1, .ref p2, .int p3, .int p4] M (QV Q) :=
  mk_met (by decide) rfl rfl (by
    intro w hw x9 e9
    subst e9
    simp at hw) (Nat.le_of_ble_eq_true rfl) (s_pad (L1 := [some (.ref p0), some (.ref p1), some (.ref p2), some (.int p3), some (.int p4), none, none, none, none, none, none, none]) 12 rfl (s_iload (pc := 0) dX0_live_0 rfl (s_istore (pc := 2) (L1 := [some (.ref p0), some (.ref p1), some (.ref p2), some (.int p3), some (.int p4), some (.int p4), none, none, none, none, none, none]) dX0_live_2 (Nat.le_of_ble_eq_true rfl) rfl (s_aload_n (pc := 4) dX0_live_4 rfl (s_getR (pc := 5) dX0_live_5 f_X0_11 rfl h.1 (s_iconst (pc := 8) dX0_live_8 ci_0 (s_aal (pc := 9) (t := 3) dX0_live_9 (Nat.le_of_ble_eq_true rfl) (Nat.le_of_ble_eq_true rfl) h.2.1 h.2.2.1 (nmR (fun y1 e2 => have h3 := h.2.2.2 y1 e2; s_astore (pc := 10) (L1 := [some (.ref p0), some (.ref p1), some (.ref p2), some (.int p3), some (.int p4), some (.int p4), some (.ref y1), none, none, none, none, none]) dX0_live_10 (Nat.le_of_ble_eq_true rfl) rfl (s_aload_n (pc := 12) dX0_live_12 rfl (s_getR (pc := 13) dX0_live_13 f_X0_11 rfl h.1 (s_iconst (pc := 16) dX0_live_16 ci_1 (s_aal (pc := 17) (t := 3) dX0_live_17 (Nat.le_of_ble_eq_true rfl) (Nat.le_of_ble_eq_true rfl) h.2.1 h3.1 (nmR (fun y4 e5 => have h6 := h3.2 y4 e5; s_astore (pc := 18) (L1 := [some (.ref p0), some (.ref p1), some (.ref p2), some (.int p3), some (.int p4), some (.int p4), some (.ref y1), some (.ref y4), none, none, none, none]) dX0_live_18 (Nat.le_of_ble_eq_true rfl) rfl (s_aload (pc := 20) dX0_live_20 rfl (s_aload_n (pc := 22) dX0_live_22 rfl (s_callV (pc := 23) (As := [.ref p1]) (rest := []) (d' := 0) (mc' := 0) (ms' := 0) dX0_live_23 c_X0_23 (Nat.le_of_ble_eq_true rfl) rfl h6.1 rfl rfl (Nat.le_of_ble_eq_true rfl) (rm_ok rfl rfl) ⟨Nat.le_refl 0, Nat.le_refl 0⟩ (T_X9_begin h6.2) (kkV (fun M8 h7 => s_aload_n (pc := 26) dX0_live_26 rfl (s_iconst (pc := 27) dX0_live_27 ci_0 (s_putI (pc := 28) dX0_live_28 f_X0_27 (Or.inl rfl) (Or.inl rfl) h7.1 (nmM (fun M9 e10 => have h11 := h7.2 M9 e10; s_aload_n (pc := 31) dX0_live_31 rfl (s_iconst (pc := 32) dX0_live_32 ci_0 (s_putI (pc := 33) dX0_live_33 f_X0_31 (Or.inl rfl) (Or.inl rfl) ((congrFun (congrArg mK e10) p0).trans h7.1) (nmM (fun M12 e13 => have h14 := h11 M12 e13; s_iconst (pc := 36) dX0_live_36 ci_0 (s_istore (pc := 37) (L1 := [some (.ref p0), some (.ref p1), some (.ref p2), some (.int p3), some (.int p4), some (.int p4), some (.ref y1), some (.ref y4), some (.int 0), none, none, none]) dX0_live_37 (Nat.le_of_ble_eq_true rfl) rfl (Exists.elim h14 (fun n58 hn => s_sel (L1 := [some (.ref p0), some (.ref p1), some (.ref p2), some (.int p3), none, some (.int p4), some (.ref y1), some (.ref y4), some (.int 0), none, none, none]) [true, true, true, true, false, true, true, true, true, false, false, false] rfl (P_lp_X0_live_39 n58 p0 p1 p2 p3 p4 y1 y4 0 M12 hn))))))))))))))))))))))))))))))))
/-! X6_knowersOf -/
theorem dX6_knowersOf_0 : cod mX6_knowersOf 0 (.iconst 0) 1 := by decide +kernel
theorem dX6_knowersOf_1 : cod mX6_knowersOf 1 (.istore 5) 2 := by decide +kernel
theorem dX6_knowersOf_3 : cod mX6_knowersOf 3 (.iconst 0) 1 := by decide +kernel
theorem dX6_knowersOf_4 : cod mX6_knowersOf 4 (.istore 6) 2 := by decide +kernel
theorem dX6_knowersOf_6 : cod mX6_knowersOf 6 (.iload 6) 2 := by decide +kernel
theorem dX6_knowersOf_8 : cod mX6_knowersOf 8 (.aload_n 0) 1 := by decide +kernel
theorem dX6_knowersOf_9 : cod mX6_knowersOf 9 (.getfield 43) 3 := by decide +kernel
theorem dX6_knowersOf_12 : cod mX6_knowersOf 12 (.if_icmp .ge 74) 3 := by decide +kernel
theorem dX6_knowersOf_15 : cod mX6_knowersOf 15 (.aload_n 0) 1 := by decide +kernel
theorem dX6_knowersOf_16 : cod mX6_knowersOf 16 (.getfield 18) 3 := by decide +kernel
theorem dX6_knowersOf_19 : cod mX6_knowersOf 19 (.iload 6) 2 := by decide +kernel
theorem dX6_knowersOf_21 : cod mX6_knowersOf 21 (.iaload) 1 := by decide +kernel
theorem dX6_knowersOf_22 : cod mX6_knowersOf 22 (.iconst 2) 1 := by decide +kernel
theorem dX6_knowersOf_23 : cod mX6_knowersOf 23 (.if_icmp .eq 14) 3 := by decide +kernel
theorem dX6_knowersOf_26 : cod mX6_knowersOf 26 (.aload_n 0) 1 := by decide +kernel
theorem dX6_knowersOf_27 : cod mX6_knowersOf 27 (.getfield 18) 3 := by decide +kernel
theorem dX6_knowersOf_30 : cod mX6_knowersOf 30 (.iload 6) 2 := by decide +kernel
theorem dX6_knowersOf_32 : cod mX6_knowersOf 32 (.iaload) 1 := by decide +kernel
theorem dX6_knowersOf_33 : cod mX6_knowersOf 33 (.iconst 3) 1 := by decide +kernel
theorem dX6_knowersOf_34 : cod mX6_knowersOf 34 (.if_icmp .ne 7) 3 := by decide +kernel
theorem dX6_knowersOf_37 : cod mX6_knowersOf 37 (.iconst 1) 1 := by decide +kernel
theorem dX6_knowersOf_38 : cod mX6_knowersOf 38 (.goto 4) 3 := by decide +kernel
theorem dX6_knowersOf_41 : cod mX6_knowersOf 41 (.iconst 0) 1 := by decide +kernel
theorem dX6_knowersOf_42 : cod mX6_knowersOf 42 (.istore 7) 2 := by decide +kernel
theorem dX6_knowersOf_44 : cod mX6_knowersOf 44 (.iload 7) 2 := by decide +kernel
theorem dX6_knowersOf_46 : cod mX6_knowersOf 46 (.ifCond .eq 34) 3 := by decide +kernel
theorem dX6_knowersOf_49 : cod mX6_knowersOf 49 (.aload_n 0) 1 := by decide +kernel
theorem dX6_knowersOf_50 : cod mX6_knowersOf 50 (.iload 6) 2 := by decide +kernel
theorem dX6_knowersOf_52 : cod mX6_knowersOf 52 (.aload_n 0) 1 := by decide +kernel
theorem dX6_knowersOf_53 : cod mX6_knowersOf 53 (.getfield 15) 3 := by decide +kernel
theorem dX6_knowersOf_56 : cod mX6_knowersOf 56 (.iload_n 2) 1 := by decide +kernel
theorem dX6_knowersOf_57 : cod mX6_knowersOf 57 (.iaload) 1 := by decide +kernel
theorem dX6_knowersOf_58 : cod mX6_knowersOf 58 (.iload_n 3) 1 := by decide +kernel
theorem dX6_knowersOf_59 : cod mX6_knowersOf 59 (.iload 4) 2 := by decide +kernel
theorem dX6_knowersOf_61 : cod mX6_knowersOf 61 (.invokevirtual 69) 3 := by decide +kernel
theorem dX6_knowersOf_64 : cod mX6_knowersOf 64 (.iload_n 1) 1 := by decide +kernel
theorem dX6_knowersOf_65 : cod mX6_knowersOf 65 (.if_icmp .ne 15) 3 := by decide +kernel
theorem dX6_knowersOf_68 : cod mX6_knowersOf 68 (.iload 5) 2 := by decide +kernel
theorem dX6_knowersOf_70 : cod mX6_knowersOf 70 (.aload_n 0) 1 := by decide +kernel
theorem dX6_knowersOf_71 : cod mX6_knowersOf 71 (.getfield 21) 3 := by decide +kernel
theorem dX6_knowersOf_74 : cod mX6_knowersOf 74 (.iload 6) 2 := by decide +kernel
theorem dX6_knowersOf_76 : cod mX6_knowersOf 76 (.iaload) 1 := by decide +kernel
theorem dX6_knowersOf_77 : cod mX6_knowersOf 77 (.iadd) 1 := by decide +kernel
theorem dX6_knowersOf_78 : cod mX6_knowersOf 78 (.istore 5) 2 := by decide +kernel
theorem dX6_knowersOf_80 : cod mX6_knowersOf 80 (.iinc 6 1) 3 := by decide +kernel
theorem dX6_knowersOf_83 : cod mX6_knowersOf 83 (.goto (-77)) 3 := by decide +kernel
theorem dX6_knowersOf_86 : cod mX6_knowersOf 86 (.iload 5) 2 := by decide +kernel
theorem dX6_knowersOf_88 : cod mX6_knowersOf 88 (.ireturn) 1 := by decide +kernel
def jn_X6_knowersOf_80 (K6 : Nat → Int32 → Int32 → Int32 → Int32 → Int32 → Int32 → Mem → Prop) (Q : Int32 → Mem → Prop) (x0 : Nat) (x1 : Int32) (x2 : Int32) (x3 : Int32) (x4 : Int32) (x5 : Int32) (x6 : Int32) (M : Mem) : Prop := K6 x0 x1 x2 x3 x4 x5 (x6 + 1) M
theorem P_jn_X6_knowersOf_80 {G : GG} {K6 : Nat → Int32 → Int32 → Int32 → Int32 → Int32 → Int32 → Mem → Prop} {Q : Int32 → Mem → Prop} (hK6 : ∀ (x0 : Nat) (x1 : Int32) (x2 : Int32) (x3 : Int32) (x4 : Int32) (x5 : Int32) (x6 : Int32) (M : Mem), K6 x0 x1 x2 x3 x4 x5 x6 M → PW G mX6_knowersOf (rmD 2 0 0) (QI Q) 6 [some (.ref x0), some (.int x1), some (.int x2), some (.int x3), some (.int x4), some (.int x5), some (.int x6), none] [] M 0 0) (x0 : Nat) (x1 : Int32) (x2 : Int32) (x3 : Int32) (x4 : Int32) (x5 : Int32) (x6 : Int32) (M : Mem) (h : jn_X6_knowersOf_80 K6 Q x0 x1 x2 x3 x4 x5 x6 M) : PW G mX6_knowersOf (rmD 2 0 0) (QI Q) 80 [some (.ref x0), some (.int x1), some (.int x2), some (.int x3), some (.int x4), some (.int x5), some (.int x6), none] [] M 0 0 := (s_iinc (pc := 80) (L1 := [some (.ref x0), some (.int x1), some (.int x2), some (.int x3), some (.int x4), some (.int x5), some (.int (x6 + 1)), none]) dX6_knowersOf_80 rfl ci_1 (Nat.le_of_ble_eq_true rfl) rfl (s_goto (pc := 83) (tgt := 6) dX6_knowersOf_83 rfl (s_sel (L1 := [some (.ref x0), some (.int x1), some (.int x2), some (.int x3), some (.int x4), some (.int x5), some (.int (x6 + 1)), none]) [true, true, true, true, true, true, true, false] rfl (hK6 x0 x1 x2 x3 x4 x5 (x6 + 1) M h))))
def jn_X6_knowersOf_42 (K6 : Nat → Int32 → Int32 → Int32 → Int32 → Int32 → Int32 → Mem → Prop) (Q : Int32 → Mem → Prop) (x0 : Nat) (x1 : Int32) (x2 : Int32) (x3 : Int32) (x4 : Int32) (x5 : Int32) (x6 : Int32) (s0 : Int32) (M : Mem) : Prop := (s0 = (0 : Int32) → jn_X6_knowersOf_80 K6 Q x0 x1 x2 x3 x4 x5 x6 M) ∧ (¬ s0 = (0 : Int32) → mK M x0 = 7 ∧ mK M (mR M x0 2) = 20 ∧ vp_in x2 (mN M (mR M x0 2)) ∧ wp_X6_dealOf x0 x6 (mI M (mR M x0 2) x2.toNatClampNeg) x3 x4 M (fun r15 M14 => (¬ r15 = x1 → jn_X6_knowersOf_80 K6 Q x0 x1 x2 x3 x4 x5 x6 M14) ∧ (r15 = x1 → mK M14 x0 = 7 ∧ mK M14 (mR M14 x0 5) = 20 ∧ vp_in x6 (mN M14 (mR M14 x0 5)) ∧ ∀ y20 : Int32, y20 = x5 + (mI M14 (mR M14 x0 5) x6.toNatClampNeg) → jn_X6_knowersOf_80 K6 Q x0 x1 x2 x3 x4 y20 x6 M14)))
theorem P_jn_X6_knowersOf_42 {G : GG} {K6 : Nat → Int32 → Int32 → Int32 → Int32 → Int32 → Int32 → Mem → Prop} {Q : Int32 → Mem → Prop} (hK6 : ∀ (x0 : Nat) (x1 : Int32) (x2 : Int32) (x3 : Int32) (x4 : Int32) (x5 : Int32) (x6 : Int32) (M : Mem), K6 x0 x1 x2 x3 x4 x5 x6 M → PW G mX6_knowersOf (rmD 2 0 0) (QI Q) 6 [some (.ref x0), some (.int x1), some (.int x2), some (.int x3), some (.int x4), some (.int x5), some (.int x6), none] [] M 0 0) (x0 : Nat) (x1 : Int32) (x2 : Int32) (x3 : Int32) (x4 : Int32) (x5 : Int32) (x6 : Int32) (s0 : Int32) (M : Mem) (h : jn_X6_knowersOf_42 K6 Q x0 x1 x2 x3 x4 x5 x6 s0 M) : PW G mX6_knowersOf (rmD 2 0 0) (QI Q) 42 [some (.ref x0), some (.int x1), some (.int x2), some (.int x3), some (.int x4), some (.int x5), some (.int x6), none] [.int s0] M 0 0 := (s_istore (pc := 42) (L1 := [some (.ref x0), some (.int x1), some (.int x2), some (.int x3), some (.int x4), some (.int x5), some (.int x6), some (.int s0)]) dX6_knowersOf_42 (Nat.le_of_ble_eq_true rfl) rfl (s_iload (pc := 44) dX6_knowersOf_44 rfl (s_if_eq (pc := 46) (tgt := 80) dX6_knowersOf_46 rfl (fun c9 => have h10 := h.1 c9; s_sel (L1 := [some (.ref x0), some (.int x1), some (.int x2), some (.int x3), some (.int x4), some (.int x5), some (.int x6), none]) [true, true, true, true, true, true, true, false] rfl (P_jn_X6_knowersOf_80 hK6 x0 x1 x2 x3 x4 x5 x6 M h10)) (fun c11 => have h12 := h.2 c11; s_aload_n (pc := 49) dX6_knowersOf_49 rfl (s_iload (pc := 50) dX6_knowersOf_50 rfl (s_aload_n (pc := 52) dX6_knowersOf_52 rfl (s_getR (pc := 53) dX6_knowersOf_53 f_X6_15 rfl h12.1 (s_iload_n (pc := 56) dX6_knowersOf_56 rfl (s_ial (pc := 57) dX6_knowersOf_57 h12.2.1 h12.2.2.1 (s_iload_n (pc := 58) dX6_knowersOf_58 rfl (s_iload (pc := 59) dX6_knowersOf_59 rfl (s_callV (pc := 61) (As := [.int x6, .int (mI M (mR M x0 2) x2.toNatClampNeg), .int x3, .int x4]) (rest := []) (d' := 1) (mc' := 0) (ms' := 0) dX6_knowersOf_61 c_X6_69 (Nat.le_of_ble_eq_true rfl) rfl h12.1 rfl rfl (Nat.le_of_ble_eq_true rfl) (rm_ok rfl rfl) ⟨Nat.le_refl 0, Nat.le_refl 0⟩ (T_X6_dealOf h12.2.2.2) (kkI (fun r15 M14 h13 => s_iload_n (pc := 64) dX6_knowersOf_64 rfl (s_icmp_ne (pc := 65) (tgt := 80) dX6_knowersOf_65 rfl (fun c16 => have h17 := h13.1 c16; s_sel (L1 := [some (.ref x0), some (.int x1), some (.int x2), some (.int x3), some (.int x4), some (.int x5), some (.int x6), none]) [true, true, true, true, true, true, true, false] rfl (P_jn_X6_knowersOf_80 hK6 x0 x1 x2 x3 x4 x5 x6 M14 h17)) (fun c18 => have h19 := h13.2 c18; s_iload (pc := 68) dX6_knowersOf_68 rfl (s_aload_n (pc := 70) dX6_knowersOf_70 rfl (s_getR (pc := 71) dX6_knowersOf_71 f_X6_21 rfl h19.1 (s_iload (pc := 74) dX6_knowersOf_74 rfl (s_ial (pc := 76) dX6_knowersOf_76 h19.2.1 h19.2.2.1 (s_iadd (pc := 77) dX6_knowersOf_77 (nmI (fun y20 e21 => have h22 := h19.2.2.2 y20 e21; s_istore (pc := 78) (L1 := [some (.ref x0), some (.int x1), some (.int x2), some (.int x3), some (.int x4), some (.int y20), some (.int x6), some (.int s0)]) dX6_knowersOf_78 (Nat.le_of_ble_eq_true rfl) rfl (s_sel (L1 := [some (.ref x0), some (.int x1), some (.int x2), some (.int x3), some (.int x4), some (.int y20), some (.int x6), none]) [true, true, true, true, true, true, true, false] rfl (P_jn_X6_knowersOf_80 hK6 x0 x1 x2 x3 x4 y20 x6 M14 h22)))))))))))))))))))))))))
def jn_X6_knowersOf_37 (K6 : Nat → Int32 → Int32 → Int32 → Int32 → Int32 → Int32 → Mem → Prop) (Q : Int32 → Mem → Prop) (x0 : Nat) (x1 : Int32) (x2 : Int32) (x3 : Int32) (x4 : Int32) (x5 : Int32) (x6 : Int32) (M : Mem) : Prop := jn_X6_knowersOf_42 K6 Q x0 x1 x2 x3 x4 x5 x6 1 M
theorem P_jn_X6_knowersOf_37 {G : GG} {K6 : Nat → Int32 → Int32 → Int32 → Int32 → Int32 → Int32 → Mem → Prop} {Q : Int32 → Mem → Prop} (hK6 : ∀ (x0 : Nat) (x1 : Int32) (x2 : Int32) (x3 : Int32) (x4 : Int32) (x5 : Int32) (x6 : Int32) (M : Mem), K6 x0 x1 x2 x3 x4 x5 x6 M → PW G mX6_knowersOf (rmD 2 0 0) (QI Q) 6 [some (.ref x0), some (.int x1), some (.int x2), some (.int x3), some (.int x4), some (.int x5), some (.int x6), none] [] M 0 0) (x0 : Nat) (x1 : Int32) (x2 : Int32) (x3 : Int32) (x4 : Int32) (x5 : Int32) (x6 : Int32) (M : Mem) (h : jn_X6_knowersOf_37 K6 Q x0 x1 x2 x3 x4 x5 x6 M) : PW G mX6_knowersOf (rmD 2 0 0) (QI Q) 37 [some (.ref x0), some (.int x1), some (.int x2), some (.int x3), some (.int x4), some (.int x5), some (.int x6), none] [] M 0 0 := (s_iconst (pc := 37) dX6_knowersOf_37 ci_1 (s_goto (pc := 38) (tgt := 42) dX6_knowersOf_38 rfl (s_sel (L1 := [some (.ref x0), some (.int x1), some (.int x2), some (.int x3), some (.int x4), some (.int x5), some (.int x6), none]) [true, true, true, true, true, true, true, false] rfl (P_jn_X6_knowersOf_42 hK6 x0 x1 x2 x3 x4 x5 x6 1 M h))))
def lp_X6_knowersOf_6 (Q : Int32 → Mem → Prop) : Nat → Nat → Int32 → Int32 → Int32 → Int32 → Int32 → Int32 → Mem → Prop
  | 0 => fun _ _ _ _ _ _ _ _ => False
  | n + 1 => fun x0 x1 x2 x3 x4 x5 x6 M => mK M x0 = 7 ∧ ((mI M x0 3) ≤ x6 → Q x5 M) ∧ (¬ (mI M x0 3) ≤ x6 → mK M (mR M x0 4) = 20 ∧ vp_in x6 (mN M (mR M x0 4)) ∧ ((mI M (mR M x0 4) x6.toNatClampNeg) = (2 : Int32) → jn_X6_knowersOf_37 (fun fx0 fx1 fx2 fx3 fx4 fx5 fx6 fM => lp_X6_knowersOf_6 Q n fx0 fx1 fx2 fx3 fx4 fx5 fx6 fM) Q x0 x1 x2 x3 x4 x5 x6 M) ∧ (¬ (mI M (mR M x0 4) x6.toNatClampNeg) = (2 : Int32) → vp_in x6 (mN M (mR M x0 4)) ∧ (¬ (mI M (mR M x0 4) x6.toNatClampNeg) = (3 : Int32) → jn_X6_knowersOf_42 (fun fx0 fx1 fx2 fx3 fx4 fx5 fx6 fM => lp_X6_knowersOf_6 Q n fx0 fx1 fx2 fx3 fx4 fx5 fx6 fM) Q x0 x1 x2 x3 x4 x5 x6 0 M) ∧ ((mI M (mR M x0 4) x6.toNatClampNeg) = (3 : Int32) → jn_X6_knowersOf_37 (fun fx0 fx1 fx2 fx3 fx4 fx5 fx6 fM => lp_X6_knowersOf_6 Q n fx0 fx1 fx2 fx3 fx4 fx5 fx6 fM) Q x0 x1 x2 x3 x4 x5 x6 M)))
theorem P_lp_X6_knowersOf_6 {G : GG} {Q : Int32 → Mem → Prop} : ∀ (n : Nat) (x0 : Nat) (x1 : Int32) (x2 : Int32) (x3 : Int32) (x4 : Int32) (x5 : Int32) (x6 : Int32) (M : Mem), lp_X6_knowersOf_6 Q n x0 x1 x2 x3 x4 x5 x6 M → PW G mX6_knowersOf (rmD 2 0 0) (QI Q) 6 [some (.ref x0), some (.int x1), some (.int x2), some (.int x3), some (.int x4), some (.int x5), some (.int x6), none] [] M 0 0 := by
  intro n
  induction n with
  | zero => intro x0 x1 x2 x3 x4 x5 x6 M h; exact h.elim
  | succ n ih =>
    intro x0 x1 x2 x3 x4 x5 x6 M h
    exact (s_iload (pc := 6) dX6_knowersOf_6 rfl (s_aload_n (pc := 8) dX6_knowersOf_8 rfl (s_getI (pc := 9) dX6_knowersOf_9 f_X6_43 rfl h.1 (s_icmp_ge (pc := 12) (tgt := 86) dX6_knowersOf_12 rfl (fun c1 => have h2 := h.2.1 c1; s_iload (pc := 86) dX6_knowersOf_86 rfl (s_ireturn (pc := 88) dX6_knowersOf_88 rfl (Nat.zero_le _) (Nat.zero_le _) ⟨_, rfl, h2⟩)) (fun c3 => have h4 := h.2.2 c3; s_aload_n (pc := 15) dX6_knowersOf_15 rfl (s_getR (pc := 16) dX6_knowersOf_16 f_X6_18 rfl h.1 (s_iload (pc := 19) dX6_knowersOf_19 rfl (s_ial (pc := 21) dX6_knowersOf_21 h4.1 h4.2.1 (s_iconst (pc := 22) dX6_knowersOf_22 ci_2 (s_icmp_eq (pc := 23) (tgt := 37) dX6_knowersOf_23 rfl (fun c5 => have h6 := h4.2.2.1 c5; s_sel (L1 := [some (.ref x0), some (.int x1), some (.int x2), some (.int x3), some (.int x4), some (.int x5), some (.int x6), none]) [true, true, true, true, true, true, true, false] rfl (P_jn_X6_knowersOf_37 ih x0 x1 x2 x3 x4 x5 x6 M h6)) (fun c7 => have h8 := h4.2.2.2 c7; s_aload_n (pc := 26) dX6_knowersOf_26 rfl (s_getR (pc := 27) dX6_knowersOf_27 f_X6_18 rfl h.1 (s_iload (pc := 30) dX6_knowersOf_30 rfl (s_ial (pc := 32) dX6_knowersOf_32 h4.1 h8.1 (s_iconst (pc := 33) dX6_knowersOf_33 ci_3 (s_icmp_ne (pc := 34) (tgt := 41) dX6_knowersOf_34 rfl (fun c23 => have h24 := h8.2.1 c23; s_iconst (pc := 41) dX6_knowersOf_41 ci_0 (s_sel (L1 := [some (.ref x0), some (.int x1), some (.int x2), some (.int x3), some (.int x4), some (.int x5), some (.int x6), none]) [true, true, true, true, true, true, true, false] rfl (P_jn_X6_knowersOf_42 ih x0 x1 x2 x3 x4 x5 x6 0 M h24))) (fun c25 => have h26 := h8.2.2 c25; s_sel (L1 := [some (.ref x0), some (.int x1), some (.int x2), some (.int x3), some (.int x4), some (.int x5), some (.int x6), none]) [true, true, true, true, true, true, true, false] rfl (P_jn_X6_knowersOf_37 ih x0 x1 x2 x3 x4 x5 x6 M h26))))))))))))))))))
def wp_X6_knowersOf (p0 : Nat) (p1 : Int32) (p2 : Int32) (p3 : Int32) (p4 : Int32) (M : Mem) (Q : Int32 → Mem → Prop) : Prop := ∃ n27 : Nat, lp_X6_knowersOf_6 Q n27 p0 p1 p2 p3 p4 0 0 M
theorem T_X6_knowersOf {G : GG} {Q : Int32 → Mem → Prop} {M : Mem} {p0 : Nat} {p1 : Int32} {p2 : Int32} {p3 : Int32} {p4 : Int32} (h : wp_X6_knowersOf p0 p1 p2 p3 p4 M Q) : PMet G mX6_knowersOf 2 0 0 [.ref p0, .int p1, .int p2, .int p3, .int p4] M (QI Q) :=
  mk_met (by decide) rfl rfl (by
    intro w hw x9 e9
    subst e9
    simp at hw) (Nat.le_of_ble_eq_true rfl) (s_pad (L1 := [some (.ref p0), some (.int p1), some (.int p2), some (.int p3), some (.int p4), none, none, none]) 8 rfl (s_iconst (pc := 0) dX6_knowersOf_0 ci_0 (s_istore (pc := 1) (L1 := [some (.ref p0), some (.int p1), some (.int p2), some (.int p3), some (.int p4), some (.int 0), none, none]) dX6_knowersOf_1 (Nat.le_of_ble_eq_true rfl) rfl (s_iconst (pc := 3) dX6_knowersOf_3 ci_0 (s_istore (pc := 4) (L1 := [some (.ref p0), some (.int p1), some (.int p2), some (.int p3), some (.int p4), some (.int 0), some (.int 0), none]) dX6_knowersOf_4 (Nat.le_of_ble_eq_true rfl) rfl (Exists.elim h (fun n27 hn => s_sel (L1 := [some (.ref p0), some (.int p1), some (.int p2), some (.int p3), some (.int p4), some (.int 0), some (.int 0), none]) [true, true, true, true, true, true, true, false] rfl (P_lp_X6_knowersOf_6 n27 p0 p1 p2 p3 p4 0 0 M hn))))))))
/-! X0_readLog -/
theorem dX0_readLog_0 : cod mX0_readLog 0 (.aload_n 0) 1 := by decide +kernel
theorem dX0_readLog_1 : cod mX0_readLog 1 (.getfield 11) 3 := by decide +kernel
theorem dX0_readLog_4 : cod mX0_readLog 4 (.iconst 0) 1 := by decide +kernel
theorem dX0_readLog_5 : cod mX0_readLog 5 (.aaload) 1 := by decide +kernel
theorem dX0_readLog_6 : cod mX0_readLog 6 (.astore 5) 2 := by decide +kernel
theorem dX0_readLog_8 : cod mX0_readLog 8 (.aload_n 0) 1 := by decide +kernel
theorem dX0_readLog_9 : cod mX0_readLog 9 (.getfield 11) 3 := by decide +kernel
theorem dX0_readLog_12 : cod mX0_readLog 12 (.iconst 1) 1 := by decide +kernel
theorem dX0_readLog_13 : cod mX0_readLog 13 (.aaload) 1 := by decide +kernel
theorem dX0_readLog_14 : cod mX0_readLog 14 (.astore 6) 2 := by decide +kernel
theorem dX0_readLog_16 : cod mX0_readLog 16 (.aload 5) 2 := by decide +kernel
theorem dX0_readLog_18 : cod mX0_readLog 18 (.aload_n 1) 1 := by decide +kernel
theorem dX0_readLog_19 : cod mX0_readLog 19 (.invokevirtual 23) 3 := by decide +kernel
theorem dX0_readLog_22 : cod mX0_readLog 22 (.aload_n 2) 1 := by decide +kernel
theorem dX0_readLog_23 : cod mX0_readLog 23 (.getfield 128) 3 := by decide +kernel
theorem dX0_readLog_26 : cod mX0_readLog 26 (.iconst 1) 1 := by decide +kernel
theorem dX0_readLog_27 : cod mX0_readLog 27 (.isub) 1 := by decide +kernel
theorem dX0_readLog_28 : cod mX0_readLog 28 (.istore 7) 2 := by decide +kernel
theorem dX0_readLog_30 : cod mX0_readLog 30 (.iconst 0) 1 := by decide +kernel
theorem dX0_readLog_31 : cod mX0_readLog 31 (.istore 8) 2 := by decide +kernel
theorem dX0_readLog_33 : cod mX0_readLog 33 (.iload 8) 2 := by decide +kernel
theorem dX0_readLog_35 : cod mX0_readLog 35 (.iload 7) 2 := by decide +kernel
theorem dX0_readLog_37 : cod mX0_readLog 37 (.if_icmp .ge 40) 3 := by decide +kernel
theorem dX0_readLog_40 : cod mX0_readLog 40 (.aload 6) 2 := by decide +kernel
theorem dX0_readLog_42 : cod mX0_readLog 42 (.aload 5) 2 := by decide +kernel
theorem dX0_readLog_44 : cod mX0_readLog 44 (.aload_n 1) 1 := by decide +kernel
theorem dX0_readLog_45 : cod mX0_readLog 45 (.aload_n 2) 1 := by decide +kernel
theorem dX0_readLog_46 : cod mX0_readLog 46 (.getfield 133) 3 := by decide +kernel
theorem dX0_readLog_49 : cod mX0_readLog 49 (.iload 8) 2 := by decide +kernel
theorem dX0_readLog_51 : cod mX0_readLog 51 (.iaload) 1 := by decide +kernel
theorem dX0_readLog_52 : cod mX0_readLog 52 (.iload_n 3) 1 := by decide +kernel
theorem dX0_readLog_53 : cod mX0_readLog 53 (.iload 4) 2 := by decide +kernel
theorem dX0_readLog_55 : cod mX0_readLog 55 (.invokevirtual 54) 3 := by decide +kernel
theorem dX0_readLog_58 : cod mX0_readLog 58 (.ifCond .ne 6) 3 := by decide +kernel
theorem dX0_readLog_61 : cod mX0_readLog 61 (.iload 8) 2 := by decide +kernel
theorem dX0_readLog_63 : cod mX0_readLog 63 (.ireturn) 1 := by decide +kernel
theorem dX0_readLog_64 : cod mX0_readLog 64 (.aload 5) 2 := by decide +kernel
theorem dX0_readLog_66 : cod mX0_readLog 66 (.aload 6) 2 := by decide +kernel
theorem dX0_readLog_68 : cod mX0_readLog 68 (.invokevirtual 58) 3 := by decide +kernel
theorem dX0_readLog_71 : cod mX0_readLog 71 (.iinc 8 1) 3 := by decide +kernel
theorem dX0_readLog_74 : cod mX0_readLog 74 (.goto (-41)) 3 := by decide +kernel
theorem dX0_readLog_77 : cod mX0_readLog 77 (.aload_n 2) 1 := by decide +kernel
theorem dX0_readLog_78 : cod mX0_readLog 78 (.iload 7) 2 := by decide +kernel
theorem dX0_readLog_80 : cod mX0_readLog 80 (.invokevirtual 136) 3 := by decide +kernel
theorem dX0_readLog_83 : cod mX0_readLog 83 (.ifCond .eq 13) 3 := by decide +kernel
theorem dX0_readLog_86 : cod mX0_readLog 86 (.aload_n 2) 1 := by decide +kernel
theorem dX0_readLog_87 : cod mX0_readLog 87 (.getfield 133) 3 := by decide +kernel
theorem dX0_readLog_90 : cod mX0_readLog 90 (.iload 7) 2 := by decide +kernel
theorem dX0_readLog_92 : cod mX0_readLog 92 (.iaload) 1 := by decide +kernel
theorem dX0_readLog_93 : cod mX0_readLog 93 (.goto 4) 3 := by decide +kernel
theorem dX0_readLog_96 : cod mX0_readLog 96 (.iconst 0) 1 := by decide +kernel
theorem dX0_readLog_97 : cod mX0_readLog 97 (.istore 8) 2 := by decide +kernel
theorem dX0_readLog_99 : cod mX0_readLog 99 (.aload_n 0) 1 := by decide +kernel
theorem dX0_readLog_100 : cod mX0_readLog 100 (.lconst 0) 1 := by decide +kernel
theorem dX0_readLog_101 : cod mX0_readLog 101 (.putfield 140) 3 := by decide +kernel
theorem dX0_readLog_104 : cod mX0_readLog 104 (.aload_n 0) 1 := by decide +kernel
theorem dX0_readLog_105 : cod mX0_readLog 105 (.lconst 0) 1 := by decide +kernel
theorem dX0_readLog_106 : cod mX0_readLog 106 (.putfield 143) 3 := by decide +kernel
theorem dX0_readLog_109 : cod mX0_readLog 109 (.iconst 0) 1 := by decide +kernel
theorem dX0_readLog_110 : cod mX0_readLog 110 (.istore 9) 2 := by decide +kernel
theorem dX0_readLog_112 : cod mX0_readLog 112 (.iload 9) 2 := by decide +kernel
theorem dX0_readLog_114 : cod mX0_readLog 114 (.aload_n 1) 1 := by decide +kernel
theorem dX0_readLog_115 : cod mX0_readLog 115 (.getfield 102) 3 := by decide +kernel
theorem dX0_readLog_118 : cod mX0_readLog 118 (.if_icmp .ge 74) 3 := by decide +kernel
theorem dX0_readLog_121 : cod mX0_readLog 121 (.aload 5) 2 := by decide +kernel
theorem dX0_readLog_123 : cod mX0_readLog 123 (.getfield 146) 3 := by decide +kernel
theorem dX0_readLog_126 : cod mX0_readLog 126 (.iload 9) 2 := by decide +kernel
theorem dX0_readLog_128 : cod mX0_readLog 128 (.laload) 1 := by decide +kernel
theorem dX0_readLog_129 : cod mX0_readLog 129 (.lstore 10) 2 := by decide +kernel
theorem dX0_readLog_131 : cod mX0_readLog 131 (.aload_n 0) 1 := by decide +kernel
theorem dX0_readLog_132 : cod mX0_readLog 132 (.dup) 1 := by decide +kernel
theorem dX0_readLog_133 : cod mX0_readLog 133 (.getfield 143) 3 := by decide +kernel
theorem dX0_readLog_136 : cod mX0_readLog 136 (.lload 10) 2 := by decide +kernel
theorem dX0_readLog_138 : cod mX0_readLog 138 (.aload 5) 2 := by decide +kernel
theorem dX0_readLog_140 : cod mX0_readLog 140 (.aload_n 1) 1 := by decide +kernel
theorem dX0_readLog_141 : cod mX0_readLog 141 (.iload 8) 2 := by decide +kernel
theorem dX0_readLog_143 : cod mX0_readLog 143 (.iload 9) 2 := by decide +kernel
theorem dX0_readLog_145 : cod mX0_readLog 145 (.iload_n 3) 1 := by decide +kernel
theorem dX0_readLog_146 : cod mX0_readLog 146 (.iload 4) 2 := by decide +kernel
theorem dX0_readLog_148 : cod mX0_readLog 148 (.invokevirtual 116) 3 := by decide +kernel
theorem dX0_readLog_151 : cod mX0_readLog 151 (.i2l) 1 := by decide +kernel
theorem dX0_readLog_152 : cod mX0_readLog 152 (.lmul) 1 := by decide +kernel
theorem dX0_readLog_153 : cod mX0_readLog 153 (.ladd) 1 := by decide +kernel
theorem dX0_readLog_154 : cod mX0_readLog 154 (.putfield 143) 3 := by decide +kernel
theorem dX0_readLog_157 : cod mX0_readLog 157 (.iload 8) 2 := by decide +kernel
theorem dX0_readLog_159 : cod mX0_readLog 159 (.ifCond .eq 27) 3 := by decide +kernel
theorem dX0_readLog_162 : cod mX0_readLog 162 (.aload_n 0) 1 := by decide +kernel
theorem dX0_readLog_163 : cod mX0_readLog 163 (.dup) 1 := by decide +kernel
theorem dX0_readLog_164 : cod mX0_readLog 164 (.getfield 140) 3 := by decide +kernel
theorem dX0_readLog_167 : cod mX0_readLog 167 (.lload 10) 2 := by decide +kernel
theorem dX0_readLog_169 : cod mX0_readLog 169 (.aload_n 1) 1 := by decide +kernel
theorem dX0_readLog_170 : cod mX0_readLog 170 (.iload 8) 2 := by decide +kernel
theorem dX0_readLog_172 : cod mX0_readLog 172 (.iload 9) 2 := by decide +kernel
theorem dX0_readLog_174 : cod mX0_readLog 174 (.iload_n 3) 1 := by decide +kernel
theorem dX0_readLog_175 : cod mX0_readLog 175 (.iload 4) 2 := by decide +kernel
theorem dX0_readLog_177 : cod mX0_readLog 177 (.invokevirtual 150) 3 := by decide +kernel
theorem dX0_readLog_180 : cod mX0_readLog 180 (.i2l) 1 := by decide +kernel
theorem dX0_readLog_181 : cod mX0_readLog 181 (.lmul) 1 := by decide +kernel
theorem dX0_readLog_182 : cod mX0_readLog 182 (.ladd) 1 := by decide +kernel
theorem dX0_readLog_183 : cod mX0_readLog 183 (.putfield 140) 3 := by decide +kernel
theorem dX0_readLog_186 : cod mX0_readLog 186 (.iinc 9 1) 3 := by decide +kernel
theorem dX0_readLog_189 : cod mX0_readLog 189 (.goto (-77)) 3 := by decide +kernel
theorem dX0_readLog_192 : cod mX0_readLog 192 (.aload_n 0) 1 := by decide +kernel
theorem dX0_readLog_193 : cod mX0_readLog 193 (.getfield 143) 3 := by decide +kernel
theorem dX0_readLog_196 : cod mX0_readLog 196 (.lconst 0) 1 := by decide +kernel
theorem dX0_readLog_197 : cod mX0_readLog 197 (.lcmp) 1 := by decide +kernel
theorem dX0_readLog_198 : cod mX0_readLog 198 (.ifCond .le 7) 3 := by decide +kernel
theorem dX0_readLog_201 : cod mX0_readLog 201 (.iconst (-1)) 1 := by decide +kernel
theorem dX0_readLog_202 : cod mX0_readLog 202 (.goto 5) 3 := by decide +kernel
theorem dX0_readLog_205 : cod mX0_readLog 205 (.iload 7) 2 := by decide +kernel
theorem dX0_readLog_207 : cod mX0_readLog 207 (.ireturn) 1 := by decide +kernel
def jn_X0_readLog_186 (K112 : Nat → Nat → Int32 → Int32 → Nat → Int32 → Int32 → Int32 → Mem → Prop) (Q : Int32 → Mem → Prop) (x0 : Nat) (x1 : Nat) (x3 : Int32) (x4 : Int32) (x5 : Nat) (x7 : Int32) (x8 : Int32) (x9 : Int32) (M : Mem) : Prop := K112 x0 x1 x3 x4 x5 x7 x8 (x9 + 1) M
theorem P_jn_X0_readLog_186 {G : GG} {K112 : Nat → Nat → Int32 → Int32 → Nat → Int32 → Int32 → Int32 → Mem → Prop} {Q : Int32 → Mem → Prop} (hK112 : ∀ (x0 : Nat) (x1 : Nat) (x3 : Int32) (x4 : Int32) (x5 : Nat) (x7 : Int32) (x8 : Int32) (x9 : Int32) (M : Mem), K112 x0 x1 x3 x4 x5 x7 x8 x9 M → PW G mX0_readLog (rmD 3 0 0) (QI Q) 112 [some (.ref x0), some (.ref x1), none, some (.int x3), some (.int x4), some (.ref x5), none, some (.int x7), some (.int x8), some (.int x9), none, none] [] M 0 0) (x0 : Nat) (x1 : Nat) (x3 : Int32) (x4 : Int32) (x5 : Nat) (x7 : Int32) (x8 : Int32) (x9 : Int32) (M : Mem) (h : jn_X0_readLog_186 K112 Q x0 x1 x3 x4 x5 x7 x8 x9 M) : PW G mX0_readLog (rmD 3 0 0) (QI Q) 186 [some (.ref x0), some (.ref x1), none, some (.int x3), some (.int x4), some (.ref x5), none, some (.int x7), some (.int x8), some (.int x9), none, none] [] M 0 0 := (s_iinc (pc := 186) (L1 := [some (.ref x0), some (.ref x1), none, some (.int x3), some (.int x4), some (.ref x5), none, some (.int x7), some (.int x8), some (.int (x9 + 1)), none, none]) dX0_readLog_186 rfl ci_1 (Nat.le_of_ble_eq_true rfl) rfl (s_goto (pc := 189) (tgt := 112) dX0_readLog_189 rfl (s_sel (L1 := [some (.ref x0), some (.ref x1), none, some (.int x3), some (.int x4), some (.ref x5), none, some (.int x7), some (.int x8), some (.int (x9 + 1)), none, none]) [true, true, false, true, true, true, false, true, true, true, false, false] rfl (hK112 x0 x1 x3 x4 x5 x7 x8 (x9 + 1) M h))))
def lp_X0_readLog_112 (Q : Int32 → Mem → Prop) : Nat → Nat → Nat → Int32 → Int32 → Nat → Int32 → Int32 → Int32 → Mem → Prop
  | 0 => fun _ _ _ _ _ _ _ _ _ => False
  | n + 1 => fun x0 x1 x3 x4 x5 x7 x8 x9 M => mK M x1 = 7 ∧ ((mI M x1 0) ≤ x9 → mK M x0 = 1 ∧ ((mJ M x0 8) ≤ (0 : Int64) → Q x7 M) ∧ (¬ (mJ M x0 8) ≤ (0 : Int64) → Q (-1) M)) ∧ (¬ (mI M x1 0) ≤ x9 → mK M x5 = 10 ∧ mK M (mR M x5 0) = 21 ∧ vp_in x9 (mN M (mR M x5 0)) ∧ ∀ y37 : Int64, y37 = mJ M (mR M x5 0) x9.toNatClampNeg → mK M x0 = 1 ∧ wp_X9_oddsOf x5 x1 x8 x9 x3 x4 M (fun r42 M41 => mK M41 x0 = 1 ∧ ∀ M43 : Mem, M43 = uJ M41 x0 8 ((mJ M x0 8) + (y37 * r42.toInt64)) → (x8 = (0 : Int32) → jn_X0_readLog_186 (fun fx0 fx1 fx3 fx4 fx5 fx7 fx8 fx9 fM => lp_X0_readLog_112 Q n fx0 fx1 fx3 fx4 fx5 fx7 fx8 fx9 fM) Q x0 x1 x3 x4 x5 x7 x8 x9 M43) ∧ (¬ x8 = (0 : Int32) → mK M43 x1 = 7 ∧ wp_X6_knowersOf x1 x8 x9 x3 x4 M43 (fun r52 M51 => mK M51 x0 = 1 ∧ ∀ M53 : Mem, M53 = uJ M51 x0 7 ((mJ M43 x0 7) + (y37 * r52.toInt64)) → jn_X0_readLog_186 (fun fx0 fx1 fx3 fx4 fx5 fx7 fx8 fx9 fM => lp_X0_readLog_112 Q n fx0 fx1 fx3 fx4 fx5 fx7 fx8 fx9 fM) Q x0 x1 x3 x4 x5 x7 x8 x9 M53))))
theorem P_lp_X0_readLog_112 {G : GG} {Q : Int32 → Mem → Prop} : ∀ (n : Nat) (x0 : Nat) (x1 : Nat) (x3 : Int32) (x4 : Int32) (x5 : Nat) (x7 : Int32) (x8 : Int32) (x9 : Int32) (M : Mem), lp_X0_readLog_112 Q n x0 x1 x3 x4 x5 x7 x8 x9 M → PW G mX0_readLog (rmD 3 0 0) (QI Q) 112 [some (.ref x0), some (.ref x1), none, some (.int x3), some (.int x4), some (.ref x5), none, some (.int x7), some (.int x8), some (.int x9), none, none] [] M 0 0 := by
  intro n
  induction n with
  | zero => intro x0 x1 x3 x4 x5 x7 x8 x9 M h; exact h.elim
  | succ n ih =>
    intro x0 x1 x3 x4 x5 x7 x8 x9 M h
    exact (s_iload (pc := 112) dX0_readLog_112 rfl (s_aload_n (pc := 114) dX0_readLog_114 rfl (s_getI (pc := 115) dX0_readLog_115 f_X0_102 rfl h.1 (s_icmp_ge (pc := 118) (tgt := 192) dX0_readLog_118 rfl (fun c29 => have h30 := h.2.1 c29; s_aload_n (pc := 192) dX0_readLog_192 rfl (s_getJ (pc := 193) dX0_readLog_193 f_X0_143 rfl h30.1 (s_lconst (pc := 196) (v := 0) dX0_readLog_196 rfl (s_lif_le (pc := 197) (tgt := 205) dX0_readLog_197 dX0_readLog_198 rfl (fun c33 => have h34 := h30.2.1 c33; s_iload (pc := 205) dX0_readLog_205 rfl (s_ireturn (pc := 207) dX0_readLog_207 rfl (Nat.zero_le _) (Nat.zero_le _) ⟨_, rfl, h34⟩)) (fun c35 => have h36 := h30.2.2 c35; s_iconst (pc := 201) dX0_readLog_201 ci_m1 (s_goto (pc := 202) (tgt := 207) dX0_readLog_202 rfl (s_ireturn (pc := 207) dX0_readLog_207 rfl (Nat.zero_le _) (Nat.zero_le _) ⟨_, rfl, h36⟩))))))) (fun c31 => have h32 := h.2.2 c31; s_aload (pc := 121) dX0_readLog_121 rfl (s_getR (pc := 123) dX0_readLog_123 f_X0_146 rfl h32.1 (s_iload (pc := 126) dX0_readLog_126 rfl (s_lal (pc := 128) dX0_readLog_128 h32.2.1 h32.2.2.1 (nmJ (fun y37 e38 => have h39 := h32.2.2.2 y37 e38; s_lstore (pc := 129) (L1 := [some (.ref x0), some (.ref x1), none, some (.int x3), some (.int x4), some (.ref x5), none, some (.int x7), some (.int x8), some (.int x9), some (.long y37), none]) dX0_readLog_129 (Nat.le_of_ble_eq_true rfl) rfl (s_aload_n (pc := 131) dX0_readLog_131 rfl (s_dup (pc := 132) dX0_readLog_132 rfl (s_getJ (pc := 133) dX0_readLog_133 f_X0_143 rfl h39.1 (s_lload (pc := 136) dX0_readLog_136 rfl (s_aload (pc := 138) dX0_readLog_138 rfl (s_aload_n (pc := 140) dX0_readLog_140 rfl (s_iload (pc := 141) dX0_readLog_141 rfl (s_iload (pc := 143) dX0_readLog_143 rfl (s_iload_n (pc := 145) dX0_readLog_145 rfl (s_iload (pc := 146) dX0_readLog_146 rfl (s_callV (pc := 148) (As := [.ref x1, .int x8, .int x9, .int x3, .int x4]) (rest := [.long y37, .long (mJ M x0 8), .ref x0]) (d' := 0) (mc' := 0) (ms' := 0) dX0_readLog_148 c_X0_116 (Nat.le_of_ble_eq_true rfl) rfl h32.1 rfl rfl (Nat.le_of_ble_eq_true rfl) (rm_ok rfl rfl) ⟨Nat.le_refl 0, Nat.le_refl 0⟩ (T_X9_oddsOf h39.2) (kkI (fun r42 M41 h40 => s_i2l (pc := 151) dX0_readLog_151 (s_lmul (pc := 152) dX0_readLog_152 (s_ladd (pc := 153) dX0_readLog_153 (s_putJ (pc := 154) dX0_readLog_154 f_X0_143 (Or.inl rfl) rfl h40.1 (nmM (fun M43 e44 => have h45 := h40.2 M43 e44; s_iload (pc := 157) dX0_readLog_157 rfl (s_if_eq (pc := 159) (tgt := 186) dX0_readLog_159 rfl (fun c46 => have h47 := h45.1 c46; s_sel (L1 := [some (.ref x0), some (.ref x1), none, some (.int x3), some (.int x4), some (.ref x5), none, some (.int x7), some (.int x8), some (.int x9), none, none]) [true, true, false, true, true, true, false, true, true, true, false, false] rfl (P_jn_X0_readLog_186 ih x0 x1 x3 x4 x5 x7 x8 x9 M43 h47)) (fun c48 => have h49 := h45.2 c48; s_aload_n (pc := 162) dX0_readLog_162 rfl (s_dup (pc := 163) dX0_readLog_163 rfl (s_getJ (pc := 164) dX0_readLog_164 f_X0_140 rfl ((congrFun (congrArg mK e44) x0).trans h40.1) (s_lload (pc := 167) dX0_readLog_167 rfl (s_aload_n (pc := 169) dX0_readLog_169 rfl (s_iload (pc := 170) dX0_readLog_170 rfl (s_iload (pc := 172) dX0_readLog_172 rfl (s_iload_n (pc := 174) dX0_readLog_174 rfl (s_iload (pc := 175) dX0_readLog_175 rfl (s_callV (pc := 177) (As := [.int x8, .int x9, .int x3, .int x4]) (rest := [.long y37, .long (mJ M43 x0 7), .ref x0]) (d' := 2) (mc' := 0) (ms' := 0) dX0_readLog_177 c_X0_150 (Nat.le_of_ble_eq_true rfl) rfl h49.1 rfl rfl (Nat.le_of_ble_eq_true rfl) (rm_ok rfl rfl) ⟨Nat.le_refl 0, Nat.le_refl 0⟩ (T_X6_knowersOf h49.2) (kkI (fun r52 M51 h50 => s_i2l (pc := 180) dX0_readLog_180 (s_lmul (pc := 181) dX0_readLog_181 (s_ladd (pc := 182) dX0_readLog_182 (s_putJ (pc := 183) dX0_readLog_183 f_X0_140 (Or.inl rfl) rfl h50.1 (nmM (fun M53 e54 => have h55 := h50.2 M53 e54; s_sel (L1 := [some (.ref x0), some (.ref x1), none, some (.int x3), some (.int x4), some (.ref x5), none, some (.int x7), some (.int x8), some (.int x9), none, none]) [true, true, false, true, true, true, false, true, true, true, false, false] rfl (P_jn_X0_readLog_186 ih x0 x1 x3 x4 x5 x7 x8 x9 M53 h55)))))))))))))))))))))))))))))))))))))))))))))))
def jn_X0_readLog_97 (Q : Int32 → Mem → Prop) (x0 : Nat) (x1 : Nat) (x3 : Int32) (x4 : Int32) (x5 : Nat) (x7 : Int32) (s0 : Int32) (M : Mem) : Prop := mK M x0 = 1 ∧ ∀ M23 : Mem, M23 = uJ M x0 7 0 → ∀ M26 : Mem, M26 = uJ M23 x0 8 0 → ∃ n56 : Nat, lp_X0_readLog_112 Q n56 x0 x1 x3 x4 x5 x7 s0 0 M26
theorem P_jn_X0_readLog_97 {G : GG} {Q : Int32 → Mem → Prop} (x0 : Nat) (x1 : Nat) (x3 : Int32) (x4 : Int32) (x5 : Nat) (x7 : Int32) (s0 : Int32) (M : Mem) (h : jn_X0_readLog_97 Q x0 x1 x3 x4 x5 x7 s0 M) : PW G mX0_readLog (rmD 3 0 0) (QI Q) 97 [some (.ref x0), some (.ref x1), none, some (.int x3), some (.int x4), some (.ref x5), none, some (.int x7), none, none, none, none] [.int s0] M 0 0 := (s_istore (pc := 97) (L1 := [some (.ref x0), some (.ref x1), none, some (.int x3), some (.int x4), some (.ref x5), none, some (.int x7), some (.int s0), none, none, none]) dX0_readLog_97 (Nat.le_of_ble_eq_true rfl) rfl (s_aload_n (pc := 99) dX0_readLog_99 rfl (s_lconst (pc := 100) (v := 0) dX0_readLog_100 rfl (s_putJ (pc := 101) dX0_readLog_101 f_X0_140 (Or.inl rfl) rfl h.1 (nmM (fun M23 e24 => have h25 := h.2 M23 e24; s_aload_n (pc := 104) dX0_readLog_104 rfl (s_lconst (pc := 105) (v := 0) dX0_readLog_105 rfl (s_putJ (pc := 106) dX0_readLog_106 f_X0_143 (Or.inl rfl) rfl ((congrFun (congrArg mK e24) x0).trans h.1) (nmM (fun M26 e27 => have h28 := h25 M26 e27; s_iconst (pc := 109) dX0_readLog_109 ci_0 (s_istore (pc := 110) (L1 := [some (.ref x0), some (.ref x1), none, some (.int x3), some (.int x4), some (.ref x5), none, some (.int x7), some (.int s0), some (.int 0), none, none]) dX0_readLog_110 (Nat.le_of_ble_eq_true rfl) rfl (Exists.elim h28 (fun n56 hn => s_sel (L1 := [some (.ref x0), some (.ref x1), none, some (.int x3), some (.int x4), some (.ref x5), none, some (.int x7), some (.int s0), some (.int 0), none, none]) [true, true, false, true, true, true, false, true, true, true, false, false] rfl (P_lp_X0_readLog_112 n56 x0 x1 x3 x4 x5 x7 s0 0 M26 hn))))))))))))))
def lp_X0_readLog_33 (Q : Int32 → Mem → Prop) : Nat → Nat → Nat → Nat → Int32 → Int32 → Nat → Nat → Int32 → Int32 → Mem → Prop
  | 0 => fun _ _ _ _ _ _ _ _ _ _ => False
  | n + 1 => fun x0 x1 x2 x3 x4 x5 x6 x7 x8 M => (x7 ≤ x8 → mK M x2 = 5 ∧ wp_X4_hasPlace x2 x7 M (fun r18 M17 => (r18 = (0 : Int32) → jn_X0_readLog_97 Q x0 x1 x3 x4 x5 x7 0 M17) ∧ (¬ r18 = (0 : Int32) → mK M17 x2 = 5 ∧ mK M17 (mR M17 x2 3) = 20 ∧ vp_in x7 (mN M17 (mR M17 x2 3)) ∧ jn_X0_readLog_97 Q x0 x1 x3 x4 x5 x7 (mI M17 (mR M17 x2 3) x7.toNatClampNeg) M17))) ∧ (¬ x7 ≤ x8 → mK M x2 = 5 ∧ mK M (mR M x2 3) = 20 ∧ vp_in x8 (mN M (mR M x2 3)) ∧ mK M x6 = 10 ∧ wp_X9_follow x6 x5 x1 (mI M (mR M x2 3) x8.toNatClampNeg) x3 x4 M (fun r59 M58 => (¬ r59 = (0 : Int32) → mK M58 x5 = 10 ∧ wp_X9_copyFrom x5 x6 M58 (fun M65 => (lp_X0_readLog_33 Q n) x0 x1 x2 x3 x4 x5 x6 x7 (x8 + 1) M65)) ∧ (r59 = (0 : Int32) → Q x8 M58)))
theorem P_lp_X0_readLog_33 {G : GG} {Q : Int32 → Mem → Prop} : ∀ (n : Nat) (x0 : Nat) (x1 : Nat) (x2 : Nat) (x3 : Int32) (x4 : Int32) (x5 : Nat) (x6 : Nat) (x7 : Int32) (x8 : Int32) (M : Mem), lp_X0_readLog_33 Q n x0 x1 x2 x3 x4 x5 x6 x7 x8 M → PW G mX0_readLog (rmD 3 0 0) (QI Q) 33 [some (.ref x0), some (.ref x1), some (.ref x2), some (.int x3), some (.int x4), some (.ref x5), some (.ref x6), some (.int x7), some (.int x8), none, none, none] [] M 0 0 := by
  intro n
  induction n with
  | zero => intro x0 x1 x2 x3 x4 x5 x6 x7 x8 M h; exact h.elim
  | succ n ih =>
    intro x0 x1 x2 x3 x4 x5 x6 x7 x8 M h
    exact (s_iload (pc := 33) dX0_readLog_33 rfl (s_iload (pc := 35) dX0_readLog_35 rfl (s_icmp_ge (pc := 37) (tgt := 77) dX0_readLog_37 rfl (fun c12 => have h13 := h.1 c12; s_aload_n (pc := 77) dX0_readLog_77 rfl (s_iload (pc := 78) dX0_readLog_78 rfl (s_callV (pc := 80) (As := [.int x7]) (rest := []) (d' := 0) (mc' := 0) (ms' := 0) dX0_readLog_80 c_X0_136 (Nat.le_of_ble_eq_true rfl) rfl h13.1 rfl rfl (Nat.le_of_ble_eq_true rfl) (rm_ok rfl rfl) ⟨Nat.le_refl 0, Nat.le_refl 0⟩ (T_X4_hasPlace h13.2) (kkI (fun r18 M17 h16 => s_if_eq (pc := 83) (tgt := 96) dX0_readLog_83 rfl (fun c19 => have h20 := h16.1 c19; s_iconst (pc := 96) dX0_readLog_96 ci_0 (s_sel (L1 := [some (.ref x0), some (.ref x1), none, some (.int x3), some (.int x4), some (.ref x5), none, some (.int x7), none, none, none, none]) [true, true, false, true, true, true, false, true, false, false, false, false] rfl (P_jn_X0_readLog_97 x0 x1 x3 x4 x5 x7 0 M17 h20))) (fun c21 => have h22 := h16.2 c21; s_aload_n (pc := 86) dX0_readLog_86 rfl (s_getR (pc := 87) dX0_readLog_87 f_X0_133 rfl h22.1 (s_iload (pc := 90) dX0_readLog_90 rfl (s_ial (pc := 92) dX0_readLog_92 h22.2.1 h22.2.2.1 (s_goto (pc := 93) (tgt := 97) dX0_readLog_93 rfl (s_sel (L1 := [some (.ref x0), some (.ref x1), none, some (.int x3), some (.int x4), some (.ref x5), none, some (.int x7), none, none, none, none]) [true, true, false, true, true, true, false, true, false, false, false, false] rfl (P_jn_X0_readLog_97 x0 x1 x3 x4 x5 x7 (mI M17 (mR M17 x2 3) x7.toNatClampNeg) M17 h22.2.2.2)))))))))))) (fun c14 => have h15 := h.2 c14; s_aload (pc := 40) dX0_readLog_40 rfl (s_aload (pc := 42) dX0_readLog_42 rfl (s_aload_n (pc := 44) dX0_readLog_44 rfl (s_aload_n (pc := 45) dX0_readLog_45 rfl (s_getR (pc := 46) dX0_readLog_46 f_X0_133 rfl h15.1 (s_iload (pc := 49) dX0_readLog_49 rfl (s_ial (pc := 51) dX0_readLog_51 h15.2.1 h15.2.2.1 (s_iload_n (pc := 52) dX0_readLog_52 rfl (s_iload (pc := 53) dX0_readLog_53 rfl (s_callV (pc := 55) (As := [.ref x5, .ref x1, .int (mI M (mR M x2 3) x8.toNatClampNeg), .int x3, .int x4]) (rest := []) (d' := 2) (mc' := 0) (ms' := 0) dX0_readLog_55 c_X0_54 (Nat.le_of_ble_eq_true rfl) rfl h15.2.2.2.1 rfl rfl (Nat.le_of_ble_eq_true rfl) (rm_ok rfl rfl) ⟨Nat.le_refl 0, Nat.le_refl 0⟩ (T_X9_follow h15.2.2.2.2) (kkI (fun r59 M58 h57 => s_if_ne (pc := 58) (tgt := 64) dX0_readLog_58 rfl (fun c60 => have h61 := h57.1 c60; s_aload (pc := 64) dX0_readLog_64 rfl (s_aload (pc := 66) dX0_readLog_66 rfl (s_callV (pc := 68) (As := [.ref x6]) (rest := []) (d' := 0) (mc' := 0) (ms' := 0) dX0_readLog_68 c_X0_58 (Nat.le_of_ble_eq_true rfl) rfl h61.1 rfl rfl (Nat.le_of_ble_eq_true rfl) (rm_ok rfl rfl) ⟨Nat.le_refl 0, Nat.le_refl 0⟩ (T_X9_copyFrom h61.2) (kkV (fun M65 h64 => s_iinc (pc := 71) (L1 := [some (.ref x0), some (.ref x1), some (.ref x2), some (.int x3), some (.int x4), some (.ref x5), some (.ref x6), some (.int x7), some (.int (x8 + 1)), none, none, none]) dX0_readLog_71 rfl ci_1 (Nat.le_of_ble_eq_true rfl) rfl (s_goto (pc := 74) (tgt := 33) dX0_readLog_74 rfl (s_sel (L1 := [some (.ref x0), some (.ref x1), some (.ref x2), some (.int x3), some (.int x4), some (.ref x5), some (.ref x6), some (.int x7), some (.int (x8 + 1)), none, none, none]) [true, true, true, true, true, true, true, true, true, false, false, false] rfl (ih x0 x1 x2 x3 x4 x5 x6 x7 (x8 + 1) M65 h64)))))))) (fun c62 => have h63 := h57.2 c62; s_iload (pc := 61) dX0_readLog_61 rfl (s_ireturn (pc := 63) dX0_readLog_63 rfl (Nat.zero_le _) (Nat.zero_le _) ⟨_, rfl, h63⟩)))))))))))))))))
def wp_X0_readLog (p0 : Nat) (p1 : Nat) (p2 : Nat) (p3 : Int32) (p4 : Int32) (M : Mem) (Q : Int32 → Mem → Prop) : Prop := mK M p0 = 1 ∧ mK M (mR M p0 0) = 23 ∧ vp_in (0 : Int32) (mN M (mR M p0 0)) ∧ ∀ y1 : Nat, y1 = mR M (mR M p0 0) (0 : Int32).toNatClampNeg → vp_in (1 : Int32) (mN M (mR M p0 0)) ∧ ∀ y4 : Nat, y4 = mR M (mR M p0 0) (1 : Int32).toNatClampNeg → mK M y1 = 10 ∧ wp_X9_begin y1 p1 M (fun M8 => mK M8 p2 = 5 ∧ ∀ y9 : Int32, y9 = (mI M8 p2 2) - 1 → ∃ n66 : Nat, lp_X0_readLog_33 Q n66 p0 p1 p2 p3 p4 y1 y4 y9 0 M8)
theorem T_X0_readLog {G : GG} {Q : Int32 → Mem → Prop} {M : Mem} {p0 : Nat} {p1 : Nat} {p2 : Nat} {p3 : Int32} {p4 : Int32} (h : wp_X0_readLog p0 p1 p2 p3 p4 M Q) : PMet G mX0_readLog 3 0 0 [.ref p0, .ref p1, .ref p2, .int p3, .int p4] M (QI Q) :=
  mk_met (by decide) rfl rfl (by
    intro w hw x9 e9
    subst e9
    simp at hw) (Nat.le_of_ble_eq_true rfl) (s_pad (L1 := [some (.ref p0), some (.ref p1), some (.ref p2), some (.int p3), some (.int p4), none, none, none, none, none, none, none]) 12 rfl (s_aload_n (pc := 0) dX0_readLog_0 rfl (s_getR (pc := 1) dX0_readLog_1 f_X0_11 rfl h.1 (s_iconst (pc := 4) dX0_readLog_4 ci_0 (s_aal (pc := 5) (t := 3) dX0_readLog_5 (Nat.le_of_ble_eq_true rfl) (Nat.le_of_ble_eq_true rfl) h.2.1 h.2.2.1 (nmR (fun y1 e2 => have h3 := h.2.2.2 y1 e2; s_astore (pc := 6) (L1 := [some (.ref p0), some (.ref p1), some (.ref p2), some (.int p3), some (.int p4), some (.ref y1), none, none, none, none, none, none]) dX0_readLog_6 (Nat.le_of_ble_eq_true rfl) rfl (s_aload_n (pc := 8) dX0_readLog_8 rfl (s_getR (pc := 9) dX0_readLog_9 f_X0_11 rfl h.1 (s_iconst (pc := 12) dX0_readLog_12 ci_1 (s_aal (pc := 13) (t := 3) dX0_readLog_13 (Nat.le_of_ble_eq_true rfl) (Nat.le_of_ble_eq_true rfl) h.2.1 h3.1 (nmR (fun y4 e5 => have h6 := h3.2 y4 e5; s_astore (pc := 14) (L1 := [some (.ref p0), some (.ref p1), some (.ref p2), some (.int p3), some (.int p4), some (.ref y1), some (.ref y4), none, none, none, none, none]) dX0_readLog_14 (Nat.le_of_ble_eq_true rfl) rfl (s_aload (pc := 16) dX0_readLog_16 rfl (s_aload_n (pc := 18) dX0_readLog_18 rfl (s_callV (pc := 19) (As := [.ref p1]) (rest := []) (d' := 0) (mc' := 0) (ms' := 0) dX0_readLog_19 c_X0_23 (Nat.le_of_ble_eq_true rfl) rfl h6.1 rfl rfl (Nat.le_of_ble_eq_true rfl) (rm_ok rfl rfl) ⟨Nat.le_refl 0, Nat.le_refl 0⟩ (T_X9_begin h6.2) (kkV (fun M8 h7 => s_aload_n (pc := 22) dX0_readLog_22 rfl (s_getI (pc := 23) dX0_readLog_23 f_X0_128 rfl h7.1 (s_iconst (pc := 26) dX0_readLog_26 ci_1 (s_isub (pc := 27) dX0_readLog_27 (nmI (fun y9 e10 => have h11 := h7.2 y9 e10; s_istore (pc := 28) (L1 := [some (.ref p0), some (.ref p1), some (.ref p2), some (.int p3), some (.int p4), some (.ref y1), some (.ref y4), some (.int y9), none, none, none, none]) dX0_readLog_28 (Nat.le_of_ble_eq_true rfl) rfl (s_iconst (pc := 30) dX0_readLog_30 ci_0 (s_istore (pc := 31) (L1 := [some (.ref p0), some (.ref p1), some (.ref p2), some (.int p3), some (.int p4), some (.ref y1), some (.ref y4), some (.int y9), some (.int 0), none, none, none]) dX0_readLog_31 (Nat.le_of_ble_eq_true rfl) rfl (Exists.elim h11 (fun n66 hn => s_sel (L1 := [some (.ref p0), some (.ref p1), some (.ref p2), some (.int p3), some (.int p4), some (.ref y1), some (.ref y4), some (.int y9), some (.int 0), none, none, none]) [true, true, true, true, true, true, true, true, true, false, false, false] rfl (P_lp_X0_readLog_33 n66 p0 p1 p2 p3 p4 y1 y4 y9 0 M8 hn))))))))))))))))))))))))))))
/-! X0_weigh -/
theorem dX0_weigh_0 : cod mX0_weigh 0 (.aload_n 0) 1 := by decide +kernel
theorem dX0_weigh_1 : cod mX0_weigh 1 (.lconst 0) 1 := by decide +kernel
theorem dX0_weigh_2 : cod mX0_weigh 2 (.putfield 95) 3 := by decide +kernel
theorem dX0_weigh_5 : cod mX0_weigh 5 (.aload_n 0) 1 := by decide +kernel
theorem dX0_weigh_6 : cod mX0_weigh 6 (.lconst 0) 1 := by decide +kernel
theorem dX0_weigh_7 : cod mX0_weigh 7 (.putfield 99) 3 := by decide +kernel
theorem dX0_weigh_10 : cod mX0_weigh 10 (.aload_n 0) 1 := by decide +kernel
theorem dX0_weigh_11 : cod mX0_weigh 11 (.getfield 11) 3 := by decide +kernel
theorem dX0_weigh_14 : cod mX0_weigh 14 (.iconst 0) 1 := by decide +kernel
theorem dX0_weigh_15 : cod mX0_weigh 15 (.aaload) 1 := by decide +kernel
theorem dX0_weigh_16 : cod mX0_weigh 16 (.aload_n 1) 1 := by decide +kernel
theorem dX0_weigh_17 : cod mX0_weigh 17 (.invokevirtual 23) 3 := by decide +kernel
theorem dX0_weigh_20 : cod mX0_weigh 20 (.iconst 0) 1 := by decide +kernel
theorem dX0_weigh_21 : cod mX0_weigh 21 (.istore_n 3) 1 := by decide +kernel
theorem dX0_weigh_22 : cod mX0_weigh 22 (.iload_n 3) 1 := by decide +kernel
theorem dX0_weigh_23 : cod mX0_weigh 23 (.aload_n 1) 1 := by decide +kernel
theorem dX0_weigh_24 : cod mX0_weigh 24 (.getfield 102) 3 := by decide +kernel
theorem dX0_weigh_27 : cod mX0_weigh 27 (.if_icmp .ge 24) 3 := by decide +kernel
theorem dX0_weigh_30 : cod mX0_weigh 30 (.aload_n 0) 1 := by decide +kernel
theorem dX0_weigh_31 : cod mX0_weigh 31 (.getfield 19) 3 := by decide +kernel
theorem dX0_weigh_34 : cod mX0_weigh 34 (.iconst 0) 1 := by decide +kernel
theorem dX0_weigh_35 : cod mX0_weigh 35 (.aaload) 1 := by decide +kernel
theorem dX0_weigh_36 : cod mX0_weigh 36 (.iload_n 3) 1 := by decide +kernel
theorem dX0_weigh_37 : cod mX0_weigh 37 (.aload_n 1) 1 := by decide +kernel
theorem dX0_weigh_38 : cod mX0_weigh 38 (.getfield 105) 3 := by decide +kernel
theorem dX0_weigh_41 : cod mX0_weigh 41 (.iload_n 3) 1 := by decide +kernel
theorem dX0_weigh_42 : cod mX0_weigh 42 (.iaload) 1 := by decide +kernel
theorem dX0_weigh_43 : cod mX0_weigh 43 (.i2l) 1 := by decide +kernel
theorem dX0_weigh_44 : cod mX0_weigh 44 (.lastore) 1 := by decide +kernel
theorem dX0_weigh_45 : cod mX0_weigh 45 (.iinc 3 1) 3 := by decide +kernel
theorem dX0_weigh_48 : cod mX0_weigh 48 (.goto (-26)) 3 := by decide +kernel
theorem dX0_weigh_51 : cod mX0_weigh 51 (.aload_n 0) 1 := by decide +kernel
theorem dX0_weigh_52 : cod mX0_weigh 52 (.aload_n 1) 1 := by decide +kernel
theorem dX0_weigh_53 : cod mX0_weigh 53 (.aload_n 2) 1 := by decide +kernel
theorem dX0_weigh_54 : cod mX0_weigh 54 (.iconst 0) 1 := by decide +kernel
theorem dX0_weigh_55 : cod mX0_weigh 55 (.iconst 0) 1 := by decide +kernel
theorem dX0_weigh_56 : cod mX0_weigh 56 (.iconst 0) 1 := by decide +kernel
theorem dX0_weigh_57 : cod mX0_weigh 57 (.invokevirtual 108) 3 := by decide +kernel
theorem dX0_weigh_60 : cod mX0_weigh 60 (.return_) 1 := by decide +kernel
def lp_X0_weigh_22 (Q : Mem → Prop) : Nat → Nat → Nat → Nat → Int32 → Mem → Prop
  | 0 => fun _ _ _ _ _ => False
  | n + 1 => fun x0 x1 x2 x3 M => mK M x1 = 7 ∧ ((mI M x1 0) ≤ x3 → mK M x0 = 1 ∧ wp_X0_goOn 7 x0 x1 x2 0 0 0 M (fun M14 => Q M14)) ∧ (¬ (mI M x1 0) ≤ x3 → mK M x0 = 1 ∧ mK M (mR M x0 1) = 25 ∧ vp_in (0 : Int32) (mN M (mR M x0 1)) ∧ mK M (mR M x1 1) = 20 ∧ vp_in x3 (mN M (mR M x1 1)) ∧ mK M (mR M (mR M x0 1) (0 : Int32).toNatClampNeg) = 21 ∧ vp_in x3 (mN M (mR M (mR M x0 1) (0 : Int32).toNatClampNeg)) ∧ ∀ M15 : Mem, M15 = uJ M (mR M (mR M x0 1) (0 : Int32).toNatClampNeg) x3.toNatClampNeg ((mI M (mR M x1 1) x3.toNatClampNeg).toInt64) → (lp_X0_weigh_22 Q n) x0 x1 x2 (x3 + 1) M15)
theorem P_lp_X0_weigh_22 {G : GG} {Q : Mem → Prop} : ∀ (n : Nat) (x0 : Nat) (x1 : Nat) (x2 : Nat) (x3 : Int32) (M : Mem), lp_X0_weigh_22 Q n x0 x1 x2 x3 M → PW G mX0_weigh (rmD 12 0 0) (QV Q) 22 [some (.ref x0), some (.ref x1), some (.ref x2), some (.int x3)] [] M 0 0 := by
  intro n
  induction n with
  | zero => intro x0 x1 x2 x3 M h; exact h.elim
  | succ n ih =>
    intro x0 x1 x2 x3 M h
    exact (s_iload_n (pc := 22) dX0_weigh_22 rfl (s_aload_n (pc := 23) dX0_weigh_23 rfl (s_getI (pc := 24) dX0_weigh_24 f_X0_102 rfl h.1 (s_icmp_ge (pc := 27) (tgt := 51) dX0_weigh_27 rfl (fun c9 => have h10 := h.2.1 c9; s_aload_n (pc := 51) dX0_weigh_51 rfl (s_aload_n (pc := 52) dX0_weigh_52 rfl (s_aload_n (pc := 53) dX0_weigh_53 rfl (s_iconst (pc := 54) dX0_weigh_54 ci_0 (s_iconst (pc := 55) dX0_weigh_55 ci_0 (s_iconst (pc := 56) dX0_weigh_56 ci_0 (s_callV (pc := 57) (As := [.ref x1, .ref x2, .int 0, .int 0, .int 0]) (rest := []) (d' := 11) (mc' := 0) (ms' := 0) dX0_weigh_57 c_X0_108 (Nat.le_of_ble_eq_true rfl) rfl h10.1 rfl rfl (Nat.le_of_ble_eq_true rfl) (rm_ok rfl rfl) ⟨Nat.le_refl 0, Nat.le_refl 0⟩ (T_X0_goOn 7 _ _ _ _ _ _ _ _ h10.2) (kkV (fun M14 h13 => s_return (pc := 60) dX0_weigh_60 rfl (Nat.zero_le _) (Nat.zero_le _) ⟨rfl, h13⟩))))))))) (fun c11 => have h12 := h.2.2 c11; s_aload_n (pc := 30) dX0_weigh_30 rfl (s_getR (pc := 31) dX0_weigh_31 f_X0_19 rfl h12.1 (s_iconst (pc := 34) dX0_weigh_34 ci_0 (s_aal (pc := 35) (t := 5) dX0_weigh_35 (Nat.le_of_ble_eq_true rfl) (Nat.le_of_ble_eq_true rfl) h12.2.1 h12.2.2.1 (s_iload_n (pc := 36) dX0_weigh_36 rfl (s_aload_n (pc := 37) dX0_weigh_37 rfl (s_getR (pc := 38) dX0_weigh_38 f_X0_105 rfl h.1 (s_iload_n (pc := 41) dX0_weigh_41 rfl (s_ial (pc := 42) dX0_weigh_42 h12.2.2.2.1 h12.2.2.2.2.1 (s_i2l (pc := 43) dX0_weigh_43 (s_las (pc := 44) dX0_weigh_44 h12.2.2.2.2.2.1 h12.2.2.2.2.2.2.1 (nmM (fun M15 e16 => have h17 := (h12.2.2.2.2.2.2.2) M15 e16; s_iinc (pc := 45) (L1 := [some (.ref x0), some (.ref x1), some (.ref x2), some (.int (x3 + 1))]) dX0_weigh_45 rfl ci_1 (Nat.le_of_ble_eq_true rfl) rfl (s_goto (pc := 48) (tgt := 22) dX0_weigh_48 rfl (s_sel (L1 := [some (.ref x0), some (.ref x1), some (.ref x2), some (.int (x3 + 1))]) [true, true, true, true] rfl (ih x0 x1 x2 (x3 + 1) M15 h17))))))))))))))))))))
def wp_X0_weigh (p0 : Nat) (p1 : Nat) (p2 : Nat) (M : Mem) (Q : Mem → Prop) : Prop := mK M p0 = 1 ∧ ∀ M1 : Mem, M1 = uJ M p0 2 0 → ∀ M4 : Mem, M4 = uJ M1 p0 3 0 → mK M4 (mR M4 p0 0) = 23 ∧ vp_in (0 : Int32) (mN M4 (mR M4 p0 0)) ∧ mK M4 (mR M4 (mR M4 p0 0) (0 : Int32).toNatClampNeg) = 10 ∧ wp_X9_begin (mR M4 (mR M4 p0 0) (0 : Int32).toNatClampNeg) p1 M4 (fun M8 => ∃ n18 : Nat, lp_X0_weigh_22 Q n18 p0 p1 p2 0 M8)
theorem T_X0_weigh {G : GG} {Q : Mem → Prop} {M : Mem} {p0 : Nat} {p1 : Nat} {p2 : Nat} (h : wp_X0_weigh p0 p1 p2 M Q) : PMet G mX0_weigh 12 0 0 [.ref p0, .ref p1, .ref p2] M (QV Q) :=
  mk_met (by decide) rfl rfl (by
    intro w hw x9 e9
    subst e9
    simp at hw) (Nat.le_of_ble_eq_true rfl) (s_pad (L1 := [some (.ref p0), some (.ref p1), some (.ref p2), none]) 4 rfl (s_aload_n (pc := 0) dX0_weigh_0 rfl (s_lconst (pc := 1) (v := 0) dX0_weigh_1 rfl (s_putJ (pc := 2) dX0_weigh_2 f_X0_95 (Or.inl rfl) rfl h.1 (nmM (fun M1 e2 => have h3 := h.2 M1 e2; s_aload_n (pc := 5) dX0_weigh_5 rfl (s_lconst (pc := 6) (v := 0) dX0_weigh_6 rfl (s_putJ (pc := 7) dX0_weigh_7 f_X0_99 (Or.inl rfl) rfl ((congrFun (congrArg mK e2) p0).trans h.1) (nmM (fun M4 e5 => have h6 := h3 M4 e5; s_aload_n (pc := 10) dX0_weigh_10 rfl (s_getR (pc := 11) dX0_weigh_11 f_X0_11 rfl ((congrFun (congrArg mK e5) p0).trans ((congrFun (congrArg mK e2) p0).trans h.1)) (s_iconst (pc := 14) dX0_weigh_14 ci_0 (s_aal (pc := 15) (t := 3) dX0_weigh_15 (Nat.le_of_ble_eq_true rfl) (Nat.le_of_ble_eq_true rfl) h6.1 h6.2.1 (s_aload_n (pc := 16) dX0_weigh_16 rfl (s_callV (pc := 17) (As := [.ref p1]) (rest := []) (d' := 0) (mc' := 0) (ms' := 0) dX0_weigh_17 c_X0_23 (Nat.le_of_ble_eq_true rfl) rfl h6.2.2.1 rfl rfl (Nat.le_of_ble_eq_true rfl) (rm_ok rfl rfl) ⟨Nat.le_refl 0, Nat.le_refl 0⟩ (T_X9_begin h6.2.2.2) (kkV (fun M8 h7 => s_iconst (pc := 20) dX0_weigh_20 ci_0 (s_istore_n (pc := 21) (L1 := [some (.ref p0), some (.ref p1), some (.ref p2), some (.int 0)]) dX0_weigh_21 (Nat.le_of_ble_eq_true rfl) rfl (Exists.elim h7 (fun n18 hn => s_sel (L1 := [some (.ref p0), some (.ref p1), some (.ref p2), some (.int 0)]) [true, true, true, true] rfl (P_lp_X0_weigh_22 n18 p0 p1 p2 0 M8 hn)))))))))))))))))))))
/-! X10_fail -/
theorem dX10_fail_0 : cod mX10_fail 0 (.return_) 1 := by decide +kernel
def wp_X10_fail (p0 : Nat) (M : Mem) (Q : Mem → Prop) : Prop := Q M
theorem T_X10_fail {G : GG} {Q : Mem → Prop} {M : Mem} {p0 : Nat} (h : wp_X10_fail p0 M Q) : PMet G mX10_fail 0 0 0 [.ref p0] M (QV Q) :=
  mk_met (by decide) rfl rfl (by
    intro w hw x9 e9
    subst e9
    simp at hw) (Nat.le_of_ble_eq_true rfl) (s_pad (L1 := [some (.ref p0)]) 1 rfl (s_return (pc := 0) dX10_fail_0 rfl (Nat.zero_le _) (Nat.zero_le _) ⟨rfl, h⟩))
/-! X11_init -/
theorem dX11_init_0 : cod mX11_init 0 (.aload_n 0) 1 := by decide +kernel
theorem dX11_init_1 : cod mX11_init 1 (.invokespecial 3) 3 := by decide +kernel
theorem dX11_init_4 : cod mX11_init 4 (.aload_n 0) 1 := by decide +kernel
theorem dX11_init_5 : cod mX11_init 5 (.iload_n 1) 1 := by decide +kernel
theorem dX11_init_6 : cod mX11_init 6 (.putfield 9) 3 := by decide +kernel
theorem dX11_init_9 : cod mX11_init 9 (.return_) 1 := by decide +kernel
def wp_X11_init (p0 : Nat) (p1 : Int32) (M : Mem) (Q : Mem → Prop) : Prop := ¬ p0 = 0 ∧ isW M p0 ∧ ∀ M1 : Mem, M1 = uI M p0 0 p1 → Q M1
theorem T_X11_init {G : GG} {Q : Mem → Prop} {M : Mem} {p0 : Nat} {p1 : Int32} (h : wp_X11_init p0 p1 M Q) : PMet G mX11_init 0 0 0 [.ref p0, .int p1] M (QV Q) :=
  mk_met (by decide) rfl rfl (by
    intro w hw x9 e9
    subst e9
    simp at hw) (Nat.le_of_ble_eq_true rfl) (s_pad (L1 := [some (.ref p0), some (.int p1)]) 2 rfl (s_aload_n (pc := 0) dX11_init_0 rfl (s_objInit (pc := 1) dX11_init_1 ob_X11_3 h.1 (Nat.le_of_ble_eq_true rfl) (Nat.le_of_ble_eq_true rfl) (s_aload_n (pc := 4) dX11_init_4 rfl (s_iload_n (pc := 5) dX11_init_5 rfl (s_putW (pc := 6) dX11_init_6 f_X11_9 ⟨rfl, rfl⟩ h.2.1 (nmM (fun M1 e2 => have h3 := h.2.2 M1 e2; s_return (pc := 9) dX11_init_9 rfl (Nat.zero_le _) (Nat.zero_le _) ⟨rfl, h3⟩))))))))
/-! X2_init -/
theorem dX2_init_0 : cod mX2_init 0 (.aload_n 0) 1 := by decide +kernel
theorem dX2_init_1 : cod mX2_init 1 (.iload_n 1) 1 := by decide +kernel
theorem dX2_init_2 : cod mX2_init 2 (.invokespecial 1) 3 := by decide +kernel
theorem dX2_init_5 : cod mX2_init 5 (.return_) 1 := by decide +kernel
def wp_X2_init (p0 : Nat) (p1 : Int32) (M : Mem) (Q : Mem → Prop) : Prop := ¬ p0 = 0 ∧ wp_X11_init p0 p1 M (fun M2 => Q M2)
theorem T_X2_init {G : GG} {Q : Mem → Prop} {M : Mem} {p0 : Nat} {p1 : Int32} (h : wp_X2_init p0 p1 M Q) : PMet G mX2_init 1 0 0 [.ref p0, .int p1] M (QV Q) :=
  mk_met (by decide) rfl rfl (by
    intro w hw x9 e9
    subst e9
    simp at hw) (Nat.le_of_ble_eq_true rfl) (s_pad (L1 := [some (.ref p0), some (.int p1)]) 2 rfl (s_aload_n (pc := 0) dX2_init_0 rfl (s_iload_n (pc := 1) dX2_init_1 rfl (s_callI (pc := 2) (As := [.int p1]) (rest := []) (d' := 0) (mc' := 0) (ms' := 0) dX2_init_2 c_X2_1 h.1 rfl rfl (Nat.le_of_ble_eq_true rfl) (rm_ok rfl rfl) ⟨Nat.le_refl 0, Nat.le_refl 0⟩ (T_X11_init h.2) (kkV (fun M2 h1 => s_return (pc := 5) dX2_init_5 rfl (Nat.zero_le _) (Nat.zero_le _) ⟨rfl, h1⟩))))))
/-! X10_init -/
theorem dX10_init_0 : cod mX10_init 0 (.aload_n 0) 1 := by decide +kernel
theorem dX10_init_1 : cod mX10_init 1 (.iload_n 1) 1 := by decide +kernel
theorem dX10_init_2 : cod mX10_init 2 (.invokespecial 1) 3 := by decide +kernel
theorem dX10_init_5 : cod mX10_init 5 (.return_) 1 := by decide +kernel
def wp_X10_init (p0 : Nat) (p1 : Int32) (M : Mem) (Q : Mem → Prop) : Prop := ¬ p0 = 0 ∧ wp_X2_init p0 p1 M (fun M2 => Q M2)
theorem T_X10_init {G : GG} {Q : Mem → Prop} {M : Mem} {p0 : Nat} {p1 : Int32} (h : wp_X10_init p0 p1 M Q) : PMet G mX10_init 2 0 0 [.ref p0, .int p1] M (QV Q) :=
  mk_met (by decide) rfl rfl (by
    intro w hw x9 e9
    subst e9
    simp at hw) (Nat.le_of_ble_eq_true rfl) (s_pad (L1 := [some (.ref p0), some (.int p1)]) 2 rfl (s_aload_n (pc := 0) dX10_init_0 rfl (s_iload_n (pc := 1) dX10_init_1 rfl (s_callI (pc := 2) (As := [.int p1]) (rest := []) (d' := 1) (mc' := 0) (ms' := 0) dX10_init_2 c_X10_1 h.1 rfl rfl (Nat.le_of_ble_eq_true rfl) (rm_ok rfl rfl) ⟨Nat.le_refl 0, Nat.le_refl 0⟩ (T_X2_init h.2) (kkV (fun M2 h1 => s_return (pc := 5) dX10_init_5 rfl (Nat.zero_le _) (Nat.zero_le _) ⟨rfl, h1⟩))))))
/-! X2_width -/
theorem dX2_width_0 : cod mX2_width 0 (.iconst 2) 1 := by decide +kernel
theorem dX2_width_1 : cod mX2_width 1 (.aload_n 0) 1 := by decide +kernel
theorem dX2_width_2 : cod mX2_width 2 (.getfield 13) 3 := by decide +kernel
theorem dX2_width_5 : cod mX2_width 5 (.imul) 1 := by decide +kernel
theorem dX2_width_6 : cod mX2_width 6 (.ireturn) 1 := by decide +kernel
def wp_X2_width (p0 : Nat) (M : Mem) (Q : Int32 → Mem → Prop) : Prop := isW M p0 ∧ Q (2 * (mI M p0 0)) M
theorem T_X2_width {G : GG} {Q : Int32 → Mem → Prop} {M : Mem} {p0 : Nat} (h : wp_X2_width p0 M Q) : PMet G mX2_width 0 0 0 [.ref p0] M (QI Q) :=
  mk_met (by decide) rfl rfl (by
    intro w hw x9 e9
    subst e9
    simp at hw) (Nat.le_of_ble_eq_true rfl) (s_pad (L1 := [some (.ref p0)]) 1 rfl (s_iconst (pc := 0) dX2_width_0 ci_2 (s_aload_n (pc := 1) dX2_width_1 rfl (s_getW (pc := 2) dX2_width_2 f_X2_13 h.1 (s_imul (pc := 5) dX2_width_5 (s_ireturn (pc := 6) dX2_width_6 rfl (Nat.zero_le _) (Nat.zero_le _) ⟨_, rfl, h.2⟩))))))
/-! X10_width -/
theorem dX10_width_0 : cod mX10_width 0 (.aload_n 0) 1 := by decide +kernel
theorem dX10_width_1 : cod mX10_width 1 (.invokespecial 13) 3 := by decide +kernel
theorem dX10_width_4 : cod mX10_width 4 (.bipush 7) 2 := by decide +kernel
theorem dX10_width_6 : cod mX10_width 6 (.iadd) 1 := by decide +kernel
theorem dX10_width_7 : cod mX10_width 7 (.ireturn) 1 := by decide +kernel
def wp_X10_width (p0 : Nat) (M : Mem) (Q : Int32 → Mem → Prop) : Prop := isW M p0 ∧ wp_X2_width p0 M (fun r3 M2 => Q (r3 + 7) M2)
theorem T_X10_width {G : GG} {Q : Int32 → Mem → Prop} {M : Mem} {p0 : Nat} (h : wp_X10_width p0 M Q) : PMet G mX10_width 1 0 0 [.ref p0] M (QI Q) :=
  mk_met (by decide) rfl rfl (by
    intro w hw x9 e9
    subst e9
    simp at hw) (Nat.le_of_ble_eq_true rfl) (s_pad (L1 := [some (.ref p0)]) 1 rfl (s_aload_n (pc := 0) dX10_width_0 rfl (s_callUW (pc := 1) (As := []) (rest := []) (d' := 0) (mc' := 0) (ms' := 0) dX10_width_1 c_X10_13 h.1 rfl rfl (Nat.le_of_ble_eq_true rfl) (rm_ok rfl rfl) ⟨Nat.le_refl 0, Nat.le_refl 0⟩ (T_X2_width h.2) (kkI (fun r3 M2 h1 => s_bipush (pc := 4) dX10_width_4 cb_7 (s_iadd (pc := 6) dX10_width_6 (s_ireturn (pc := 7) dX10_width_7 rfl (Nat.zero_le _) (Nat.zero_le _) ⟨_, rfl, h1⟩)))))))
/-! X11_failureNumber -/
theorem dX11_failureNumber_0 : cod mX11_failureNumber 0 (.aload_n 0) 1 := by decide +kernel
theorem dX11_failureNumber_1 : cod mX11_failureNumber 1 (.getfield 9) 3 := by decide +kernel
theorem dX11_failureNumber_4 : cod mX11_failureNumber 4 (.ireturn) 1 := by decide +kernel
def wp_X11_failureNumber (p0 : Nat) (M : Mem) (Q : Int32 → Mem → Prop) : Prop := isW M p0 ∧ Q (mI M p0 0) M
theorem T_X11_failureNumber {G : GG} {Q : Int32 → Mem → Prop} {M : Mem} {p0 : Nat} (h : wp_X11_failureNumber p0 M Q) : PMet G mX11_failureNumber 0 0 0 [.ref p0] M (QI Q) :=
  mk_met (by decide) rfl rfl (by
    intro w hw x9 e9
    subst e9
    simp at hw) (Nat.le_of_ble_eq_true rfl) (s_pad (L1 := [some (.ref p0)]) 1 rfl (s_aload_n (pc := 0) dX11_failureNumber_0 rfl (s_getW (pc := 1) dX11_failureNumber_1 f_X11_9 h.1 (s_ireturn (pc := 4) dX11_failureNumber_4 rfl (Nat.zero_le _) (Nat.zero_le _) ⟨_, rfl, h.2⟩))))
/-! X11_width -/
theorem dX11_width_0 : cod mX11_width 0 (.bipush 100) 2 := by decide +kernel
theorem dX11_width_2 : cod mX11_width 2 (.ireturn) 1 := by decide +kernel
def wp_X11_width (p0 : Nat) (M : Mem) (Q : Int32 → Mem → Prop) : Prop := Q 100 M
theorem T_X11_width {G : GG} {Q : Int32 → Mem → Prop} {M : Mem} {p0 : Nat} (h : wp_X11_width p0 M Q) : PMet G mX11_width 0 0 0 [.ref p0] M (QI Q) :=
  mk_met (by decide) rfl rfl (by
    intro w hw x9 e9
    subst e9
    simp at hw) (Nat.le_of_ble_eq_true rfl) (s_pad (L1 := [some (.ref p0)]) 1 rfl (s_bipush (pc := 0) dX11_width_0 cb_100 (s_ireturn (pc := 2) dX11_width_2 rfl (Nat.zero_le _) (Nat.zero_le _) ⟨_, rfl, h⟩)))
/-! X6_allChances -/
theorem dX6_allChances_0 : cod mX6_allChances 0 (.iconst 0) 1 := by decide +kernel
theorem dX6_allChances_1 : cod mX6_allChances 1 (.istore_n 1) 1 := by decide +kernel
theorem dX6_allChances_2 : cod mX6_allChances 2 (.iconst 0) 1 := by decide +kernel
theorem dX6_allChances_3 : cod mX6_allChances 3 (.istore_n 2) 1 := by decide +kernel
theorem dX6_allChances_4 : cod mX6_allChances 4 (.iload_n 2) 1 := by decide +kernel
theorem dX6_allChances_5 : cod mX6_allChances 5 (.aload_n 0) 1 := by decide +kernel
theorem dX6_allChances_6 : cod mX6_allChances 6 (.getfield 40) 3 := by decide +kernel
theorem dX6_allChances_9 : cod mX6_allChances 9 (.if_icmp .ge 18) 3 := by decide +kernel
theorem dX6_allChances_12 : cod mX6_allChances 12 (.iload_n 1) 1 := by decide +kernel
theorem dX6_allChances_13 : cod mX6_allChances 13 (.aload_n 0) 1 := by decide +kernel
theorem dX6_allChances_14 : cod mX6_allChances 14 (.getfield 9) 3 := by decide +kernel
theorem dX6_allChances_17 : cod mX6_allChances 17 (.iload_n 2) 1 := by decide +kernel
theorem dX6_allChances_18 : cod mX6_allChances 18 (.iaload) 1 := by decide +kernel
theorem dX6_allChances_19 : cod mX6_allChances 19 (.iadd) 1 := by decide +kernel
theorem dX6_allChances_20 : cod mX6_allChances 20 (.istore_n 1) 1 := by decide +kernel
theorem dX6_allChances_21 : cod mX6_allChances 21 (.iinc 2 1) 3 := by decide +kernel
theorem dX6_allChances_24 : cod mX6_allChances 24 (.goto (-20)) 3 := by decide +kernel
theorem dX6_allChances_27 : cod mX6_allChances 27 (.iload_n 1) 1 := by decide +kernel
theorem dX6_allChances_28 : cod mX6_allChances 28 (.ireturn) 1 := by decide +kernel
def lp_X6_allChances_4 (Q : Int32 → Mem → Prop) : Nat → Nat → Int32 → Int32 → Mem → Prop
  | 0 => fun _ _ _ _ => False
  | n + 1 => fun x0 x1 x2 M => mK M x0 = 7 ∧ ((mI M x0 0) ≤ x2 → Q x1 M) ∧ (¬ (mI M x0 0) ≤ x2 → mK M (mR M x0 1) = 20 ∧ vp_in x2 (mN M (mR M x0 1)) ∧ ∀ y5 : Int32, y5 = x1 + (mI M (mR M x0 1) x2.toNatClampNeg) → (lp_X6_allChances_4 Q n) x0 y5 (x2 + 1) M)
theorem P_lp_X6_allChances_4 {G : GG} {Q : Int32 → Mem → Prop} : ∀ (n : Nat) (x0 : Nat) (x1 : Int32) (x2 : Int32) (M : Mem), lp_X6_allChances_4 Q n x0 x1 x2 M → PW G mX6_allChances (rmD 0 0 0) (QI Q) 4 [some (.ref x0), some (.int x1), some (.int x2)] [] M 0 0 := by
  intro n
  induction n with
  | zero => intro x0 x1 x2 M h; exact h.elim
  | succ n ih =>
    intro x0 x1 x2 M h
    exact (s_iload_n (pc := 4) dX6_allChances_4 rfl (s_aload_n (pc := 5) dX6_allChances_5 rfl (s_getI (pc := 6) dX6_allChances_6 f_X6_40 rfl h.1 (s_icmp_ge (pc := 9) (tgt := 27) dX6_allChances_9 rfl (fun c1 => have h2 := h.2.1 c1; s_iload_n (pc := 27) dX6_allChances_27 rfl (s_ireturn (pc := 28) dX6_allChances_28 rfl (Nat.zero_le _) (Nat.zero_le _) ⟨_, rfl, h2⟩)) (fun c3 => have h4 := h.2.2 c3; s_iload_n (pc := 12) dX6_allChances_12 rfl (s_aload_n (pc := 13) dX6_allChances_13 rfl (s_getR (pc := 14) dX6_allChances_14 f_X6_9 rfl h.1 (s_iload_n (pc := 17) dX6_allChances_17 rfl (s_ial (pc := 18) dX6_allChances_18 h4.1 h4.2.1 (s_iadd (pc := 19) dX6_allChances_19 (nmI (fun y5 e6 => have h7 := h4.2.2 y5 e6; s_istore_n (pc := 20) (L1 := [some (.ref x0), some (.int y5), some (.int x2)]) dX6_allChances_20 (Nat.le_of_ble_eq_true rfl) rfl (s_iinc (pc := 21) (L1 := [some (.ref x0), some (.int y5), some (.int (x2 + 1))]) dX6_allChances_21 rfl ci_1 (Nat.le_of_ble_eq_true rfl) rfl (s_goto (pc := 24) (tgt := 4) dX6_allChances_24 rfl (s_sel (L1 := [some (.ref x0), some (.int y5), some (.int (x2 + 1))]) [true, true, true] rfl (ih x0 y5 (x2 + 1) M h7))))))))))))))))
def wp_X6_allChances (p0 : Nat) (M : Mem) (Q : Int32 → Mem → Prop) : Prop := ∃ n8 : Nat, lp_X6_allChances_4 Q n8 p0 0 0 M
theorem T_X6_allChances {G : GG} {Q : Int32 → Mem → Prop} {M : Mem} {p0 : Nat} (h : wp_X6_allChances p0 M Q) : PMet G mX6_allChances 0 0 0 [.ref p0] M (QI Q) :=
  mk_met (by decide) rfl rfl (by
    intro w hw x9 e9
    subst e9
    simp at hw) (Nat.le_of_ble_eq_true rfl) (s_pad (L1 := [some (.ref p0), none, none]) 3 rfl (s_iconst (pc := 0) dX6_allChances_0 ci_0 (s_istore_n (pc := 1) (L1 := [some (.ref p0), some (.int 0), none]) dX6_allChances_1 (Nat.le_of_ble_eq_true rfl) rfl (s_iconst (pc := 2) dX6_allChances_2 ci_0 (s_istore_n (pc := 3) (L1 := [some (.ref p0), some (.int 0), some (.int 0)]) dX6_allChances_3 (Nat.le_of_ble_eq_true rfl) rfl (Exists.elim h (fun n8 hn => s_sel (L1 := [some (.ref p0), some (.int 0), some (.int 0)]) [true, true, true] rfl (P_lp_X6_allChances_4 n8 p0 0 0 M hn))))))))
/-! X6_isReady -/
theorem dX6_isReady_0 : cod mX6_isReady 0 (.aload_n 0) 1 := by decide +kernel
theorem dX6_isReady_1 : cod mX6_isReady 1 (.invokevirtual 55) 3 := by decide +kernel
theorem dX6_isReady_4 : cod mX6_isReady 4 (.bipush 100) 2 := by decide +kernel
theorem dX6_isReady_6 : cod mX6_isReady 6 (.if_icmp .ne 7) 3 := by decide +kernel
theorem dX6_isReady_9 : cod mX6_isReady 9 (.iconst 1) 1 := by decide +kernel
theorem dX6_isReady_10 : cod mX6_isReady 10 (.goto 4) 3 := by decide +kernel
theorem dX6_isReady_13 : cod mX6_isReady 13 (.iconst 0) 1 := by decide +kernel
theorem dX6_isReady_14 : cod mX6_isReady 14 (.ireturn) 1 := by decide +kernel
def wp_X6_isReady (p0 : Nat) (M : Mem) (Q : Int32 → Mem → Prop) : Prop := mK M p0 = 7 ∧ wp_X6_allChances p0 M (fun r3 M2 => (¬ r3 = (100 : Int32) → Q 0 M2) ∧ (r3 = (100 : Int32) → Q 1 M2))
theorem T_X6_isReady {G : GG} {Q : Int32 → Mem → Prop} {M : Mem} {p0 : Nat} (h : wp_X6_isReady p0 M Q) : PMet G mX6_isReady 1 0 0 [.ref p0] M (QI Q) :=
  mk_met (by decide) rfl rfl (by
    intro w hw x9 e9
    subst e9
    simp at hw) (Nat.le_of_ble_eq_true rfl) (s_pad (L1 := [some (.ref p0)]) 1 rfl (s_aload_n (pc := 0) dX6_isReady_0 rfl (s_callV (pc := 1) (As := []) (rest := []) (d' := 0) (mc' := 0) (ms' := 0) dX6_isReady_1 c_X6_55 (Nat.le_of_ble_eq_true rfl) rfl h.1 rfl rfl (Nat.le_of_ble_eq_true rfl) (rm_ok rfl rfl) ⟨Nat.le_refl 0, Nat.le_refl 0⟩ (T_X6_allChances h.2) (kkI (fun r3 M2 h1 => s_bipush (pc := 4) dX6_isReady_4 cb_100 (s_icmp_ne (pc := 6) (tgt := 13) dX6_isReady_6 rfl (fun c4 => have h5 := h1.1 c4; s_iconst (pc := 13) dX6_isReady_13 ci_0 (s_zreturn (pc := 14) dX6_isReady_14 rfl (Or.inl rfl) (Nat.zero_le _) (Nat.zero_le _) ⟨_, rfl, h5⟩)) (fun c6 => have h7 := h1.2 c6; s_iconst (pc := 9) dX6_isReady_9 ci_1 (s_goto (pc := 10) (tgt := 14) dX6_isReady_10 rfl (s_zreturn (pc := 14) dX6_isReady_14 rfl (Or.inr rfl) (Nat.zero_le _) (Nat.zero_le _) ⟨_, rfl, h7⟩)))))))))
/-! X12_anew -/
theorem dX12_anew_0 : cod mX12_anew 0 (.aload_n 0) 1 := by decide +kernel
theorem dX12_anew_1 : cod mX12_anew 1 (.getfield 10) 3 := by decide +kernel
theorem dX12_anew_4 : cod mX12_anew 4 (.invokevirtual 132) 3 := by decide +kernel
theorem dX12_anew_7 : cod mX12_anew 7 (.ifCond .ne 6) 3 := by decide +kernel
theorem dX12_anew_10 : cod mX12_anew 10 (.bipush (-3)) 2 := by decide +kernel
theorem dX12_anew_12 : cod mX12_anew 12 (.ireturn) 1 := by decide +kernel
theorem dX12_anew_13 : cod mX12_anew 13 (.aload_n 0) 1 := by decide +kernel
theorem dX12_anew_14 : cod mX12_anew 14 (.getfield 25) 3 := by decide +kernel
theorem dX12_anew_17 : cod mX12_anew 17 (.aload_n 0) 1 := by decide +kernel
theorem dX12_anew_18 : cod mX12_anew 18 (.getfield 10) 3 := by decide +kernel
theorem dX12_anew_21 : cod mX12_anew 21 (.invokevirtual 82) 3 := by decide +kernel
theorem dX12_anew_24 : cod mX12_anew 24 (.aload_n 0) 1 := by decide +kernel
theorem dX12_anew_25 : cod mX12_anew 25 (.getfield 25) 3 := by decide +kernel
theorem dX12_anew_28 : cod mX12_anew 28 (.aload_n 0) 1 := by decide +kernel
theorem dX12_anew_29 : cod mX12_anew 29 (.getfield 10) 3 := by decide +kernel
theorem dX12_anew_32 : cod mX12_anew 32 (.invokevirtual 136) 3 := by decide +kernel
theorem dX12_anew_35 : cod mX12_anew 35 (.ireturn) 1 := by decide +kernel
def wp_X12_anew (p0 : Nat) (M : Mem) (Q : Int32 → Mem → Prop) : Prop := mK M p0 = 13 ∧ mK M (mR M p0 0) = 7 ∧ wp_X6_isReady (mR M p0 0) M (fun r3 M2 => (¬ r3 = (0 : Int32) → mK M2 p0 = 13 ∧ mK M2 (mR M2 p0 3) = 10 ∧ wp_X9_begin (mR M2 p0 3) (mR M2 p0 0) M2 (fun M9 => mK M9 p0 = 13 ∧ mK M9 (mR M9 p0 3) = 10 ∧ wp_X9_meanValue (mR M9 p0 3) (mR M9 p0 0) M9 (fun r12 M11 => Q r12 M11))) ∧ (r3 = (0 : Int32) → Q (-3) M2))
theorem T_X12_anew {G : GG} {Q : Int32 → Mem → Prop} {M : Mem} {p0 : Nat} (h : wp_X12_anew p0 M Q) : PMet G mX12_anew 2 0 0 [.ref p0] M (QI Q) :=
  mk_met (by decide) rfl rfl (by
    intro w hw x9 e9
    subst e9
    simp at hw) (Nat.le_of_ble_eq_true rfl) (s_pad (L1 := [some (.ref p0)]) 1 rfl (s_aload_n (pc := 0) dX12_anew_0 rfl (s_getR (pc := 1) dX12_anew_1 f_X12_10 rfl h.1 (s_callV (pc := 4) (As := []) (rest := []) (d' := 1) (mc' := 0) (ms' := 0) dX12_anew_4 c_X12_132 (Nat.le_of_ble_eq_true rfl) rfl h.2.1 rfl rfl (Nat.le_of_ble_eq_true rfl) (rm_ok rfl rfl) ⟨Nat.le_refl 0, Nat.le_refl 0⟩ (T_X6_isReady h.2.2) (kkI (fun r3 M2 h1 => s_if_ne (pc := 7) (tgt := 13) dX12_anew_7 rfl (fun c4 => have h5 := h1.1 c4; s_aload_n (pc := 13) dX12_anew_13 rfl (s_getR (pc := 14) dX12_anew_14 f_X12_25 rfl h5.1 (s_aload_n (pc := 17) dX12_anew_17 rfl (s_getR (pc := 18) dX12_anew_18 f_X12_10 rfl h5.1 (s_callV (pc := 21) (As := [.ref (mR M2 p0 0)]) (rest := []) (d' := 0) (mc' := 0) (ms' := 0) dX12_anew_21 c_X12_82 (Nat.le_of_ble_eq_true rfl) rfl h5.2.1 rfl rfl (Nat.le_of_ble_eq_true rfl) (rm_ok rfl rfl) ⟨Nat.le_refl 0, Nat.le_refl 0⟩ (T_X9_begin h5.2.2) (kkV (fun M9 h8 => s_aload_n (pc := 24) dX12_anew_24 rfl (s_getR (pc := 25) dX12_anew_25 f_X12_25 rfl h8.1 (s_aload_n (pc := 28) dX12_anew_28 rfl (s_getR (pc := 29) dX12_anew_29 f_X12_10 rfl h8.1 (s_callV (pc := 32) (As := [.ref (mR M9 p0 0)]) (rest := []) (d' := 1) (mc' := 0) (ms' := 0) dX12_anew_32 c_X12_136 (Nat.le_of_ble_eq_true rfl) rfl h8.2.1 rfl rfl (Nat.le_of_ble_eq_true rfl) (rm_ok rfl rfl) ⟨Nat.le_refl 0, Nat.le_refl 0⟩ (T_X9_meanValue h8.2.2) (kkI (fun r12 M11 h10 => s_ireturn (pc := 35) dX12_anew_35 rfl (Nat.zero_le _) (Nat.zero_le _) ⟨_, rfl, h10⟩))))))))))))) (fun c6 => have h7 := h1.2 c6; s_bipush (pc := 10) dX12_anew_10 cb_m3 (s_ireturn (pc := 12) dX12_anew_12 rfl (Nat.zero_le _) (Nat.zero_le _) ⟨_, rfl, h7⟩))))))))
/-! X12_apart -/
theorem dX12_apart_0 : cod mX12_apart 0 (.aload_n 0) 1 := by decide +kernel
theorem dX12_apart_1 : cod mX12_apart 1 (.getfield 10) 3 := by decide +kernel
theorem dX12_apart_4 : cod mX12_apart 4 (.invokevirtual 132) 3 := by decide +kernel
theorem dX12_apart_7 : cod mX12_apart 7 (.ifCond .ne 6) 3 := by decide +kernel
theorem dX12_apart_10 : cod mX12_apart 10 (.ldc 173) 2 := by decide +kernel
theorem dX12_apart_12 : cod mX12_apart 12 (.ireturn) 1 := by decide +kernel
theorem dX12_apart_13 : cod mX12_apart 13 (.aload_n 0) 1 := by decide +kernel
theorem dX12_apart_14 : cod mX12_apart 14 (.getfield 25) 3 := by decide +kernel
theorem dX12_apart_17 : cod mX12_apart 17 (.aload_n 0) 1 := by decide +kernel
theorem dX12_apart_18 : cod mX12_apart 18 (.getfield 10) 3 := by decide +kernel
theorem dX12_apart_21 : cod mX12_apart 21 (.invokevirtual 167) 3 := by decide +kernel
theorem dX12_apart_24 : cod mX12_apart 24 (.istore_n 1) 1 := by decide +kernel
theorem dX12_apart_25 : cod mX12_apart 25 (.aload_n 0) 1 := by decide +kernel
theorem dX12_apart_26 : cod mX12_apart 26 (.getfield 25) 3 := by decide +kernel
theorem dX12_apart_29 : cod mX12_apart 29 (.aload_n 0) 1 := by decide +kernel
theorem dX12_apart_30 : cod mX12_apart 30 (.getfield 10) 3 := by decide +kernel
theorem dX12_apart_33 : cod mX12_apart 33 (.invokevirtual 170) 3 := by decide +kernel
theorem dX12_apart_36 : cod mX12_apart 36 (.istore_n 2) 1 := by decide +kernel
theorem dX12_apart_37 : cod mX12_apart 37 (.iload_n 1) 1 := by decide +kernel
theorem dX12_apart_38 : cod mX12_apart 38 (.bipush (-4)) 2 := by decide +kernel
theorem dX12_apart_40 : cod mX12_apart 40 (.if_icmp .eq 9) 3 := by decide +kernel
theorem dX12_apart_43 : cod mX12_apart 43 (.iload_n 2) 1 := by decide +kernel
theorem dX12_apart_44 : cod mX12_apart 44 (.bipush (-4)) 2 := by decide +kernel
theorem dX12_apart_46 : cod mX12_apart 46 (.if_icmp .ne 8) 3 := by decide +kernel
theorem dX12_apart_49 : cod mX12_apart 49 (.ldc 174) 2 := by decide +kernel
theorem dX12_apart_51 : cod mX12_apart 51 (.goto 6) 3 := by decide +kernel
theorem dX12_apart_54 : cod mX12_apart 54 (.iload_n 1) 1 := by decide +kernel
theorem dX12_apart_55 : cod mX12_apart 55 (.iload_n 2) 1 := by decide +kernel
theorem dX12_apart_56 : cod mX12_apart 56 (.isub) 1 := by decide +kernel
theorem dX12_apart_57 : cod mX12_apart 57 (.ireturn) 1 := by decide +kernel
def wp_X12_apart (p0 : Nat) (M : Mem) (Q : Int32 → Mem → Prop) : Prop := mK M p0 = 13 ∧ mK M (mR M p0 0) = 7 ∧ wp_X6_isReady (mR M p0 0) M (fun r3 M2 => (¬ r3 = (0 : Int32) → mK M2 p0 = 13 ∧ mK M2 (mR M2 p0 3) = 10 ∧ wp_X9_fairAsk (mR M2 p0 3) (mR M2 p0 0) M2 (fun r10 M9 => mK M9 p0 = 13 ∧ mK M9 (mR M9 p0 3) = 10 ∧ wp_X9_fairBid (mR M9 p0 3) (mR M9 p0 0) M9 (fun r13 M12 => (r10 = ((-4) : Int32) → Q (-1000000004) M12) ∧ (¬ r10 = ((-4) : Int32) → (¬ r13 = ((-4) : Int32) → Q (r10 - r13) M12) ∧ (r13 = ((-4) : Int32) → Q (-1000000004) M12))))) ∧ (r3 = (0 : Int32) → Q (-1000000003) M2))
theorem T_X12_apart {G : GG} {Q : Int32 → Mem → Prop} {M : Mem} {p0 : Nat} (h : wp_X12_apart p0 M Q) : PMet G mX12_apart 2 0 0 [.ref p0] M (QI Q) :=
  mk_met (by decide) rfl rfl (by
    intro w hw x9 e9
    subst e9
    simp at hw) (Nat.le_of_ble_eq_true rfl) (s_pad (L1 := [some (.ref p0), none, none]) 3 rfl (s_aload_n (pc := 0) dX12_apart_0 rfl (s_getR (pc := 1) dX12_apart_1 f_X12_10 rfl h.1 (s_callV (pc := 4) (As := []) (rest := []) (d' := 1) (mc' := 0) (ms' := 0) dX12_apart_4 c_X12_132 (Nat.le_of_ble_eq_true rfl) rfl h.2.1 rfl rfl (Nat.le_of_ble_eq_true rfl) (rm_ok rfl rfl) ⟨Nat.le_refl 0, Nat.le_refl 0⟩ (T_X6_isReady h.2.2) (kkI (fun r3 M2 h1 => s_if_ne (pc := 7) (tgt := 13) dX12_apart_7 rfl (fun c4 => have h5 := h1.1 c4; s_aload_n (pc := 13) dX12_apart_13 rfl (s_getR (pc := 14) dX12_apart_14 f_X12_25 rfl h5.1 (s_aload_n (pc := 17) dX12_apart_17 rfl (s_getR (pc := 18) dX12_apart_18 f_X12_10 rfl h5.1 (s_callV (pc := 21) (As := [.ref (mR M2 p0 0)]) (rest := []) (d' := 0) (mc' := 0) (ms' := 0) dX12_apart_21 c_X12_167 (Nat.le_of_ble_eq_true rfl) rfl h5.2.1 rfl rfl (Nat.le_of_ble_eq_true rfl) (rm_ok rfl rfl) ⟨Nat.le_refl 0, Nat.le_refl 0⟩ (T_X9_fairAsk h5.2.2) (kkI (fun r10 M9 h8 => s_istore_n (pc := 24) (L1 := [some (.ref p0), some (.int r10), none]) dX12_apart_24 (Nat.le_of_ble_eq_true rfl) rfl (s_aload_n (pc := 25) dX12_apart_25 rfl (s_getR (pc := 26) dX12_apart_26 f_X12_25 rfl h8.1 (s_aload_n (pc := 29) dX12_apart_29 rfl (s_getR (pc := 30) dX12_apart_30 f_X12_10 rfl h8.1 (s_callV (pc := 33) (As := [.ref (mR M9 p0 0)]) (rest := []) (d' := 0) (mc' := 0) (ms' := 0) dX12_apart_33 c_X12_170 (Nat.le_of_ble_eq_true rfl) rfl h8.2.1 rfl rfl (Nat.le_of_ble_eq_true rfl) (rm_ok rfl rfl) ⟨Nat.le_refl 0, Nat.le_refl 0⟩ (T_X9_fairBid h8.2.2) (kkI (fun r13 M12 h11 => s_istore_n (pc := 36) (L1 := [some (.ref p0), some (.int r10), some (.int r13)]) dX12_apart_36 (Nat.le_of_ble_eq_true rfl) rfl (s_iload_n (pc := 37) dX12_apart_37 rfl (s_bipush (pc := 38) dX12_apart_38 cb_m4 (s_icmp_eq (pc := 40) (tgt := 49) dX12_apart_40 rfl (fun c14 => have h15 := h11.1 c14; s_ldc (pc := 49) dX12_apart_49 k_X12_174 (s_goto (pc := 51) (tgt := 57) dX12_apart_51 rfl (s_ireturn (pc := 57) dX12_apart_57 rfl (Nat.zero_le _) (Nat.zero_le _) ⟨_, rfl, h15⟩))) (fun c16 => have h17 := h11.2 c16; s_iload_n (pc := 43) dX12_apart_43 rfl (s_bipush (pc := 44) dX12_apart_44 cb_m4 (s_icmp_ne (pc := 46) (tgt := 54) dX12_apart_46 rfl (fun c18 => have h19 := h17.1 c18; s_iload_n (pc := 54) dX12_apart_54 rfl (s_iload_n (pc := 55) dX12_apart_55 rfl (s_isub (pc := 56) dX12_apart_56 (s_ireturn (pc := 57) dX12_apart_57 rfl (Nat.zero_le _) (Nat.zero_le _) ⟨_, rfl, h19⟩)))) (fun c20 => have h21 := h17.2 c20; s_ldc (pc := 49) dX12_apart_49 k_X12_174 (s_goto (pc := 51) (tgt := 57) dX12_apart_51 rfl (s_ireturn (pc := 57) dX12_apart_57 rfl (Nat.zero_le _) (Nat.zero_le _) ⟨_, rfl, h21⟩))))))))))))))))))))))) (fun c6 => have h7 := h1.2 c6; s_ldc (pc := 10) dX12_apart_10 k_X12_173 (s_ireturn (pc := 12) dX12_apart_12 rfl (Nat.zero_le _) (Nat.zero_le _) ⟨_, rfl, h7⟩))))))))
