/-! X13_copy -/
theorem dX13_copy_0 : cod mX13_copy 0 (.aload_n 0) 1 := by decide +kernel
theorem dX13_copy_1 : cod mX13_copy 1 (.iconst 0) 1 := by decide +kernel
theorem dX13_copy_2 : cod mX13_copy 2 (.putfield 115) 3 := by decide +kernel
theorem dX13_copy_5 : cod mX13_copy 5 (.iload_n 1) 1 := by decide +kernel
theorem dX13_copy_6 : cod mX13_copy 6 (.i2l) 1 := by decide +kernel
theorem dX13_copy_7 : cod mX13_copy 7 (.lconst 0) 1 := by decide +kernel
theorem dX13_copy_8 : cod mX13_copy 8 (.ldc2_w 273) 3 := by decide +kernel
theorem dX13_copy_11 : cod mX13_copy 11 (.invokestatic 122) 3 := by decide +kernel
theorem dX13_copy_14 : cod mX13_copy 14 (.ifCond .eq 15) 3 := by decide +kernel
theorem dX13_copy_17 : cod mX13_copy 17 (.iload_n 3) 1 := by decide +kernel
theorem dX13_copy_18 : cod mX13_copy 18 (.i2l) 1 := by decide +kernel
theorem dX13_copy_19 : cod mX13_copy 19 (.lconst 0) 1 := by decide +kernel
theorem dX13_copy_20 : cod mX13_copy 20 (.ldc2_w 273) 3 := by decide +kernel
theorem dX13_copy_23 : cod mX13_copy 23 (.invokestatic 122) 3 := by decide +kernel
theorem dX13_copy_26 : cod mX13_copy 26 (.ifCond .ne 5) 3 := by decide +kernel
theorem dX13_copy_29 : cod mX13_copy 29 (.iconst (-1)) 1 := by decide +kernel
theorem dX13_copy_30 : cod mX13_copy 30 (.ireturn) 1 := by decide +kernel
theorem dX13_copy_31 : cod mX13_copy 31 (.aload_n 0) 1 := by decide +kernel
theorem dX13_copy_32 : cod mX13_copy 32 (.getfield 94) 3 := by decide +kernel
theorem dX13_copy_35 : cod mX13_copy 35 (.iload_n 1) 1 := by decide +kernel
theorem dX13_copy_36 : cod mX13_copy 36 (.iaload) 1 := by decide +kernel
theorem dX13_copy_37 : cod mX13_copy 37 (.ifCond .eq 12) 3 := by decide +kernel
theorem dX13_copy_40 : cod mX13_copy 40 (.aload_n 0) 1 := by decide +kernel
theorem dX13_copy_41 : cod mX13_copy 41 (.getfield 94) 3 := by decide +kernel
theorem dX13_copy_44 : cod mX13_copy 44 (.iload_n 3) 1 := by decide +kernel
theorem dX13_copy_45 : cod mX13_copy 45 (.iaload) 1 := by decide +kernel
theorem dX13_copy_46 : cod mX13_copy 46 (.ifCond .ne 6) 3 := by decide +kernel
theorem dX13_copy_49 : cod mX13_copy 49 (.bipush (-11)) 2 := by decide +kernel
theorem dX13_copy_51 : cod mX13_copy 51 (.ireturn) 1 := by decide +kernel
theorem dX13_copy_52 : cod mX13_copy 52 (.aload_n 0) 1 := by decide +kernel
theorem dX13_copy_53 : cod mX13_copy 53 (.getfield 94) 3 := by decide +kernel
theorem dX13_copy_56 : cod mX13_copy 56 (.iload_n 1) 1 := by decide +kernel
theorem dX13_copy_57 : cod mX13_copy 57 (.iaload) 1 := by decide +kernel
theorem dX13_copy_58 : cod mX13_copy 58 (.iconst 2) 1 := by decide +kernel
theorem dX13_copy_59 : cod mX13_copy 59 (.if_icmp .ne 28) 3 := by decide +kernel
theorem dX13_copy_62 : cod mX13_copy 62 (.aload_n 0) 1 := by decide +kernel
theorem dX13_copy_63 : cod mX13_copy 63 (.getfield 94) 3 := by decide +kernel
theorem dX13_copy_66 : cod mX13_copy 66 (.iload_n 3) 1 := by decide +kernel
theorem dX13_copy_67 : cod mX13_copy 67 (.iaload) 1 := by decide +kernel
theorem dX13_copy_68 : cod mX13_copy 68 (.iconst 2) 1 := by decide +kernel
theorem dX13_copy_69 : cod mX13_copy 69 (.if_icmp .ne 18) 3 := by decide +kernel
theorem dX13_copy_72 : cod mX13_copy 72 (.aload_n 0) 1 := by decide +kernel
theorem dX13_copy_73 : cod mX13_copy 73 (.getfield 103) 3 := by decide +kernel
theorem dX13_copy_76 : cod mX13_copy 76 (.iload_n 1) 1 := by decide +kernel
theorem dX13_copy_77 : cod mX13_copy 77 (.iaload) 1 := by decide +kernel
theorem dX13_copy_78 : cod mX13_copy 78 (.aload_n 0) 1 := by decide +kernel
theorem dX13_copy_79 : cod mX13_copy 79 (.getfield 103) 3 := by decide +kernel
theorem dX13_copy_82 : cod mX13_copy 82 (.iload_n 3) 1 := by decide +kernel
theorem dX13_copy_83 : cod mX13_copy 83 (.iaload) 1 := by decide +kernel
theorem dX13_copy_84 : cod mX13_copy 84 (.if_icmp .eq 6) 3 := by decide +kernel
theorem dX13_copy_87 : cod mX13_copy 87 (.bipush (-12)) 2 := by decide +kernel
theorem dX13_copy_89 : cod mX13_copy 89 (.ireturn) 1 := by decide +kernel
theorem dX13_copy_90 : cod mX13_copy 90 (.iload 5) 2 := by decide +kernel
theorem dX13_copy_92 : cod mX13_copy 92 (.ifCond .lt 39) 3 := by decide +kernel
theorem dX13_copy_95 : cod mX13_copy 95 (.iload_n 2) 1 := by decide +kernel
theorem dX13_copy_96 : cod mX13_copy 96 (.ifCond .lt 35) 3 := by decide +kernel
theorem dX13_copy_99 : cod mX13_copy 99 (.iload 4) 2 := by decide +kernel
theorem dX13_copy_101 : cod mX13_copy 101 (.ifCond .lt 30) 3 := by decide +kernel
theorem dX13_copy_104 : cod mX13_copy 104 (.iload_n 2) 1 := by decide +kernel
theorem dX13_copy_105 : cod mX13_copy 105 (.aload_n 0) 1 := by decide +kernel
theorem dX13_copy_106 : cod mX13_copy 106 (.getfield 106) 3 := by decide +kernel
theorem dX13_copy_109 : cod mX13_copy 109 (.iload_n 1) 1 := by decide +kernel
theorem dX13_copy_110 : cod mX13_copy 110 (.iaload) 1 := by decide +kernel
theorem dX13_copy_111 : cod mX13_copy 111 (.iload 5) 2 := by decide +kernel
theorem dX13_copy_113 : cod mX13_copy 113 (.isub) 1 := by decide +kernel
theorem dX13_copy_114 : cod mX13_copy 114 (.if_icmp .gt 17) 3 := by decide +kernel
theorem dX13_copy_117 : cod mX13_copy 117 (.iload 4) 2 := by decide +kernel
theorem dX13_copy_119 : cod mX13_copy 119 (.aload_n 0) 1 := by decide +kernel
theorem dX13_copy_120 : cod mX13_copy 120 (.getfield 106) 3 := by decide +kernel
theorem dX13_copy_123 : cod mX13_copy 123 (.iload_n 3) 1 := by decide +kernel
theorem dX13_copy_124 : cod mX13_copy 124 (.iaload) 1 := by decide +kernel
theorem dX13_copy_125 : cod mX13_copy 125 (.iload 5) 2 := by decide +kernel
theorem dX13_copy_127 : cod mX13_copy 127 (.isub) 1 := by decide +kernel
theorem dX13_copy_128 : cod mX13_copy 128 (.if_icmp .le 6) 3 := by decide +kernel
theorem dX13_copy_131 : cod mX13_copy 131 (.bipush (-13)) 2 := by decide +kernel
theorem dX13_copy_133 : cod mX13_copy 133 (.ireturn) 1 := by decide +kernel
theorem dX13_copy_134 : cod mX13_copy 134 (.iconst 0) 1 := by decide +kernel
theorem dX13_copy_135 : cod mX13_copy 135 (.istore 6) 2 := by decide +kernel
theorem dX13_copy_137 : cod mX13_copy 137 (.iload 6) 2 := by decide +kernel
theorem dX13_copy_139 : cod mX13_copy 139 (.iload 5) 2 := by decide +kernel
theorem dX13_copy_141 : cod mX13_copy 141 (.if_icmp .ge 30) 3 := by decide +kernel
theorem dX13_copy_144 : cod mX13_copy 144 (.aload_n 0) 1 := by decide +kernel
theorem dX13_copy_145 : cod mX13_copy 145 (.getfield 112) 3 := by decide +kernel
theorem dX13_copy_148 : cod mX13_copy 148 (.iload 6) 2 := by decide +kernel
theorem dX13_copy_150 : cod mX13_copy 150 (.aload_n 0) 1 := by decide +kernel
theorem dX13_copy_151 : cod mX13_copy 151 (.getfield 109) 3 := by decide +kernel
theorem dX13_copy_154 : cod mX13_copy 154 (.bipush 100) 2 := by decide +kernel
theorem dX13_copy_156 : cod mX13_copy 156 (.iload_n 1) 1 := by decide +kernel
theorem dX13_copy_157 : cod mX13_copy 157 (.imul) 1 := by decide +kernel
theorem dX13_copy_158 : cod mX13_copy 158 (.iload_n 2) 1 := by decide +kernel
theorem dX13_copy_159 : cod mX13_copy 159 (.iadd) 1 := by decide +kernel
theorem dX13_copy_160 : cod mX13_copy 160 (.iload 6) 2 := by decide +kernel
theorem dX13_copy_162 : cod mX13_copy 162 (.iadd) 1 := by decide +kernel
theorem dX13_copy_163 : cod mX13_copy 163 (.laload) 1 := by decide +kernel
theorem dX13_copy_164 : cod mX13_copy 164 (.lastore) 1 := by decide +kernel
theorem dX13_copy_165 : cod mX13_copy 165 (.iinc 6 1) 3 := by decide +kernel
theorem dX13_copy_168 : cod mX13_copy 168 (.goto (-31)) 3 := by decide +kernel
theorem dX13_copy_171 : cod mX13_copy 171 (.iconst 0) 1 := by decide +kernel
theorem dX13_copy_172 : cod mX13_copy 172 (.istore 6) 2 := by decide +kernel
theorem dX13_copy_174 : cod mX13_copy 174 (.iload 6) 2 := by decide +kernel
theorem dX13_copy_176 : cod mX13_copy 176 (.iload 5) 2 := by decide +kernel
theorem dX13_copy_178 : cod mX13_copy 178 (.if_icmp .ge 31) 3 := by decide +kernel
theorem dX13_copy_181 : cod mX13_copy 181 (.aload_n 0) 1 := by decide +kernel
theorem dX13_copy_182 : cod mX13_copy 182 (.getfield 109) 3 := by decide +kernel
theorem dX13_copy_185 : cod mX13_copy 185 (.bipush 100) 2 := by decide +kernel
theorem dX13_copy_187 : cod mX13_copy 187 (.iload_n 3) 1 := by decide +kernel
theorem dX13_copy_188 : cod mX13_copy 188 (.imul) 1 := by decide +kernel
theorem dX13_copy_189 : cod mX13_copy 189 (.iload 4) 2 := by decide +kernel
theorem dX13_copy_191 : cod mX13_copy 191 (.iadd) 1 := by decide +kernel
theorem dX13_copy_192 : cod mX13_copy 192 (.iload 6) 2 := by decide +kernel
theorem dX13_copy_194 : cod mX13_copy 194 (.iadd) 1 := by decide +kernel
theorem dX13_copy_195 : cod mX13_copy 195 (.aload_n 0) 1 := by decide +kernel
theorem dX13_copy_196 : cod mX13_copy 196 (.getfield 112) 3 := by decide +kernel
theorem dX13_copy_199 : cod mX13_copy 199 (.iload 6) 2 := by decide +kernel
theorem dX13_copy_201 : cod mX13_copy 201 (.laload) 1 := by decide +kernel
theorem dX13_copy_202 : cod mX13_copy 202 (.lastore) 1 := by decide +kernel
theorem dX13_copy_203 : cod mX13_copy 203 (.iinc 6 1) 3 := by decide +kernel
theorem dX13_copy_206 : cod mX13_copy 206 (.goto (-32)) 3 := by decide +kernel
theorem dX13_copy_209 : cod mX13_copy 209 (.iload 5) 2 := by decide +kernel
theorem dX13_copy_211 : cod mX13_copy 211 (.ireturn) 1 := by decide +kernel
def lp_X13_copy_174 (Q : Int32 → Mem → Prop) : Nat → Nat → Int32 → Int32 → Int32 → Int32 → Mem → Prop
  | 0 => fun _ _ _ _ _ _ => False
  | n + 1 => fun x0 x3 x4 x5 x6 M => (x5 ≤ x6 → Q x5 M) ∧ (¬ x5 ≤ x6 → mK M x0 = 14 ∧ mK M (mR M x0 55) = 21 ∧ vp_in x6 (mN M (mR M x0 55)) ∧ mK M (mR M x0 54) = 21 ∧ vp_in (((100 * x3) + x4) + x6) (mN M (mR M x0 54)) ∧ ∀ M66 : Mem, M66 = uJ M (mR M x0 54) (((100 * x3) + x4) + x6).toNatClampNeg (mJ M (mR M x0 55) x6.toNatClampNeg) → (lp_X13_copy_174 Q n) x0 x3 x4 x5 (x6 + 1) M66)
theorem P_lp_X13_copy_174 {G : GG} {Q : Int32 → Mem → Prop} : ∀ (n : Nat) (x0 : Nat) (x3 : Int32) (x4 : Int32) (x5 : Int32) (x6 : Int32) (M : Mem), lp_X13_copy_174 Q n x0 x3 x4 x5 x6 M → PW G mX13_copy (rmD 1 0 0) (QI Q) 174 [some (.ref x0), none, none, some (.int x3), some (.int x4), some (.int x5), some (.int x6)] [] M 0 0 := by
  intro n
  induction n with
  | zero => intro x0 x3 x4 x5 x6 M h; exact h.elim
  | succ n ih =>
    intro x0 x3 x4 x5 x6 M h
    exact (s_iload (pc := 174) dX13_copy_174 rfl (s_iload (pc := 176) dX13_copy_176 rfl (s_icmp_ge (pc := 178) (tgt := 209) dX13_copy_178 rfl (fun c62 => have h63 := h.1 c62; s_iload (pc := 209) dX13_copy_209 rfl (s_ireturn (pc := 211) dX13_copy_211 rfl (Nat.zero_le _) (Nat.zero_le _) ⟨_, rfl, h63⟩)) (fun c64 => have h65 := h.2 c64; s_aload_n (pc := 181) dX13_copy_181 rfl (s_getR (pc := 182) dX13_copy_182 f_X13_109 rfl h65.1 (s_bipush (pc := 185) dX13_copy_185 cb_100 (s_iload_n (pc := 187) dX13_copy_187 rfl (s_imul (pc := 188) dX13_copy_188 (s_iload (pc := 189) dX13_copy_189 rfl (s_iadd (pc := 191) dX13_copy_191 (s_iload (pc := 192) dX13_copy_192 rfl (s_iadd (pc := 194) dX13_copy_194 (s_aload_n (pc := 195) dX13_copy_195 rfl (s_getR (pc := 196) dX13_copy_196 f_X13_112 rfl h65.1 (s_iload (pc := 199) dX13_copy_199 rfl (s_lal (pc := 201) dX13_copy_201 h65.2.1 h65.2.2.1 (s_las (pc := 202) dX13_copy_202 h65.2.2.2.1 h65.2.2.2.2.1 (nmM (fun M66 e67 => have h68 := (h65.2.2.2.2.2) M66 e67; s_iinc (pc := 203) (L1 := [some (.ref x0), none, none, some (.int x3), some (.int x4), some (.int x5), some (.int (x6 + 1))]) dX13_copy_203 rfl ci_1 (Nat.le_of_ble_eq_true rfl) rfl (s_goto (pc := 206) (tgt := 174) dX13_copy_206 rfl (s_sel (L1 := [some (.ref x0), none, none, some (.int x3), some (.int x4), some (.int x5), some (.int (x6 + 1))]) [true, false, false, true, true, true, true] rfl (ih x0 x3 x4 x5 (x6 + 1) M66 h68))))))))))))))))))))))
def lp_X13_copy_137 (Q : Int32 → Mem → Prop) : Nat → Nat → Int32 → Int32 → Int32 → Int32 → Int32 → Int32 → Mem → Prop
  | 0 => fun _ _ _ _ _ _ _ _ => False
  | n + 1 => fun x0 x1 x2 x3 x4 x5 x6 M => (x5 ≤ x6 → ∃ n69 : Nat, lp_X13_copy_174 Q n69 x0 x3 x4 x5 0 M) ∧ (¬ x5 ≤ x6 → mK M x0 = 14 ∧ mK M (mR M x0 54) = 21 ∧ vp_in (((100 * x1) + x2) + x6) (mN M (mR M x0 54)) ∧ mK M (mR M x0 55) = 21 ∧ vp_in x6 (mN M (mR M x0 55)) ∧ ∀ M70 : Mem, M70 = uJ M (mR M x0 55) x6.toNatClampNeg (mJ M (mR M x0 54) (((100 * x1) + x2) + x6).toNatClampNeg) → (lp_X13_copy_137 Q n) x0 x1 x2 x3 x4 x5 (x6 + 1) M70)
theorem P_lp_X13_copy_137 {G : GG} {Q : Int32 → Mem → Prop} : ∀ (n : Nat) (x0 : Nat) (x1 : Int32) (x2 : Int32) (x3 : Int32) (x4 : Int32) (x5 : Int32) (x6 : Int32) (M : Mem), lp_X13_copy_137 Q n x0 x1 x2 x3 x4 x5 x6 M → PW G mX13_copy (rmD 1 0 0) (QI Q) 137 [some (.ref x0), some (.int x1), some (.int x2), some (.int x3), some (.int x4), some (.int x5), some (.int x6)] [] M 0 0 := by
  intro n
  induction n with
  | zero => intro x0 x1 x2 x3 x4 x5 x6 M h; exact h.elim
  | succ n ih =>
    intro x0 x1 x2 x3 x4 x5 x6 M h
    exact (s_iload (pc := 137) dX13_copy_137 rfl (s_iload (pc := 139) dX13_copy_139 rfl (s_icmp_ge (pc := 141) (tgt := 171) dX13_copy_141 rfl (fun c58 => have h59 := h.1 c58; s_iconst (pc := 171) dX13_copy_171 ci_0 (s_istore (pc := 172) (L1 := [some (.ref x0), some (.int x1), some (.int x2), some (.int x3), some (.int x4), some (.int x5), some (.int 0)]) dX13_copy_172 (Nat.le_of_ble_eq_true rfl) rfl (Exists.elim h59 (fun n69 hn => s_sel (L1 := [some (.ref x0), none, none, some (.int x3), some (.int x4), some (.int x5), some (.int 0)]) [true, false, false, true, true, true, true] rfl (P_lp_X13_copy_174 n69 x0 x3 x4 x5 0 M hn))))) (fun c60 => have h61 := h.2 c60; s_aload_n (pc := 144) dX13_copy_144 rfl (s_getR (pc := 145) dX13_copy_145 f_X13_112 rfl h61.1 (s_iload (pc := 148) dX13_copy_148 rfl (s_aload_n (pc := 150) dX13_copy_150 rfl (s_getR (pc := 151) dX13_copy_151 f_X13_109 rfl h61.1 (s_bipush (pc := 154) dX13_copy_154 cb_100 (s_iload_n (pc := 156) dX13_copy_156 rfl (s_imul (pc := 157) dX13_copy_157 (s_iload_n (pc := 158) dX13_copy_158 rfl (s_iadd (pc := 159) dX13_copy_159 (s_iload (pc := 160) dX13_copy_160 rfl (s_iadd (pc := 162) dX13_copy_162 (s_lal (pc := 163) dX13_copy_163 h61.2.1 h61.2.2.1 (s_las (pc := 164) dX13_copy_164 h61.2.2.2.1 h61.2.2.2.2.1 (nmM (fun M70 e71 => have h72 := (h61.2.2.2.2.2) M70 e71; s_iinc (pc := 165) (L1 := [some (.ref x0), some (.int x1), some (.int x2), some (.int x3), some (.int x4), some (.int x5), some (.int (x6 + 1))]) dX13_copy_165 rfl ci_1 (Nat.le_of_ble_eq_true rfl) rfl (s_goto (pc := 168) (tgt := 137) dX13_copy_168 rfl (s_sel (L1 := [some (.ref x0), some (.int x1), some (.int x2), some (.int x3), some (.int x4), some (.int x5), some (.int (x6 + 1))]) [true, true, true, true, true, true, true] rfl (ih x0 x1 x2 x3 x4 x5 (x6 + 1) M70 h72))))))))))))))))))))))
def wp_X13_copy (p0 : Nat) (p1 : Int32) (p2 : Int32) (p3 : Int32) (p4 : Int32) (p5 : Int32) (M : Mem) (Q : Int32 → Mem → Prop) : Prop := mK M p0 = 14 ∧ ∀ M1 : Mem, M1 = uI M p0 12 0 → wp_X13_in p1.toInt64 0 7 M1 (fun r6 M5 => (r6 = (0 : Int32) → Q (-1) M5) ∧ (¬ r6 = (0 : Int32) → wp_X13_in p3.toInt64 0 7 M5 (fun r13 M12 => (¬ r13 = (0 : Int32) → mK M12 p0 = 14 ∧ mK M12 (mR M12 p0 49) = 20 ∧ vp_in p1 (mN M12 (mR M12 p0 49)) ∧ ((mI M12 (mR M12 p0 49) p1.toNatClampNeg) = (0 : Int32) → Q (-11) M12) ∧ (¬ (mI M12 (mR M12 p0 49) p1.toNatClampNeg) = (0 : Int32) → vp_in p3 (mN M12 (mR M12 p0 49)) ∧ (¬ (mI M12 (mR M12 p0 49) p3.toNatClampNeg) = (0 : Int32) → vp_in p1 (mN M12 (mR M12 p0 49)) ∧ (¬ (mI M12 (mR M12 p0 49) p1.toNatClampNeg) = (2 : Int32) → Q (-12) M12) ∧ ((mI M12 (mR M12 p0 49) p1.toNatClampNeg) = (2 : Int32) → vp_in p3 (mN M12 (mR M12 p0 49)) ∧ (¬ (mI M12 (mR M12 p0 49) p3.toNatClampNeg) = (2 : Int32) → Q (-12) M12) ∧ ((mI M12 (mR M12 p0 49) p3.toNatClampNeg) = (2 : Int32) → mK M12 (mR M12 p0 52) = 20 ∧ vp_in p1 (mN M12 (mR M12 p0 52)) ∧ vp_in p3 (mN M12 (mR M12 p0 52)) ∧ ((mI M12 (mR M12 p0 52) p1.toNatClampNeg) = (mI M12 (mR M12 p0 52) p3.toNatClampNeg) → (p5 < (0 : Int32) → Q (-13) M12) ∧ (¬ p5 < (0 : Int32) → (p2 < (0 : Int32) → Q (-13) M12) ∧ (¬ p2 < (0 : Int32) → (p4 < (0 : Int32) → Q (-13) M12) ∧ (¬ p4 < (0 : Int32) → mK M12 (mR M12 p0 53) = 20 ∧ vp_in p1 (mN M12 (mR M12 p0 53)) ∧ (((mI M12 (mR M12 p0 53) p1.toNatClampNeg) - p5) < p2 → Q (-13) M12) ∧ (¬ ((mI M12 (mR M12 p0 53) p1.toNatClampNeg) - p5) < p2 → vp_in p3 (mN M12 (mR M12 p0 53)) ∧ (p4 ≤ ((mI M12 (mR M12 p0 53) p3.toNatClampNeg) - p5) → ∃ n73 : Nat, lp_X13_copy_137 Q n73 p0 p1 p2 p3 p4 p5 0 M12) ∧ (¬ p4 ≤ ((mI M12 (mR M12 p0 53) p3.toNatClampNeg) - p5) → Q (-13) M12)))))) ∧ (¬ (mI M12 (mR M12 p0 52) p1.toNatClampNeg) = (mI M12 (mR M12 p0 52) p3.toNatClampNeg) → Q (-12) M12)))) ∧ ((mI M12 (mR M12 p0 49) p3.toNatClampNeg) = (0 : Int32) → Q (-11) M12))) ∧ (r13 = (0 : Int32) → Q (-1) M12))))
theorem T_X13_copy {G : GG} {Q : Int32 → Mem → Prop} {M : Mem} {p0 : Nat} {p1 : Int32} {p2 : Int32} {p3 : Int32} {p4 : Int32} {p5 : Int32} (h : wp_X13_copy p0 p1 p2 p3 p4 p5 M Q) : PMet G mX13_copy 1 0 0 [.ref p0, .int p1, .int p2, .int p3, .int p4, .int p5] M (QI Q) :=
  mk_met (by decide) rfl rfl (by
    intro w hw x9 e9
    subst e9
    simp at hw) (Nat.le_of_ble_eq_true rfl) (s_pad (L1 := [some (.ref p0), some (.int p1), some (.int p2), some (.int p3), some (.int p4), some (.int p5), none]) 7 rfl (s_aload_n (pc := 0) dX13_copy_0 rfl (s_iconst (pc := 1) dX13_copy_1 ci_0 (s_putI (pc := 2) dX13_copy_2 f_X13_115 (Or.inl rfl) (Or.inl rfl) h.1 (nmM (fun M1 e2 => have h3 := h.2 M1 e2; s_iload_n (pc := 5) dX13_copy_5 rfl (s_i2l (pc := 6) dX13_copy_6 (s_lconst (pc := 7) (v := 0) dX13_copy_7 rfl (s_ldc2 (pc := 8) dX13_copy_8 k_X13_273 (s_callS (pc := 11) (As := [.long p1.toInt64, .long 0, .long 7]) (rest := []) (d' := 0) (mc' := 0) (ms' := 0) dX13_copy_11 c_X13_122 rfl rfl (Nat.le_of_ble_eq_true rfl) (rm_ok rfl rfl) ⟨Nat.le_refl 0, Nat.le_refl 0⟩ (T_X13_in h3) (kkI (fun r6 M5 h4 => s_if_eq (pc := 14) (tgt := 29) dX13_copy_14 rfl (fun c7 => have h8 := h4.1 c7; s_iconst (pc := 29) dX13_copy_29 ci_m1 (s_ireturn (pc := 30) dX13_copy_30 rfl (Nat.zero_le _) (Nat.zero_le _) ⟨_, rfl, h8⟩)) (fun c9 => have h10 := h4.2 c9; s_iload_n (pc := 17) dX13_copy_17 rfl (s_i2l (pc := 18) dX13_copy_18 (s_lconst (pc := 19) (v := 0) dX13_copy_19 rfl (s_ldc2 (pc := 20) dX13_copy_20 k_X13_273 (s_callS (pc := 23) (As := [.long p3.toInt64, .long 0, .long 7]) (rest := []) (d' := 0) (mc' := 0) (ms' := 0) dX13_copy_23 c_X13_122 rfl rfl (Nat.le_of_ble_eq_true rfl) (rm_ok rfl rfl) ⟨Nat.le_refl 0, Nat.le_refl 0⟩ (T_X13_in h10) (kkI (fun r13 M12 h11 => s_if_ne (pc := 26) (tgt := 31) dX13_copy_26 rfl (fun c14 => have h15 := h11.1 c14; s_aload_n (pc := 31) dX13_copy_31 rfl (s_getR (pc := 32) dX13_copy_32 f_X13_94 rfl h15.1 (s_iload_n (pc := 35) dX13_copy_35 rfl (s_ial (pc := 36) dX13_copy_36 h15.2.1 h15.2.2.1 (s_if_eq (pc := 37) (tgt := 49) dX13_copy_37 rfl (fun c18 => have h19 := h15.2.2.2.1 c18; s_bipush (pc := 49) dX13_copy_49 cb_m11 (s_ireturn (pc := 51) dX13_copy_51 rfl (Nat.zero_le _) (Nat.zero_le _) ⟨_, rfl, h19⟩)) (fun c20 => have h21 := h15.2.2.2.2 c20; s_aload_n (pc := 40) dX13_copy_40 rfl (s_getR (pc := 41) dX13_copy_41 f_X13_94 rfl h15.1 (s_iload_n (pc := 44) dX13_copy_44 rfl (s_ial (pc := 45) dX13_copy_45 h15.2.1 h21.1 (s_if_ne (pc := 46) (tgt := 52) dX13_copy_46 rfl (fun c22 => have h23 := h21.2.1 c22; s_aload_n (pc := 52) dX13_copy_52 rfl (s_getR (pc := 53) dX13_copy_53 f_X13_94 rfl h15.1 (s_iload_n (pc := 56) dX13_copy_56 rfl (s_ial (pc := 57) dX13_copy_57 h15.2.1 h23.1 (s_iconst (pc := 58) dX13_copy_58 ci_2 (s_icmp_ne (pc := 59) (tgt := 87) dX13_copy_59 rfl (fun c26 => have h27 := h23.2.1 c26; s_bipush (pc := 87) dX13_copy_87 cb_m12 (s_ireturn (pc := 89) dX13_copy_89 rfl (Nat.zero_le _) (Nat.zero_le _) ⟨_, rfl, h27⟩)) (fun c28 => have h29 := h23.2.2 c28; s_aload_n (pc := 62) dX13_copy_62 rfl (s_getR (pc := 63) dX13_copy_63 f_X13_94 rfl h15.1 (s_iload_n (pc := 66) dX13_copy_66 rfl (s_ial (pc := 67) dX13_copy_67 h15.2.1 h29.1 (s_iconst (pc := 68) dX13_copy_68 ci_2 (s_icmp_ne (pc := 69) (tgt := 87) dX13_copy_69 rfl (fun c30 => have h31 := h29.2.1 c30; s_bipush (pc := 87) dX13_copy_87 cb_m12 (s_ireturn (pc := 89) dX13_copy_89 rfl (Nat.zero_le _) (Nat.zero_le _) ⟨_, rfl, h31⟩)) (fun c32 => have h33 := h29.2.2 c32; s_aload_n (pc := 72) dX13_copy_72 rfl (s_getR (pc := 73) dX13_copy_73 f_X13_103 rfl h15.1 (s_iload_n (pc := 76) dX13_copy_76 rfl (s_ial (pc := 77) dX13_copy_77 h33.1 h33.2.1 (s_aload_n (pc := 78) dX13_copy_78 rfl (s_getR (pc := 79) dX13_copy_79 f_X13_103 rfl h15.1 (s_iload_n (pc := 82) dX13_copy_82 rfl (s_ial (pc := 83) dX13_copy_83 h33.1 h33.2.2.1 (s_icmp_eq (pc := 84) (tgt := 90) dX13_copy_84 rfl (fun c34 => have h35 := h33.2.2.2.1 c34; s_iload (pc := 90) dX13_copy_90 rfl (s_if_lt (pc := 92) (tgt := 131) dX13_copy_92 rfl (fun c38 => have h39 := h35.1 c38; s_bipush (pc := 131) dX13_copy_131 cb_m13 (s_ireturn (pc := 133) dX13_copy_133 rfl (Nat.zero_le _) (Nat.zero_le _) ⟨_, rfl, h39⟩)) (fun c40 => have h41 := h35.2 c40; s_iload_n (pc := 95) dX13_copy_95 rfl (s_if_lt (pc := 96) (tgt := 131) dX13_copy_96 rfl (fun c42 => have h43 := h41.1 c42; s_bipush (pc := 131) dX13_copy_131 cb_m13 (s_ireturn (pc := 133) dX13_copy_133 rfl (Nat.zero_le _) (Nat.zero_le _) ⟨_, rfl, h43⟩)) (fun c44 => have h45 := h41.2 c44; s_iload (pc := 99) dX13_copy_99 rfl (s_if_lt (pc := 101) (tgt := 131) dX13_copy_101 rfl (fun c46 => have h47 := h45.1 c46; s_bipush (pc := 131) dX13_copy_131 cb_m13 (s_ireturn (pc := 133) dX13_copy_133 rfl (Nat.zero_le _) (Nat.zero_le _) ⟨_, rfl, h47⟩)) (fun c48 => have h49 := h45.2 c48; s_iload_n (pc := 104) dX13_copy_104 rfl (s_aload_n (pc := 105) dX13_copy_105 rfl (s_getR (pc := 106) dX13_copy_106 f_X13_106 rfl h15.1 (s_iload_n (pc := 109) dX13_copy_109 rfl (s_ial (pc := 110) dX13_copy_110 h49.1 h49.2.1 (s_iload (pc := 111) dX13_copy_111 rfl (s_isub (pc := 113) dX13_copy_113 (s_icmp_gt (pc := 114) (tgt := 131) dX13_copy_114 rfl (fun c50 => have h51 := h49.2.2.1 c50; s_bipush (pc := 131) dX13_copy_131 cb_m13 (s_ireturn (pc := 133) dX13_copy_133 rfl (Nat.zero_le _) (Nat.zero_le _) ⟨_, rfl, h51⟩)) (fun c52 => have h53 := h49.2.2.2 c52; s_iload (pc := 117) dX13_copy_117 rfl (s_aload_n (pc := 119) dX13_copy_119 rfl (s_getR (pc := 120) dX13_copy_120 f_X13_106 rfl h15.1 (s_iload_n (pc := 123) dX13_copy_123 rfl (s_ial (pc := 124) dX13_copy_124 h49.1 h53.1 (s_iload (pc := 125) dX13_copy_125 rfl (s_isub (pc := 127) dX13_copy_127 (s_icmp_le (pc := 128) (tgt := 134) dX13_copy_128 rfl (fun c54 => have h55 := h53.2.1 c54; s_iconst (pc := 134) dX13_copy_134 ci_0 (s_istore (pc := 135) (L1 := [some (.ref p0), some (.int p1), some (.int p2), some (.int p3), some (.int p4), some (.int p5), some (.int 0)]) dX13_copy_135 (Nat.le_of_ble_eq_true rfl) rfl (Exists.elim h55 (fun n73 hn => s_sel (L1 := [some (.ref p0), some (.int p1), some (.int p2), some (.int p3), some (.int p4), some (.int p5), some (.int 0)]) [true, true, true, true, true, true, true] rfl (P_lp_X13_copy_137 n73 p0 p1 p2 p3 p4 p5 0 M12 hn))))) (fun c56 => have h57 := h53.2.2 c56; s_bipush (pc := 131) dX13_copy_131 cb_m13 (s_ireturn (pc := 133) dX13_copy_133 rfl (Nat.zero_le _) (Nat.zero_le _) ⟨_, rfl, h57⟩)))))))))))))))))))))))) (fun c36 => have h37 := h33.2.2.2.2 c36; s_bipush (pc := 87) dX13_copy_87 cb_m12 (s_ireturn (pc := 89) dX13_copy_89 rfl (Nat.zero_le _) (Nat.zero_le _) ⟨_, rfl, h37⟩))))))))))))))))))))))) (fun c24 => have h25 := h21.2.2 c24; s_bipush (pc := 49) dX13_copy_49 cb_m11 (s_ireturn (pc := 51) dX13_copy_51 rfl (Nat.zero_le _) (Nat.zero_le _) ⟨_, rfl, h25⟩)))))))))))) (fun c16 => have h17 := h11.2 c16; s_iconst (pc := 29) dX13_copy_29 ci_m1 (s_ireturn (pc := 30) dX13_copy_30 rfl (Nat.zero_le _) (Nat.zero_le _) ⟨_, rfl, h17⟩)))))))))))))))))))))
/-! X13_count -/
theorem dX13_count_0 : cod mX13_count 0 (.aload_n 0) 1 := by decide +kernel
theorem dX13_count_1 : cod mX13_count 1 (.iconst 0) 1 := by decide +kernel
theorem dX13_count_2 : cod mX13_count 2 (.putfield 115) 3 := by decide +kernel
theorem dX13_count_5 : cod mX13_count 5 (.iload_n 1) 1 := by decide +kernel
theorem dX13_count_6 : cod mX13_count 6 (.tableswitch 68 0 5 #[38, 43, 48, 53, 58, 63]) 38 := by decide +kernel
theorem dX13_count_44 : cod mX13_count 44 (.aload_n 0) 1 := by decide +kernel
theorem dX13_count_45 : cod mX13_count 45 (.getfield 119) 3 := by decide +kernel
theorem dX13_count_48 : cod mX13_count 48 (.ireturn) 1 := by decide +kernel
theorem dX13_count_49 : cod mX13_count 49 (.aload_n 0) 1 := by decide +kernel
theorem dX13_count_50 : cod mX13_count 50 (.getfield 128) 3 := by decide +kernel
theorem dX13_count_53 : cod mX13_count 53 (.ireturn) 1 := by decide +kernel
theorem dX13_count_54 : cod mX13_count 54 (.aload_n 0) 1 := by decide +kernel
theorem dX13_count_55 : cod mX13_count 55 (.invokevirtual 131) 3 := by decide +kernel
theorem dX13_count_58 : cod mX13_count 58 (.ireturn) 1 := by decide +kernel
theorem dX13_count_59 : cod mX13_count 59 (.aload_n 0) 1 := by decide +kernel
theorem dX13_count_60 : cod mX13_count 60 (.invokevirtual 168) 3 := by decide +kernel
theorem dX13_count_63 : cod mX13_count 63 (.ireturn) 1 := by decide +kernel
theorem dX13_count_64 : cod mX13_count 64 (.aload_n 0) 1 := by decide +kernel
theorem dX13_count_65 : cod mX13_count 65 (.getfield 25) 3 := by decide +kernel
theorem dX13_count_68 : cod mX13_count 68 (.ireturn) 1 := by decide +kernel
theorem dX13_count_69 : cod mX13_count 69 (.aload_n 0) 1 := by decide +kernel
theorem dX13_count_70 : cod mX13_count 70 (.getfield 29) 3 := by decide +kernel
theorem dX13_count_73 : cod mX13_count 73 (.ireturn) 1 := by decide +kernel
theorem dX13_count_74 : cod mX13_count 74 (.iconst (-1)) 1 := by decide +kernel
theorem dX13_count_75 : cod mX13_count 75 (.ireturn) 1 := by decide +kernel
def wp_X13_count (p0 : Nat) (p1 : Int32) (M : Mem) (Q : Int32 → Mem → Prop) : Prop := mK M p0 = 14 ∧ ∀ M1 : Mem, M1 = uI M p0 12 0 → ((p1.toInt < 0 ∨ 5 < p1.toInt) → Q (-1) M1) ∧ (p1 = 0 → Q (mI M1 p0 0) M1) ∧ (p1 = 1 → Q (mI M1 p0 3) M1) ∧ (p1 = 2 → wp_X13_chancesTogether p0 M1 (fun r14 M13 => Q r14 M13)) ∧ (p1 = 3 → wp_X13_partsTogether p0 M1 (fun r19 M18 => Q r19 M18)) ∧ (p1 = 4 → Q (mI M1 p0 7) M1) ∧ (p1 = 5 → Q (mI M1 p0 9) M1)
theorem T_X13_count {G : GG} {Q : Int32 → Mem → Prop} {M : Mem} {p0 : Nat} {p1 : Int32} (h : wp_X13_count p0 p1 M Q) : PMet G mX13_count 1 0 0 [.ref p0, .int p1] M (QI Q) :=
  mk_met (by decide) rfl rfl (by
    intro w hw x9 e9
    subst e9
    simp at hw) (Nat.le_of_ble_eq_true rfl) (s_pad (L1 := [some (.ref p0), some (.int p1)]) 2 rfl (s_aload_n (pc := 0) dX13_count_0 rfl (s_iconst (pc := 1) dX13_count_1 ci_0 (s_putI (pc := 2) dX13_count_2 f_X13_115 (Or.inl rfl) (Or.inl rfl) h.1 (nmM (fun M1 e2 => have h3 := h.2 M1 e2; s_iload_n (pc := 5) dX13_count_5 rfl (s_ts (pc := 6) (tgt := 74) dX13_count_6 rfl (fun c5 => have h4 := h3.1 c5; s_iconst (pc := 74) dX13_count_74 ci_m1 (s_ireturn (pc := 75) dX13_count_75 rfl (Nat.zero_le _) (Nat.zero_le _) ⟨_, rfl, h4⟩)) (by
      intro j hx hle
      match j, hx, hle with
      | 0, hx, _ => exact ⟨38, 44, rfl, rfl, have c7 : p1 = 0 := eqI hx (by decide); have h6 := h3.2.1 c7; s_aload_n (pc := 44) dX13_count_44 rfl (s_getI (pc := 45) dX13_count_45 f_X13_119 rfl ((congrFun (congrArg mK e2) p0).trans h.1) (s_ireturn (pc := 48) dX13_count_48 rfl (Nat.zero_le _) (Nat.zero_le _) ⟨_, rfl, h6⟩))⟩
      | 1, hx, _ => exact ⟨43, 49, rfl, rfl, have c9 : p1 = 1 := eqI hx (by decide); have h8 := h3.2.2.1 c9; s_aload_n (pc := 49) dX13_count_49 rfl (s_getI (pc := 50) dX13_count_50 f_X13_128 rfl ((congrFun (congrArg mK e2) p0).trans h.1) (s_ireturn (pc := 53) dX13_count_53 rfl (Nat.zero_le _) (Nat.zero_le _) ⟨_, rfl, h8⟩))⟩
      | 2, hx, _ => exact ⟨48, 54, rfl, rfl, have c11 : p1 = 2 := eqI hx (by decide); have h10 := h3.2.2.2.1 c11; s_aload_n (pc := 54) dX13_count_54 rfl (s_callV (pc := 55) (As := []) (rest := []) (d' := 0) (mc' := 0) (ms' := 0) dX13_count_55 c_X13_131 (Nat.le_of_ble_eq_true rfl) rfl ((congrFun (congrArg mK e2) p0).trans h.1) rfl rfl (Nat.le_of_ble_eq_true rfl) (rm_ok rfl rfl) ⟨Nat.le_refl 0, Nat.le_refl 0⟩ (T_X13_chancesTogether h10) (kkI (fun r14 M13 h12 => s_ireturn (pc := 58) dX13_count_58 rfl (Nat.zero_le _) (Nat.zero_le _) ⟨_, rfl, h12⟩)))⟩
      | 3, hx, _ => exact ⟨53, 59, rfl, rfl, have c16 : p1 = 3 := eqI hx (by decide); have h15 := h3.2.2.2.2.1 c16; s_aload_n (pc := 59) dX13_count_59 rfl (s_callV (pc := 60) (As := []) (rest := []) (d' := 0) (mc' := 0) (ms' := 0) dX13_count_60 c_X13_168 (Nat.le_of_ble_eq_true rfl) rfl ((congrFun (congrArg mK e2) p0).trans h.1) rfl rfl (Nat.le_of_ble_eq_true rfl) (rm_ok rfl rfl) ⟨Nat.le_refl 0, Nat.le_refl 0⟩ (T_X13_partsTogether h15) (kkI (fun r19 M18 h17 => s_ireturn (pc := 63) dX13_count_63 rfl (Nat.zero_le _) (Nat.zero_le _) ⟨_, rfl, h17⟩)))⟩
      | 4, hx, _ => exact ⟨58, 64, rfl, rfl, have c21 : p1 = 4 := eqI hx (by decide); have h20 := h3.2.2.2.2.2.1 c21; s_aload_n (pc := 64) dX13_count_64 rfl (s_getI (pc := 65) dX13_count_65 f_X13_25 rfl ((congrFun (congrArg mK e2) p0).trans h.1) (s_ireturn (pc := 68) dX13_count_68 rfl (Nat.zero_le _) (Nat.zero_le _) ⟨_, rfl, h20⟩))⟩
      | 5, hx, _ => exact ⟨63, 69, rfl, rfl, have c23 : p1 = 5 := eqI hx (by decide); have h22 := h3.2.2.2.2.2.2 c23; s_aload_n (pc := 69) dX13_count_69 rfl (s_getI (pc := 70) dX13_count_70 f_X13_29 rfl ((congrFun (congrArg mK e2) p0).trans h.1) (s_ireturn (pc := 73) dX13_count_73 rfl (Nat.zero_le _) (Nat.zero_le _) ⟨_, rfl, h22⟩))⟩
      | jj + 6, hx, hle => exact absurd hle (by omega)))))))))
/-! X13_setChances -/
theorem dX13_setChances_0 : cod mX13_setChances 0 (.iconst 0) 1 := by decide +kernel
theorem dX13_setChances_1 : cod mX13_setChances 1 (.istore_n 1) 1 := by decide +kernel
theorem dX13_setChances_2 : cod mX13_setChances 2 (.iload_n 1) 1 := by decide +kernel
theorem dX13_setChances_3 : cod mX13_setChances 3 (.aload_n 0) 1 := by decide +kernel
theorem dX13_setChances_4 : cod mX13_setChances 4 (.getfield 119) 3 := by decide +kernel
theorem dX13_setChances_7 : cod mX13_setChances 7 (.if_icmp .ge 22) 3 := by decide +kernel
theorem dX13_setChances_10 : cod mX13_setChances 10 (.aload_n 0) 1 := by decide +kernel
theorem dX13_setChances_11 : cod mX13_setChances 11 (.getfield 51) 3 := by decide +kernel
theorem dX13_setChances_14 : cod mX13_setChances 14 (.iload_n 1) 1 := by decide +kernel
theorem dX13_setChances_15 : cod mX13_setChances 15 (.aload_n 0) 1 := by decide +kernel
theorem dX13_setChances_16 : cod mX13_setChances 16 (.getfield 7) 3 := by decide +kernel
theorem dX13_setChances_19 : cod mX13_setChances 19 (.iload_n 1) 1 := by decide +kernel
theorem dX13_setChances_20 : cod mX13_setChances 20 (.iaload) 1 := by decide +kernel
theorem dX13_setChances_21 : cod mX13_setChances 21 (.i2l) 1 := by decide +kernel
theorem dX13_setChances_22 : cod mX13_setChances 22 (.lastore) 1 := by decide +kernel
theorem dX13_setChances_23 : cod mX13_setChances 23 (.iinc 1 1) 3 := by decide +kernel
theorem dX13_setChances_26 : cod mX13_setChances 26 (.goto (-24)) 3 := by decide +kernel
theorem dX13_setChances_29 : cod mX13_setChances 29 (.return_) 1 := by decide +kernel
def lp_X13_setChances_2 (Q : Mem → Prop) : Nat → Nat → Int32 → Mem → Prop
  | 0 => fun _ _ _ => False
  | n + 1 => fun x0 x1 M => mK M x0 = 14 ∧ ((mI M x0 0) ≤ x1 → Q M) ∧ (¬ (mI M x0 0) ≤ x1 → mK M (mR M x0 1) = 20 ∧ vp_in x1 (mN M (mR M x0 1)) ∧ mK M (mR M x0 23) = 21 ∧ vp_in x1 (mN M (mR M x0 23)) ∧ ∀ M5 : Mem, M5 = uJ M (mR M x0 23) x1.toNatClampNeg ((mI M (mR M x0 1) x1.toNatClampNeg).toInt64) → (lp_X13_setChances_2 Q n) x0 (x1 + 1) M5)
theorem P_lp_X13_setChances_2 {G : GG} {Q : Mem → Prop} : ∀ (n : Nat) (x0 : Nat) (x1 : Int32) (M : Mem), lp_X13_setChances_2 Q n x0 x1 M → PW G mX13_setChances (rmD 0 0 0) (QV Q) 2 [some (.ref x0), some (.int x1)] [] M 0 0 := by
  intro n
  induction n with
  | zero => intro x0 x1 M h; exact h.elim
  | succ n ih =>
    intro x0 x1 M h
    exact (s_iload_n (pc := 2) dX13_setChances_2 rfl (s_aload_n (pc := 3) dX13_setChances_3 rfl (s_getI (pc := 4) dX13_setChances_4 f_X13_119 rfl h.1 (s_icmp_ge (pc := 7) (tgt := 29) dX13_setChances_7 rfl (fun c1 => have h2 := h.2.1 c1; s_return (pc := 29) dX13_setChances_29 rfl (Nat.zero_le _) (Nat.zero_le _) ⟨rfl, h2⟩) (fun c3 => have h4 := h.2.2 c3; s_aload_n (pc := 10) dX13_setChances_10 rfl (s_getR (pc := 11) dX13_setChances_11 f_X13_51 rfl h.1 (s_iload_n (pc := 14) dX13_setChances_14 rfl (s_aload_n (pc := 15) dX13_setChances_15 rfl (s_getR (pc := 16) dX13_setChances_16 f_X13_7 rfl h.1 (s_iload_n (pc := 19) dX13_setChances_19 rfl (s_ial (pc := 20) dX13_setChances_20 h4.1 h4.2.1 (s_i2l (pc := 21) dX13_setChances_21 (s_las (pc := 22) dX13_setChances_22 h4.2.2.1 h4.2.2.2.1 (nmM (fun M5 e6 => have h7 := (h4.2.2.2.2) M5 e6; s_iinc (pc := 23) (L1 := [some (.ref x0), some (.int (x1 + 1))]) dX13_setChances_23 rfl ci_1 (Nat.le_of_ble_eq_true rfl) rfl (s_goto (pc := 26) (tgt := 2) dX13_setChances_26 rfl (s_sel (L1 := [some (.ref x0), some (.int (x1 + 1))]) [true, true] rfl (ih x0 (x1 + 1) M5 h7))))))))))))))))))
def wp_X13_setChances (p0 : Nat) (M : Mem) (Q : Mem → Prop) : Prop := ∃ n8 : Nat, lp_X13_setChances_2 Q n8 p0 0 M
theorem T_X13_setChances {G : GG} {Q : Mem → Prop} {M : Mem} {p0 : Nat} (h : wp_X13_setChances p0 M Q) : PMet G mX13_setChances 0 0 0 [.ref p0] M (QV Q) :=
  mk_met (by decide) rfl rfl (by
    intro w hw x9 e9
    subst e9
    simp at hw) (Nat.le_of_ble_eq_true rfl) (s_pad (L1 := [some (.ref p0), none]) 2 rfl (s_iconst (pc := 0) dX13_setChances_0 ci_0 (s_istore_n (pc := 1) (L1 := [some (.ref p0), some (.int 0)]) dX13_setChances_1 (Nat.le_of_ble_eq_true rfl) rfl (Exists.elim h (fun n8 hn => s_sel (L1 := [some (.ref p0), some (.int 0)]) [true, true] rfl (P_lp_X13_setChances_2 n8 p0 0 M hn))))))
/-! X13_day -/
theorem dX13_day_0 : cod mX13_day 0 (.aload_n 0) 1 := by decide +kernel
theorem dX13_day_1 : cod mX13_day 1 (.iconst 0) 1 := by decide +kernel
theorem dX13_day_2 : cod mX13_day 2 (.putfield 115) 3 := by decide +kernel
theorem dX13_day_5 : cod mX13_day 5 (.aload_n 0) 1 := by decide +kernel
theorem dX13_day_6 : cod mX13_day 6 (.iload_n 2) 1 := by decide +kernel
theorem dX13_day_7 : cod mX13_day 7 (.invokevirtual 193) 3 := by decide +kernel
theorem dX13_day_10 : cod mX13_day 10 (.ifCond .eq 16) 3 := by decide +kernel
theorem dX13_day_13 : cod mX13_day 13 (.iload 4) 2 := by decide +kernel
theorem dX13_day_15 : cod mX13_day 15 (.i2l) 1 := by decide +kernel
theorem dX13_day_16 : cod mX13_day 16 (.lconst 0) 1 := by decide +kernel
theorem dX13_day_17 : cod mX13_day 17 (.ldc2_w 196) 3 := by decide +kernel
theorem dX13_day_20 : cod mX13_day 20 (.invokestatic 122) 3 := by decide +kernel
theorem dX13_day_23 : cod mX13_day 23 (.ifCond .ne 7) 3 := by decide +kernel
theorem dX13_day_26 : cod mX13_day 26 (.iconst (-1)) 1 := by decide +kernel
theorem dX13_day_27 : cod mX13_day 27 (.goto 8) 3 := by decide +kernel
theorem dX13_day_30 : cod mX13_day 30 (.aload_n 0) 1 := by decide +kernel
theorem dX13_day_31 : cod mX13_day 31 (.iload_n 1) 1 := by decide +kernel
theorem dX13_day_32 : cod mX13_day 32 (.invokevirtual 275) 3 := by decide +kernel
theorem dX13_day_35 : cod mX13_day 35 (.istore 5) 2 := by decide +kernel
theorem dX13_day_37 : cod mX13_day 37 (.iload 5) 2 := by decide +kernel
theorem dX13_day_39 : cod mX13_day 39 (.ifCond .ge 9) 3 := by decide +kernel
theorem dX13_day_42 : cod mX13_day 42 (.iload 5) 2 := by decide +kernel
theorem dX13_day_44 : cod mX13_day 44 (.invokestatic 258) 3 := by decide +kernel
theorem dX13_day_47 : cod mX13_day 47 (.ireturn) 1 := by decide +kernel
theorem dX13_day_48 : cod mX13_day 48 (.aload_n 0) 1 := by decide +kernel
theorem dX13_day_49 : cod mX13_day 49 (.invokevirtual 228) 3 := by decide +kernel
theorem dX13_day_52 : cod mX13_day 52 (.ifCond .ne 9) 3 := by decide +kernel
theorem dX13_day_55 : cod mX13_day 55 (.bipush (-3)) 2 := by decide +kernel
theorem dX13_day_57 : cod mX13_day 57 (.invokestatic 258) 3 := by decide +kernel
theorem dX13_day_60 : cod mX13_day 60 (.ireturn) 1 := by decide +kernel
theorem dX13_day_61 : cod mX13_day 61 (.aload_n 0) 1 := by decide +kernel
theorem dX13_day_62 : cod mX13_day 62 (.invokevirtual 278) 3 := by decide +kernel
theorem dX13_day_65 : cod mX13_day 65 (.aload_n 0) 1 := by decide +kernel
theorem dX13_day_66 : cod mX13_day 66 (.invokevirtual 285) 3 := by decide +kernel
theorem dX13_day_69 : cod mX13_day 69 (.iload_n 3) 1 := by decide +kernel
theorem dX13_day_70 : cod mX13_day 70 (.istore 6) 2 := by decide +kernel
theorem dX13_day_72 : cod mX13_day 72 (.iconst 0) 1 := by decide +kernel
theorem dX13_day_73 : cod mX13_day 73 (.istore 7) 2 := by decide +kernel
theorem dX13_day_75 : cod mX13_day 75 (.iconst 0) 1 := by decide +kernel
theorem dX13_day_76 : cod mX13_day 76 (.istore 8) 2 := by decide +kernel
theorem dX13_day_78 : cod mX13_day 78 (.iconst 0) 1 := by decide +kernel
theorem dX13_day_79 : cod mX13_day 79 (.istore 9) 2 := by decide +kernel
theorem dX13_day_81 : cod mX13_day 81 (.iconst 0) 1 := by decide +kernel
theorem dX13_day_82 : cod mX13_day 82 (.istore 10) 2 := by decide +kernel
theorem dX13_day_84 : cod mX13_day 84 (.iload 10) 2 := by decide +kernel
theorem dX13_day_86 : cod mX13_day 86 (.aload_n 0) 1 := by decide +kernel
theorem dX13_day_87 : cod mX13_day 87 (.getfield 29) 3 := by decide +kernel
theorem dX13_day_90 : cod mX13_day 90 (.if_icmp .ge 239) 3 := by decide +kernel
theorem dX13_day_93 : cod mX13_day 93 (.aload_n 0) 1 := by decide +kernel
theorem dX13_day_94 : cod mX13_day 94 (.aload_n 0) 1 := by decide +kernel
theorem dX13_day_95 : cod mX13_day 95 (.getfield 97) 3 := by decide +kernel
theorem dX13_day_98 : cod mX13_day 98 (.iload_n 1) 1 := by decide +kernel
theorem dX13_day_99 : cod mX13_day 99 (.iaload) 1 := by decide +kernel
theorem dX13_day_100 : cod mX13_day 100 (.aload_n 0) 1 := by decide +kernel
theorem dX13_day_101 : cod mX13_day 101 (.getfield 100) 3 := by decide +kernel
theorem dX13_day_104 : cod mX13_day 104 (.iload_n 1) 1 := by decide +kernel
theorem dX13_day_105 : cod mX13_day 105 (.iaload) 1 := by decide +kernel
theorem dX13_day_106 : cod mX13_day 106 (.iload 7) 2 := by decide +kernel
theorem dX13_day_108 : cod mX13_day 108 (.invokevirtual 281) 3 := by decide +kernel
theorem dX13_day_111 : cod mX13_day 111 (.aload_n 0) 1 := by decide +kernel
theorem dX13_day_112 : cod mX13_day 112 (.getfield 267) 3 := by decide +kernel
theorem dX13_day_115 : cod mX13_day 115 (.istore 11) 2 := by decide +kernel
theorem dX13_day_117 : cod mX13_day 117 (.aload_n 0) 1 := by decide +kernel
theorem dX13_day_118 : cod mX13_day 118 (.getfield 270) 3 := by decide +kernel
theorem dX13_day_121 : cod mX13_day 121 (.istore 12) 2 := by decide +kernel
theorem dX13_day_123 : cod mX13_day 123 (.iload 6) 2 := by decide +kernel
theorem dX13_day_125 : cod mX13_day 125 (.ldc_w 288) 3 := by decide +kernel
theorem dX13_day_128 : cod mX13_day 128 (.imul) 1 := by decide +kernel
theorem dX13_day_129 : cod mX13_day 129 (.sipush 12345) 3 := by decide +kernel
theorem dX13_day_132 : cod mX13_day 132 (.iadd) 1 := by decide +kernel
theorem dX13_day_133 : cod mX13_day 133 (.istore 6) 2 := by decide +kernel
theorem dX13_day_135 : cod mX13_day 135 (.iload 6) 2 := by decide +kernel
theorem dX13_day_137 : cod mX13_day 137 (.ldc_w 289) 3 := by decide +kernel
theorem dX13_day_140 : cod mX13_day 140 (.iand) 1 := by decide +kernel
theorem dX13_day_141 : cod mX13_day 141 (.ldc_w 290) 3 := by decide +kernel
theorem dX13_day_144 : cod mX13_day 144 (.idiv) 1 := by decide +kernel
theorem dX13_day_145 : cod mX13_day 145 (.bipush 100) 2 := by decide +kernel
theorem dX13_day_147 : cod mX13_day 147 (.irem) 1 := by decide +kernel
theorem dX13_day_148 : cod mX13_day 148 (.istore 13) 2 := by decide +kernel
theorem dX13_day_150 : cod mX13_day 150 (.iconst 0) 1 := by decide +kernel
theorem dX13_day_151 : cod mX13_day 151 (.istore 14) 2 := by decide +kernel
theorem dX13_day_153 : cod mX13_day 153 (.iconst 0) 1 := by decide +kernel
theorem dX13_day_154 : cod mX13_day 154 (.istore 15) 2 := by decide +kernel
theorem dX13_day_156 : cod mX13_day 156 (.iconst 0) 1 := by decide +kernel
theorem dX13_day_157 : cod mX13_day 157 (.istore 16) 2 := by decide +kernel
theorem dX13_day_159 : cod mX13_day 159 (.iconst 0) 1 := by decide +kernel
theorem dX13_day_160 : cod mX13_day 160 (.istore 17) 2 := by decide +kernel
theorem dX13_day_162 : cod mX13_day 162 (.iload 17) 2 := by decide +kernel
theorem dX13_day_164 : cod mX13_day 164 (.aload_n 0) 1 := by decide +kernel
theorem dX13_day_165 : cod mX13_day 165 (.getfield 128) 3 := by decide +kernel
theorem dX13_day_168 : cod mX13_day 168 (.if_icmp .ge 60) 3 := by decide +kernel
theorem dX13_day_171 : cod mX13_day 171 (.iload 15) 2 := by decide +kernel
theorem dX13_day_173 : cod mX13_day 173 (.aload_n 0) 1 := by decide +kernel
theorem dX13_day_174 : cod mX13_day 174 (.getfield 19) 3 := by decide +kernel
theorem dX13_day_177 : cod mX13_day 177 (.iload 17) 2 := by decide +kernel
theorem dX13_day_179 : cod mX13_day 179 (.iaload) 1 := by decide +kernel
theorem dX13_day_180 : cod mX13_day 180 (.iadd) 1 := by decide +kernel
theorem dX13_day_181 : cod mX13_day 181 (.istore 15) 2 := by decide +kernel
theorem dX13_day_183 : cod mX13_day 183 (.iload 16) 2 := by decide +kernel
theorem dX13_day_185 : cod mX13_day 185 (.ifCond .ne 37) 3 := by decide +kernel
theorem dX13_day_188 : cod mX13_day 188 (.iload 13) 2 := by decide +kernel
theorem dX13_day_190 : cod mX13_day 190 (.iload 15) 2 := by decide +kernel
theorem dX13_day_192 : cod mX13_day 192 (.if_icmp .ge 30) 3 := by decide +kernel
theorem dX13_day_195 : cod mX13_day 195 (.iconst 1) 1 := by decide +kernel
theorem dX13_day_196 : cod mX13_day 196 (.istore 16) 2 := by decide +kernel
theorem dX13_day_198 : cod mX13_day 198 (.aload_n 0) 1 := by decide +kernel
theorem dX13_day_199 : cod mX13_day 199 (.aload_n 0) 1 := by decide +kernel
theorem dX13_day_200 : cod mX13_day 200 (.iload 17) 2 := by decide +kernel
theorem dX13_day_202 : cod mX13_day 202 (.aload_n 0) 1 := by decide +kernel
theorem dX13_day_203 : cod mX13_day 203 (.getfield 13) 3 := by decide +kernel
theorem dX13_day_206 : cod mX13_day 206 (.iload_n 2) 1 := by decide +kernel
theorem dX13_day_207 : cod mX13_day 207 (.iaload) 1 := by decide +kernel
theorem dX13_day_208 : cod mX13_day 208 (.iload 11) 2 := by decide +kernel
theorem dX13_day_210 : cod mX13_day 210 (.iload 12) 2 := by decide +kernel
theorem dX13_day_212 : cod mX13_day 212 (.invokevirtual 206) 3 := by decide +kernel
theorem dX13_day_215 : cod mX13_day 215 (.iload 7) 2 := by decide +kernel
theorem dX13_day_217 : cod mX13_day 217 (.invokevirtual 210) 3 := by decide +kernel
theorem dX13_day_220 : cod mX13_day 220 (.istore 14) 2 := by decide +kernel
theorem dX13_day_222 : cod mX13_day 222 (.iinc 17 1) 3 := by decide +kernel
theorem dX13_day_225 : cod mX13_day 225 (.goto (-63)) 3 := by decide +kernel
theorem dX13_day_228 : cod mX13_day 228 (.aload_n 0) 1 := by decide +kernel
theorem dX13_day_229 : cod mX13_day 229 (.iload 14) 2 := by decide +kernel
theorem dX13_day_231 : cod mX13_day 231 (.iload 11) 2 := by decide +kernel
theorem dX13_day_233 : cod mX13_day 233 (.iload 12) 2 := by decide +kernel
theorem dX13_day_235 : cod mX13_day 235 (.iload 7) 2 := by decide +kernel
theorem dX13_day_237 : cod mX13_day 237 (.invokevirtual 237) 3 := by decide +kernel
theorem dX13_day_240 : cod mX13_day 240 (.istore 17) 2 := by decide +kernel
theorem dX13_day_242 : cod mX13_day 242 (.iload 14) 2 := by decide +kernel
theorem dX13_day_244 : cod mX13_day 244 (.iload 7) 2 := by decide +kernel
theorem dX13_day_246 : cod mX13_day 246 (.invokestatic 241) 3 := by decide +kernel
theorem dX13_day_249 : cod mX13_day 249 (.istore 7) 2 := by decide +kernel
theorem dX13_day_251 : cod mX13_day 251 (.iload 8) 2 := by decide +kernel
theorem dX13_day_253 : cod mX13_day 253 (.iload 14) 2 := by decide +kernel
theorem dX13_day_255 : cod mX13_day 255 (.iconst 1) 1 := by decide +kernel
theorem dX13_day_256 : cod mX13_day 256 (.if_icmp .ne 8) 3 := by decide +kernel
theorem dX13_day_259 : cod mX13_day 259 (.iload 12) 2 := by decide +kernel
theorem dX13_day_261 : cod mX13_day 261 (.goto 16) 3 := by decide +kernel
theorem dX13_day_264 : cod mX13_day 264 (.iload 14) 2 := by decide +kernel
theorem dX13_day_266 : cod mX13_day 266 (.iconst 2) 1 := by decide +kernel
theorem dX13_day_267 : cod mX13_day 267 (.if_icmp .ne 9) 3 := by decide +kernel
theorem dX13_day_270 : cod mX13_day 270 (.iload 11) 2 := by decide +kernel
theorem dX13_day_272 : cod mX13_day 272 (.ineg) 1 := by decide +kernel
theorem dX13_day_273 : cod mX13_day 273 (.goto 4) 3 := by decide +kernel
theorem dX13_day_276 : cod mX13_day 276 (.iconst 0) 1 := by decide +kernel
theorem dX13_day_277 : cod mX13_day 277 (.iadd) 1 := by decide +kernel
theorem dX13_day_278 : cod mX13_day 278 (.istore 8) 2 := by decide +kernel
theorem dX13_day_280 : cod mX13_day 280 (.iload 8) 2 := by decide +kernel
theorem dX13_day_282 : cod mX13_day 282 (.aload_n 0) 1 := by decide +kernel
theorem dX13_day_283 : cod mX13_day 283 (.getfield 171) 3 := by decide +kernel
theorem dX13_day_286 : cod mX13_day 286 (.iload 7) 2 := by decide +kernel
theorem dX13_day_288 : cod mX13_day 288 (.ifCond .ge 9) 3 := by decide +kernel
theorem dX13_day_291 : cod mX13_day 291 (.iload 7) 2 := by decide +kernel
theorem dX13_day_293 : cod mX13_day 293 (.ineg) 1 := by decide +kernel
theorem dX13_day_294 : cod mX13_day 294 (.goto 5) 3 := by decide +kernel
theorem dX13_day_297 : cod mX13_day 297 (.iload 7) 2 := by decide +kernel
theorem dX13_day_299 : cod mX13_day 299 (.imul) 1 := by decide +kernel
theorem dX13_day_300 : cod mX13_day 300 (.isub) 1 := by decide +kernel
theorem dX13_day_301 : cod mX13_day 301 (.istore 8) 2 := by decide +kernel
theorem dX13_day_303 : cod mX13_day 303 (.iload 9) 2 := by decide +kernel
theorem dX13_day_305 : cod mX13_day 305 (.iload 14) 2 := by decide +kernel
theorem dX13_day_307 : cod mX13_day 307 (.ifCond .le 12) 3 := by decide +kernel
theorem dX13_day_310 : cod mX13_day 310 (.iload 17) 2 := by decide +kernel
theorem dX13_day_312 : cod mX13_day 312 (.ifCond .eq 7) 3 := by decide +kernel
theorem dX13_day_315 : cod mX13_day 315 (.iconst 1) 1 := by decide +kernel
theorem dX13_day_316 : cod mX13_day 316 (.goto 4) 3 := by decide +kernel
theorem dX13_day_319 : cod mX13_day 319 (.iconst 0) 1 := by decide +kernel
theorem dX13_day_320 : cod mX13_day 320 (.iadd) 1 := by decide +kernel
theorem dX13_day_321 : cod mX13_day 321 (.istore 9) 2 := by decide +kernel
theorem dX13_day_323 : cod mX13_day 323 (.iinc 10 1) 3 := by decide +kernel
theorem dX13_day_326 : cod mX13_day 326 (.goto (-242)) 3 := by decide +kernel
theorem dX13_day_329 : cod mX13_day 329 (.iload 4) 2 := by decide +kernel
theorem dX13_day_331 : cod mX13_day 331 (.ifCond .ne 18) 3 := by decide +kernel
theorem dX13_day_334 : cod mX13_day 334 (.iload 8) 2 := by decide +kernel
theorem dX13_day_336 : cod mX13_day 336 (.iload 7) 2 := by decide +kernel
theorem dX13_day_338 : cod mX13_day 338 (.aload_n 0) 1 := by decide +kernel
theorem dX13_day_339 : cod mX13_day 339 (.getfield 13) 3 := by decide +kernel
theorem dX13_day_342 : cod mX13_day 342 (.iload_n 2) 1 := by decide +kernel
theorem dX13_day_343 : cod mX13_day 343 (.iaload) 1 := by decide +kernel
theorem dX13_day_344 : cod mX13_day 344 (.imul) 1 := by decide +kernel
theorem dX13_day_345 : cod mX13_day 345 (.iadd) 1 := by decide +kernel
theorem dX13_day_346 : cod mX13_day 346 (.goto 16) 3 := by decide +kernel
theorem dX13_day_349 : cod mX13_day 349 (.iload 4) 2 := by decide +kernel
theorem dX13_day_351 : cod mX13_day 351 (.iconst 1) 1 := by decide +kernel
theorem dX13_day_352 : cod mX13_day 352 (.if_icmp .ne 8) 3 := by decide +kernel
theorem dX13_day_355 : cod mX13_day 355 (.iload 7) 2 := by decide +kernel
theorem dX13_day_357 : cod mX13_day 357 (.goto 5) 3 := by decide +kernel
theorem dX13_day_360 : cod mX13_day 360 (.iload 9) 2 := by decide +kernel
theorem dX13_day_362 : cod mX13_day 362 (.ireturn) 1 := by decide +kernel
def jn_X13_day_320 (K84 : Nat → Int32 → Int32 → Int32 → Int32 → Int32 → Int32 → Int32 → Int32 → Mem → Prop) (Q : Int32 → Mem → Prop) (x0 : Nat) (x1 : Int32) (x2 : Int32) (x4 : Int32) (x6 : Int32) (x7 : Int32) (x8 : Int32) (x10 : Int32) (s0 : Int32) (s1 : Int32) (M : Mem) : Prop := ∀ y84 : Int32, y84 = s1 + s0 → K84 x0 x1 x2 x4 x6 x7 x8 y84 (x10 + 1) M
theorem P_jn_X13_day_320 {G : GG} {K84 : Nat → Int32 → Int32 → Int32 → Int32 → Int32 → Int32 → Int32 → Int32 → Mem → Prop} {Q : Int32 → Mem → Prop} (hK84 : ∀ (x0 : Nat) (x1 : Int32) (x2 : Int32) (x4 : Int32) (x6 : Int32) (x7 : Int32) (x8 : Int32) (x9 : Int32) (x10 : Int32) (M : Mem), K84 x0 x1 x2 x4 x6 x7 x8 x9 x10 M → PW G mX13_day (rmD 4 0 0) (QI Q) 84 [some (.ref x0), some (.int x1), some (.int x2), none, some (.int x4), none, some (.int x6), some (.int x7), some (.int x8), some (.int x9), some (.int x10), none, none, none, none, none, none, none] [] M 0 0) (x0 : Nat) (x1 : Int32) (x2 : Int32) (x4 : Int32) (x6 : Int32) (x7 : Int32) (x8 : Int32) (x10 : Int32) (s0 : Int32) (s1 : Int32) (M : Mem) (h : jn_X13_day_320 K84 Q x0 x1 x2 x4 x6 x7 x8 x10 s0 s1 M) : PW G mX13_day (rmD 4 0 0) (QI Q) 320 [some (.ref x0), some (.int x1), some (.int x2), none, some (.int x4), none, some (.int x6), some (.int x7), some (.int x8), none, some (.int x10), none, none, none, none, none, none, none] [.int s0, .int s1] M 0 0 := (s_iadd (pc := 320) dX13_day_320 (nmI (fun y84 e85 => have h86 := h y84 e85; s_istore (pc := 321) (L1 := [some (.ref x0), some (.int x1), some (.int x2), none, some (.int x4), none, some (.int x6), some (.int x7), some (.int x8), some (.int y84), some (.int x10), none, none, none, none, none, none, none]) dX13_day_321 (Nat.le_of_ble_eq_true rfl) rfl (s_iinc (pc := 323) (L1 := [some (.ref x0), some (.int x1), some (.int x2), none, some (.int x4), none, some (.int x6), some (.int x7), some (.int x8), some (.int y84), some (.int (x10 + 1)), none, none, none, none, none, none, none]) dX13_day_323 rfl ci_1 (Nat.le_of_ble_eq_true rfl) rfl (s_goto (pc := 326) (tgt := 84) dX13_day_326 rfl (s_sel (L1 := [some (.ref x0), some (.int x1), some (.int x2), none, some (.int x4), none, some (.int x6), some (.int x7), some (.int x8), some (.int y84), some (.int (x10 + 1)), none, none, none, none, none, none, none]) [true, true, true, false, true, false, true, true, true, true, true, false, false, false, false, false, false, false] rfl (hK84 x0 x1 x2 x4 x6 x7 x8 y84 (x10 + 1) M h86)))))))
def jn_X13_day_319 (K84 : Nat → Int32 → Int32 → Int32 → Int32 → Int32 → Int32 → Int32 → Int32 → Mem → Prop) (Q : Int32 → Mem → Prop) (x0 : Nat) (x1 : Int32) (x2 : Int32) (x4 : Int32) (x6 : Int32) (x7 : Int32) (x8 : Int32) (x10 : Int32) (s0 : Int32) (M : Mem) : Prop := jn_X13_day_320 K84 Q x0 x1 x2 x4 x6 x7 x8 x10 0 s0 M
theorem P_jn_X13_day_319 {G : GG} {K84 : Nat → Int32 → Int32 → Int32 → Int32 → Int32 → Int32 → Int32 → Int32 → Mem → Prop} {Q : Int32 → Mem → Prop} (hK84 : ∀ (x0 : Nat) (x1 : Int32) (x2 : Int32) (x4 : Int32) (x6 : Int32) (x7 : Int32) (x8 : Int32) (x9 : Int32) (x10 : Int32) (M : Mem), K84 x0 x1 x2 x4 x6 x7 x8 x9 x10 M → PW G mX13_day (rmD 4 0 0) (QI Q) 84 [some (.ref x0), some (.int x1), some (.int x2), none, some (.int x4), none, some (.int x6), some (.int x7), some (.int x8), some (.int x9), some (.int x10), none, none, none, none, none, none, none] [] M 0 0) (x0 : Nat) (x1 : Int32) (x2 : Int32) (x4 : Int32) (x6 : Int32) (x7 : Int32) (x8 : Int32) (x10 : Int32) (s0 : Int32) (M : Mem) (h : jn_X13_day_319 K84 Q x0 x1 x2 x4 x6 x7 x8 x10 s0 M) : PW G mX13_day (rmD 4 0 0) (QI Q) 319 [some (.ref x0), some (.int x1), some (.int x2), none, some (.int x4), none, some (.int x6), some (.int x7), some (.int x8), none, some (.int x10), none, none, none, none, none, none, none] [.int s0] M 0 0 := (s_iconst (pc := 319) dX13_day_319 ci_0 (s_sel (L1 := [some (.ref x0), some (.int x1), some (.int x2), none, some (.int x4), none, some (.int x6), some (.int x7), some (.int x8), none, some (.int x10), none, none, none, none, none, none, none]) [true, true, true, false, true, false, true, true, true, false, true, false, false, false, false, false, false, false] rfl (P_jn_X13_day_320 hK84 x0 x1 x2 x4 x6 x7 x8 x10 0 s0 M h)))
def jn_X13_day_299 (K84 : Nat → Int32 → Int32 → Int32 → Int32 → Int32 → Int32 → Int32 → Int32 → Mem → Prop) (Q : Int32 → Mem → Prop) (x0 : Nat) (x1 : Int32) (x2 : Int32) (x4 : Int32) (x6 : Int32) (x7 : Int32) (x9 : Int32) (x10 : Int32) (x14 : Int32) (x17 : Int32) (s0 : Int32) (s1 : Int32) (s2 : Int32) (M : Mem) : Prop := ∀ y77 : Int32, y77 = s2 - (s1 * s0) → (x14 ≤ (0 : Int32) → jn_X13_day_319 K84 Q x0 x1 x2 x4 x6 x7 y77 x10 x9 M) ∧ (¬ x14 ≤ (0 : Int32) → (x17 = (0 : Int32) → jn_X13_day_319 K84 Q x0 x1 x2 x4 x6 x7 y77 x10 x9 M) ∧ (¬ x17 = (0 : Int32) → jn_X13_day_320 K84 Q x0 x1 x2 x4 x6 x7 y77 x10 1 x9 M))
theorem P_jn_X13_day_299 {G : GG} {K84 : Nat → Int32 → Int32 → Int32 → Int32 → Int32 → Int32 → Int32 → Int32 → Mem → Prop} {Q : Int32 → Mem → Prop} (hK84 : ∀ (x0 : Nat) (x1 : Int32) (x2 : Int32) (x4 : Int32) (x6 : Int32) (x7 : Int32) (x8 : Int32) (x9 : Int32) (x10 : Int32) (M : Mem), K84 x0 x1 x2 x4 x6 x7 x8 x9 x10 M → PW G mX13_day (rmD 4 0 0) (QI Q) 84 [some (.ref x0), some (.int x1), some (.int x2), none, some (.int x4), none, some (.int x6), some (.int x7), some (.int x8), some (.int x9), some (.int x10), none, none, none, none, none, none, none] [] M 0 0) (x0 : Nat) (x1 : Int32) (x2 : Int32) (x4 : Int32) (x6 : Int32) (x7 : Int32) (x9 : Int32) (x10 : Int32) (x14 : Int32) (x17 : Int32) (s0 : Int32) (s1 : Int32) (s2 : Int32) (M : Mem) (h : jn_X13_day_299 K84 Q x0 x1 x2 x4 x6 x7 x9 x10 x14 x17 s0 s1 s2 M) : PW G mX13_day (rmD 4 0 0) (QI Q) 299 [some (.ref x0), some (.int x1), some (.int x2), none, some (.int x4), none, some (.int x6), some (.int x7), none, some (.int x9), some (.int x10), none, none, none, some (.int x14), none, none, some (.int x17)] [.int s0, .int s1, .int s2] M 0 0 := (s_imul (pc := 299) dX13_day_299 (s_isub (pc := 300) dX13_day_300 (nmI (fun y77 e78 => have h79 := h y77 e78; s_istore (pc := 301) (L1 := [some (.ref x0), some (.int x1), some (.int x2), none, some (.int x4), none, some (.int x6), some (.int x7), some (.int y77), some (.int x9), some (.int x10), none, none, none, some (.int x14), none, none, some (.int x17)]) dX13_day_301 (Nat.le_of_ble_eq_true rfl) rfl (s_iload (pc := 303) dX13_day_303 rfl (s_iload (pc := 305) dX13_day_305 rfl (s_if_le (pc := 307) (tgt := 319) dX13_day_307 rfl (fun c80 => have h81 := h79.1 c80; s_sel (L1 := [some (.ref x0), some (.int x1), some (.int x2), none, some (.int x4), none, some (.int x6), some (.int x7), some (.int y77), none, some (.int x10), none, none, none, none, none, none, none]) [true, true, true, false, true, false, true, true, true, false, true, false, false, false, false, false, false, false] rfl (P_jn_X13_day_319 hK84 x0 x1 x2 x4 x6 x7 y77 x10 x9 M h81)) (fun c82 => have h83 := h79.2 c82; s_iload (pc := 310) dX13_day_310 rfl (s_if_eq (pc := 312) (tgt := 319) dX13_day_312 rfl (fun c87 => have h88 := h83.1 c87; s_sel (L1 := [some (.ref x0), some (.int x1), some (.int x2), none, some (.int x4), none, some (.int x6), some (.int x7), some (.int y77), none, some (.int x10), none, none, none, none, none, none, none]) [true, true, true, false, true, false, true, true, true, false, true, false, false, false, false, false, false, false] rfl (P_jn_X13_day_319 hK84 x0 x1 x2 x4 x6 x7 y77 x10 x9 M h88)) (fun c89 => have h90 := h83.2 c89; s_iconst (pc := 315) dX13_day_315 ci_1 (s_goto (pc := 316) (tgt := 320) dX13_day_316 rfl (s_sel (L1 := [some (.ref x0), some (.int x1), some (.int x2), none, some (.int x4), none, some (.int x6), some (.int x7), some (.int y77), none, some (.int x10), none, none, none, none, none, none, none]) [true, true, true, false, true, false, true, true, true, false, true, false, false, false, false, false, false, false] rfl (P_jn_X13_day_320 hK84 x0 x1 x2 x4 x6 x7 y77 x10 1 x9 M h90)))))))))))))
def jn_X13_day_277 (K84 : Nat → Int32 → Int32 → Int32 → Int32 → Int32 → Int32 → Int32 → Int32 → Mem → Prop) (Q : Int32 → Mem → Prop) (x0 : Nat) (x1 : Int32) (x2 : Int32) (x4 : Int32) (x6 : Int32) (x7 : Int32) (x9 : Int32) (x10 : Int32) (x14 : Int32) (x17 : Int32) (s0 : Int32) (s1 : Int32) (M : Mem) : Prop := ∀ y70 : Int32, y70 = s1 + s0 → mK M x0 = 14 ∧ ((0 : Int32) ≤ x7 → jn_X13_day_299 K84 Q x0 x1 x2 x4 x6 x7 x9 x10 x14 x17 x7 (mI M x0 8) y70 M) ∧ (¬ (0 : Int32) ≤ x7 → jn_X13_day_299 K84 Q x0 x1 x2 x4 x6 x7 x9 x10 x14 x17 (-x7) (mI M x0 8) y70 M)
theorem P_jn_X13_day_277 {G : GG} {K84 : Nat → Int32 → Int32 → Int32 → Int32 → Int32 → Int32 → Int32 → Int32 → Mem → Prop} {Q : Int32 → Mem → Prop} (hK84 : ∀ (x0 : Nat) (x1 : Int32) (x2 : Int32) (x4 : Int32) (x6 : Int32) (x7 : Int32) (x8 : Int32) (x9 : Int32) (x10 : Int32) (M : Mem), K84 x0 x1 x2 x4 x6 x7 x8 x9 x10 M → PW G mX13_day (rmD 4 0 0) (QI Q) 84 [some (.ref x0), some (.int x1), some (.int x2), none, some (.int x4), none, some (.int x6), some (.int x7), some (.int x8), some (.int x9), some (.int x10), none, none, none, none, none, none, none] [] M 0 0) (x0 : Nat) (x1 : Int32) (x2 : Int32) (x4 : Int32) (x6 : Int32) (x7 : Int32) (x9 : Int32) (x10 : Int32) (x14 : Int32) (x17 : Int32) (s0 : Int32) (s1 : Int32) (M : Mem) (h : jn_X13_day_277 K84 Q x0 x1 x2 x4 x6 x7 x9 x10 x14 x17 s0 s1 M) : PW G mX13_day (rmD 4 0 0) (QI Q) 277 [some (.ref x0), some (.int x1), some (.int x2), none, some (.int x4), none, some (.int x6), some (.int x7), none, some (.int x9), some (.int x10), none, none, none, some (.int x14), none, none, some (.int x17)] [.int s0, .int s1] M 0 0 := (s_iadd (pc := 277) dX13_day_277 (nmI (fun y70 e71 => have h72 := h y70 e71; s_istore (pc := 278) (L1 := [some (.ref x0), some (.int x1), some (.int x2), none, some (.int x4), none, some (.int x6), some (.int x7), some (.int y70), some (.int x9), some (.int x10), none, none, none, some (.int x14), none, none, some (.int x17)]) dX13_day_278 (Nat.le_of_ble_eq_true rfl) rfl (s_iload (pc := 280) dX13_day_280 rfl (s_aload_n (pc := 282) dX13_day_282 rfl (s_getI (pc := 283) dX13_day_283 f_X13_171 rfl h72.1 (s_iload (pc := 286) dX13_day_286 rfl (s_if_ge (pc := 288) (tgt := 297) dX13_day_288 rfl (fun c73 => have h74 := h72.2.1 c73; s_iload (pc := 297) dX13_day_297 rfl (s_sel (L1 := [some (.ref x0), some (.int x1), some (.int x2), none, some (.int x4), none, some (.int x6), some (.int x7), none, some (.int x9), some (.int x10), none, none, none, some (.int x14), none, none, some (.int x17)]) [true, true, true, false, true, false, true, true, false, true, true, false, false, false, true, false, false, true] rfl (P_jn_X13_day_299 hK84 x0 x1 x2 x4 x6 x7 x9 x10 x14 x17 x7 (mI M x0 8) y70 M h74))) (fun c75 => have h76 := h72.2.2 c75; s_iload (pc := 291) dX13_day_291 rfl (s_ineg (pc := 293) dX13_day_293 (s_goto (pc := 294) (tgt := 299) dX13_day_294 rfl (s_sel (L1 := [some (.ref x0), some (.int x1), some (.int x2), none, some (.int x4), none, some (.int x6), some (.int x7), none, some (.int x9), some (.int x10), none, none, none, some (.int x14), none, none, some (.int x17)]) [true, true, true, false, true, false, true, true, false, true, true, false, false, false, true, false, false, true] rfl (P_jn_X13_day_299 hK84 x0 x1 x2 x4 x6 x7 x9 x10 x14 x17 (-x7) (mI M x0 8) y70 M h76)))))))))))))
def jn_X13_day_222 (K84 : Nat → Int32 → Int32 → Int32 → Int32 → Int32 → Int32 → Int32 → Int32 → Mem → Prop) (K162 : Nat → Int32 → Int32 → Int32 → Int32 → Int32 → Int32 → Int32 → Int32 → Int32 → Int32 → Int32 → Int32 → Int32 → Int32 → Int32 → Mem → Prop) (Q : Int32 → Mem → Prop) (x0 : Nat) (x1 : Int32) (x2 : Int32) (x4 : Int32) (x6 : Int32) (x7 : Int32) (x8 : Int32) (x9 : Int32) (x10 : Int32) (x11 : Int32) (x12 : Int32) (x13 : Int32) (x14 : Int32) (x15 : Int32) (x16 : Int32) (x17 : Int32) (M : Mem) : Prop := K162 x0 x1 x2 x4 x6 x7 x8 x9 x10 x11 x12 x13 x14 x15 x16 (x17 + 1) M
theorem P_jn_X13_day_222 {G : GG} {K84 : Nat → Int32 → Int32 → Int32 → Int32 → Int32 → Int32 → Int32 → Int32 → Mem → Prop} {K162 : Nat → Int32 → Int32 → Int32 → Int32 → Int32 → Int32 → Int32 → Int32 → Int32 → Int32 → Int32 → Int32 → Int32 → Int32 → Int32 → Mem → Prop} {Q : Int32 → Mem → Prop} (hK84 : ∀ (x0 : Nat) (x1 : Int32) (x2 : Int32) (x4 : Int32) (x6 : Int32) (x7 : Int32) (x8 : Int32) (x9 : Int32) (x10 : Int32) (M : Mem), K84 x0 x1 x2 x4 x6 x7 x8 x9 x10 M → PW G mX13_day (rmD 4 0 0) (QI Q) 84 [some (.ref x0), some (.int x1), some (.int x2), none, some (.int x4), none, some (.int x6), some (.int x7), some (.int x8), some (.int x9), some (.int x10), none, none, none, none, none, none, none] [] M 0 0) (hK162 : ∀ (x0 : Nat) (x1 : Int32) (x2 : Int32) (x4 : Int32) (x6 : Int32) (x7 : Int32) (x8 : Int32) (x9 : Int32) (x10 : Int32) (x11 : Int32) (x12 : Int32) (x13 : Int32) (x14 : Int32) (x15 : Int32) (x16 : Int32) (x17 : Int32) (M : Mem), K162 x0 x1 x2 x4 x6 x7 x8 x9 x10 x11 x12 x13 x14 x15 x16 x17 M → PW G mX13_day (rmD 4 0 0) (QI Q) 162 [some (.ref x0), some (.int x1), some (.int x2), none, some (.int x4), none, some (.int x6), some (.int x7), some (.int x8), some (.int x9), some (.int x10), some (.int x11), some (.int x12), some (.int x13), some (.int x14), some (.int x15), some (.int x16), some (.int x17)] [] M 0 0) (x0 : Nat) (x1 : Int32) (x2 : Int32) (x4 : Int32) (x6 : Int32) (x7 : Int32) (x8 : Int32) (x9 : Int32) (x10 : Int32) (x11 : Int32) (x12 : Int32) (x13 : Int32) (x14 : Int32) (x15 : Int32) (x16 : Int32) (x17 : Int32) (M : Mem) (h : jn_X13_day_222 K84 K162 Q x0 x1 x2 x4 x6 x7 x8 x9 x10 x11 x12 x13 x14 x15 x16 x17 M) : PW G mX13_day (rmD 4 0 0) (QI Q) 222 [some (.ref x0), some (.int x1), some (.int x2), none, some (.int x4), none, some (.int x6), some (.int x7), some (.int x8), some (.int x9), some (.int x10), some (.int x11), some (.int x12), some (.int x13), some (.int x14), some (.int x15), some (.int x16), some (.int x17)] [] M 0 0 := (s_iinc (pc := 222) (L1 := [some (.ref x0), some (.int x1), some (.int x2), none, some (.int x4), none, some (.int x6), some (.int x7), some (.int x8), some (.int x9), some (.int x10), some (.int x11), some (.int x12), some (.int x13), some (.int x14), some (.int x15), some (.int x16), some (.int (x17 + 1))]) dX13_day_222 rfl ci_1 (Nat.le_of_ble_eq_true rfl) rfl (s_goto (pc := 225) (tgt := 162) dX13_day_225 rfl (s_sel (L1 := [some (.ref x0), some (.int x1), some (.int x2), none, some (.int x4), none, some (.int x6), some (.int x7), some (.int x8), some (.int x9), some (.int x10), some (.int x11), some (.int x12), some (.int x13), some (.int x14), some (.int x15), some (.int x16), some (.int (x17 + 1))]) [true, true, true, false, true, false, true, true, true, true, true, true, true, true, true, true, true, true] rfl (hK162 x0 x1 x2 x4 x6 x7 x8 x9 x10 x11 x12 x13 x14 x15 x16 (x17 + 1) M h))))
def lp_X13_day_162 (K84 : Nat → Int32 → Int32 → Int32 → Int32 → Int32 → Int32 → Int32 → Int32 → Mem → Prop) (Q : Int32 → Mem → Prop) : Nat → Nat → Int32 → Int32 → Int32 → Int32 → Int32 → Int32 → Int32 → Int32 → Int32 → Int32 → Int32 → Int32 → Int32 → Int32 → Int32 → Mem → Prop
  | 0 => fun _ _ _ _ _ _ _ _ _ _ _ _ _ _ _ _ _ => False
  | n + 1 => fun x0 x1 x2 x4 x6 x7 x8 x9 x10 x11 x12 x13 x14 x15 x16 x17 M => mK M x0 = 14 ∧ ((mI M x0 3) ≤ x17 → wp_X13_goesOn x0 x14 x11 x12 x7 M (fun r58 M57 => wp_X13_heldBy x14 x7 M57 (fun r61 M60 => (¬ x14 = (1 : Int32) → (¬ x14 = (2 : Int32) → jn_X13_day_277 K84 Q x0 x1 x2 x4 x6 r61 x9 x10 x14 r58 0 x8 M60) ∧ (x14 = (2 : Int32) → jn_X13_day_277 K84 Q x0 x1 x2 x4 x6 r61 x9 x10 x14 r58 (-x11) x8 M60)) ∧ (x14 = (1 : Int32) → jn_X13_day_277 K84 Q x0 x1 x2 x4 x6 r61 x9 x10 x14 r58 x12 x8 M60)))) ∧ (¬ (mI M x0 3) ≤ x17 → mK M (mR M x0 5) = 20 ∧ vp_in x17 (mN M (mR M x0 5)) ∧ ∀ y91 : Int32, y91 = x15 + (mI M (mR M x0 5) x17.toNatClampNeg) → (¬ x16 = (0 : Int32) → jn_X13_day_222 K84 (fun fx0 fx1 fx2 fx4 fx6 fx7 fx8 fx9 fx10 fx11 fx12 fx13 fx14 fx15 fx16 fx17 fM => lp_X13_day_162 K84 Q n fx0 fx1 fx2 fx4 fx6 fx7 fx8 fx9 fx10 fx11 fx12 fx13 fx14 fx15 fx16 fx17 fM) Q x0 x1 x2 x4 x6 x7 x8 x9 x10 x11 x12 x13 x14 y91 x16 x17 M) ∧ (x16 = (0 : Int32) → (y91 ≤ x13 → jn_X13_day_222 K84 (fun fx0 fx1 fx2 fx4 fx6 fx7 fx8 fx9 fx10 fx11 fx12 fx13 fx14 fx15 fx16 fx17 fM => lp_X13_day_162 K84 Q n fx0 fx1 fx2 fx4 fx6 fx7 fx8 fx9 fx10 fx11 fx12 fx13 fx14 fx15 fx16 fx17 fM) Q x0 x1 x2 x4 x6 x7 x8 x9 x10 x11 x12 x13 x14 y91 x16 x17 M) ∧ (¬ y91 ≤ x13 → mK M (mR M x0 2) = 20 ∧ vp_in x2 (mN M (mR M x0 2)) ∧ wp_X13_dealt x0 x17 (mI M (mR M x0 2) x2.toNatClampNeg) x11 x12 M (fun r104 M103 => mK M103 x0 = 14 ∧ wp_X13_allowed x0 r104 x7 M103 (fun r107 M106 => jn_X13_day_222 K84 (fun fx0 fx1 fx2 fx4 fx6 fx7 fx8 fx9 fx10 fx11 fx12 fx13 fx14 fx15 fx16 fx17 fM => lp_X13_day_162 K84 Q n fx0 fx1 fx2 fx4 fx6 fx7 fx8 fx9 fx10 fx11 fx12 fx13 fx14 fx15 fx16 fx17 fM) Q x0 x1 x2 x4 x6 x7 x8 x9 x10 x11 x12 x13 r107 y91 1 x17 M106)))))
theorem P_lp_X13_day_162 {G : GG} {K84 : Nat → Int32 → Int32 → Int32 → Int32 → Int32 → Int32 → Int32 → Int32 → Mem → Prop} {Q : Int32 → Mem → Prop} (hK84 : ∀ (x0 : Nat) (x1 : Int32) (x2 : Int32) (x4 : Int32) (x6 : Int32) (x7 : Int32) (x8 : Int32) (x9 : Int32) (x10 : Int32) (M : Mem), K84 x0 x1 x2 x4 x6 x7 x8 x9 x10 M → PW G mX13_day (rmD 4 0 0) (QI Q) 84 [some (.ref x0), some (.int x1), some (.int x2), none, some (.int x4), none, some (.int x6), some (.int x7), some (.int x8), some (.int x9), some (.int x10), none, none, none, none, none, none, none] [] M 0 0) : ∀ (n : Nat) (x0 : Nat) (x1 : Int32) (x2 : Int32) (x4 : Int32) (x6 : Int32) (x7 : Int32) (x8 : Int32) (x9 : Int32) (x10 : Int32) (x11 : Int32) (x12 : Int32) (x13 : Int32) (x14 : Int32) (x15 : Int32) (x16 : Int32) (x17 : Int32) (M : Mem), lp_X13_day_162 K84 Q n x0 x1 x2 x4 x6 x7 x8 x9 x10 x11 x12 x13 x14 x15 x16 x17 M → PW G mX13_day (rmD 4 0 0) (QI Q) 162 [some (.ref x0), some (.int x1), some (.int x2), none, some (.int x4), none, some (.int x6), some (.int x7), some (.int x8), some (.int x9), some (.int x10), some (.int x11), some (.int x12), some (.int x13), some (.int x14), some (.int x15), some (.int x16), some (.int x17)] [] M 0 0 := by
  intro n
  induction n with
  | zero => intro x0 x1 x2 x4 x6 x7 x8 x9 x10 x11 x12 x13 x14 x15 x16 x17 M h; exact h.elim
  | succ n ih =>
    intro x0 x1 x2 x4 x6 x7 x8 x9 x10 x11 x12 x13 x14 x15 x16 x17 M h
    exact (s_iload (pc := 162) dX13_day_162 rfl (s_aload_n (pc := 164) dX13_day_164 rfl (s_getI (pc := 165) dX13_day_165 f_X13_128 rfl h.1 (s_icmp_ge (pc := 168) (tgt := 228) dX13_day_168 rfl (fun c52 => have h53 := h.2.1 c52; s_aload_n (pc := 228) dX13_day_228 rfl (s_iload (pc := 229) dX13_day_229 rfl (s_iload (pc := 231) dX13_day_231 rfl (s_iload (pc := 233) dX13_day_233 rfl (s_iload (pc := 235) dX13_day_235 rfl (s_callV (pc := 237) (As := [.int x14, .int x11, .int x12, .int x7]) (rest := []) (d' := 2) (mc' := 0) (ms' := 0) dX13_day_237 c_X13_237 (Nat.le_of_ble_eq_true rfl) rfl h.1 rfl rfl (Nat.le_of_ble_eq_true rfl) (rm_ok rfl rfl) ⟨Nat.le_refl 0, Nat.le_refl 0⟩ (T_X13_goesOn h53) (kkI (fun r58 M57 h56 => s_istore (pc := 240) (L1 := [some (.ref x0), some (.int x1), some (.int x2), none, some (.int x4), none, some (.int x6), some (.int x7), some (.int x8), some (.int x9), some (.int x10), some (.int x11), some (.int x12), some (.int x13), some (.int x14), some (.int x15), some (.int x16), some (.int r58)]) dX13_day_240 (Nat.le_of_ble_eq_true rfl) rfl (s_iload (pc := 242) dX13_day_242 rfl (s_iload (pc := 244) dX13_day_244 rfl (s_callS (pc := 246) (As := [.int x14, .int x7]) (rest := []) (d' := 0) (mc' := 0) (ms' := 0) dX13_day_246 c_X13_241 rfl rfl (Nat.le_of_ble_eq_true rfl) (rm_ok rfl rfl) ⟨Nat.le_refl 0, Nat.le_refl 0⟩ (T_X13_heldBy h56) (kkI (fun r61 M60 h59 => s_istore (pc := 249) (L1 := [some (.ref x0), some (.int x1), some (.int x2), none, some (.int x4), none, some (.int x6), some (.int r61), some (.int x8), some (.int x9), some (.int x10), some (.int x11), some (.int x12), some (.int x13), some (.int x14), some (.int x15), some (.int x16), some (.int r58)]) dX13_day_249 (Nat.le_of_ble_eq_true rfl) rfl (s_iload (pc := 251) dX13_day_251 rfl (s_iload (pc := 253) dX13_day_253 rfl (s_iconst (pc := 255) dX13_day_255 ci_1 (s_icmp_ne (pc := 256) (tgt := 264) dX13_day_256 rfl (fun c62 => have h63 := h59.1 c62; s_iload (pc := 264) dX13_day_264 rfl (s_iconst (pc := 266) dX13_day_266 ci_2 (s_icmp_ne (pc := 267) (tgt := 276) dX13_day_267 rfl (fun c66 => have h67 := h63.1 c66; s_iconst (pc := 276) dX13_day_276 ci_0 (s_sel (L1 := [some (.ref x0), some (.int x1), some (.int x2), none, some (.int x4), none, some (.int x6), some (.int r61), none, some (.int x9), some (.int x10), none, none, none, some (.int x14), none, none, some (.int r58)]) [true, true, true, false, true, false, true, true, false, true, true, false, false, false, true, false, false, true] rfl (P_jn_X13_day_277 hK84 x0 x1 x2 x4 x6 r61 x9 x10 x14 r58 0 x8 M60 h67))) (fun c68 => have h69 := h63.2 c68; s_iload (pc := 270) dX13_day_270 rfl (s_ineg (pc := 272) dX13_day_272 (s_goto (pc := 273) (tgt := 277) dX13_day_273 rfl (s_sel (L1 := [some (.ref x0), some (.int x1), some (.int x2), none, some (.int x4), none, some (.int x6), some (.int r61), none, some (.int x9), some (.int x10), none, none, none, some (.int x14), none, none, some (.int r58)]) [true, true, true, false, true, false, true, true, false, true, true, false, false, false, true, false, false, true] rfl (P_jn_X13_day_277 hK84 x0 x1 x2 x4 x6 r61 x9 x10 x14 r58 (-x11) x8 M60 h69)))))))) (fun c64 => have h65 := h59.2 c64; s_iload (pc := 259) dX13_day_259 rfl (s_goto (pc := 261) (tgt := 277) dX13_day_261 rfl (s_sel (L1 := [some (.ref x0), some (.int x1), some (.int x2), none, some (.int x4), none, some (.int x6), some (.int r61), none, some (.int x9), some (.int x10), none, none, none, some (.int x14), none, none, some (.int r58)]) [true, true, true, false, true, false, true, true, false, true, true, false, false, false, true, false, false, true] rfl (P_jn_X13_day_277 hK84 x0 x1 x2 x4 x6 r61 x9 x10 x14 r58 x12 x8 M60 h65))))))))))))))))))))) (fun c54 => have h55 := h.2.2 c54; s_iload (pc := 171) dX13_day_171 rfl (s_aload_n (pc := 173) dX13_day_173 rfl (s_getR (pc := 174) dX13_day_174 f_X13_19 rfl h.1 (s_iload (pc := 177) dX13_day_177 rfl (s_ial (pc := 179) dX13_day_179 h55.1 h55.2.1 (s_iadd (pc := 180) dX13_day_180 (nmI (fun y91 e92 => have h93 := h55.2.2 y91 e92; s_istore (pc := 181) (L1 := [some (.ref x0), some (.int x1), some (.int x2), none, some (.int x4), none, some (.int x6), some (.int x7), some (.int x8), some (.int x9), some (.int x10), some (.int x11), some (.int x12), some (.int x13), some (.int x14), some (.int y91), some (.int x16), some (.int x17)]) dX13_day_181 (Nat.le_of_ble_eq_true rfl) rfl (s_iload (pc := 183) dX13_day_183 rfl (s_if_ne (pc := 185) (tgt := 222) dX13_day_185 rfl (fun c94 => have h95 := h93.1 c94; s_sel (L1 := [some (.ref x0), some (.int x1), some (.int x2), none, some (.int x4), none, some (.int x6), some (.int x7), some (.int x8), some (.int x9), some (.int x10), some (.int x11), some (.int x12), some (.int x13), some (.int x14), some (.int y91), some (.int x16), some (.int x17)]) [true, true, true, false, true, false, true, true, true, true, true, true, true, true, true, true, true, true] rfl (P_jn_X13_day_222 hK84 ih x0 x1 x2 x4 x6 x7 x8 x9 x10 x11 x12 x13 x14 y91 x16 x17 M h95)) (fun c96 => have h97 := h93.2 c96; s_iload (pc := 188) dX13_day_188 rfl (s_iload (pc := 190) dX13_day_190 rfl (s_icmp_ge (pc := 192) (tgt := 222) dX13_day_192 rfl (fun c98 => have h99 := h97.1 c98; s_sel (L1 := [some (.ref x0), some (.int x1), some (.int x2), none, some (.int x4), none, some (.int x6), some (.int x7), some (.int x8), some (.int x9), some (.int x10), some (.int x11), some (.int x12), some (.int x13), some (.int x14), some (.int y91), some (.int x16), some (.int x17)]) [true, true, true, false, true, false, true, true, true, true, true, true, true, true, true, true, true, true] rfl (P_jn_X13_day_222 hK84 ih x0 x1 x2 x4 x6 x7 x8 x9 x10 x11 x12 x13 x14 y91 x16 x17 M h99)) (fun c100 => have h101 := h97.2 c100; s_iconst (pc := 195) dX13_day_195 ci_1 (s_istore (pc := 196) (L1 := [some (.ref x0), some (.int x1), some (.int x2), none, some (.int x4), none, some (.int x6), some (.int x7), some (.int x8), some (.int x9), some (.int x10), some (.int x11), some (.int x12), some (.int x13), some (.int x14), some (.int y91), some (.int 1), some (.int x17)]) dX13_day_196 (Nat.le_of_ble_eq_true rfl) rfl (s_aload_n (pc := 198) dX13_day_198 rfl (s_aload_n (pc := 199) dX13_day_199 rfl (s_iload (pc := 200) dX13_day_200 rfl (s_aload_n (pc := 202) dX13_day_202 rfl (s_getR (pc := 203) dX13_day_203 f_X13_13 rfl h.1 (s_iload_n (pc := 206) dX13_day_206 rfl (s_ial (pc := 207) dX13_day_207 h101.1 h101.2.1 (s_iload (pc := 208) dX13_day_208 rfl (s_iload (pc := 210) dX13_day_210 rfl (s_callV (pc := 212) (As := [.int x17, .int (mI M (mR M x0 2) x2.toNatClampNeg), .int x11, .int x12]) (rest := [.ref x0]) (d' := 0) (mc' := 0) (ms' := 0) dX13_day_212 c_X13_206 (Nat.le_of_ble_eq_true rfl) rfl h.1 rfl rfl (Nat.le_of_ble_eq_true rfl) (rm_ok rfl rfl) ⟨Nat.le_refl 0, Nat.le_refl 0⟩ (T_X13_dealt h101.2.2) (kkI (fun r104 M103 h102 => s_iload (pc := 215) dX13_day_215 rfl (s_callV (pc := 217) (As := [.int r104, .int x7]) (rest := []) (d' := 0) (mc' := 0) (ms' := 0) dX13_day_217 c_X13_210 (Nat.le_of_ble_eq_true rfl) rfl h102.1 rfl rfl (Nat.le_of_ble_eq_true rfl) (rm_ok rfl rfl) ⟨Nat.le_refl 0, Nat.le_refl 0⟩ (T_X13_allowed h102.2) (kkI (fun r107 M106 h105 => s_istore (pc := 220) (L1 := [some (.ref x0), some (.int x1), some (.int x2), none, some (.int x4), none, some (.int x6), some (.int x7), some (.int x8), some (.int x9), some (.int x10), some (.int x11), some (.int x12), some (.int x13), some (.int r107), some (.int y91), some (.int 1), some (.int x17)]) dX13_day_220 (Nat.le_of_ble_eq_true rfl) rfl (s_sel (L1 := [some (.ref x0), some (.int x1), some (.int x2), none, some (.int x4), none, some (.int x6), some (.int x7), some (.int x8), some (.int x9), some (.int x10), some (.int x11), some (.int x12), some (.int x13), some (.int r107), some (.int y91), some (.int 1), some (.int x17)]) [true, true, true, false, true, false, true, true, true, true, true, true, true, true, true, true, true, true] rfl (P_jn_X13_day_222 hK84 ih x0 x1 x2 x4 x6 x7 x8 x9 x10 x11 x12 x13 r107 y91 1 x17 M106 h105))))))))))))))))))))))))))))))))))))
def lp_X13_day_84 (Q : Int32 → Mem → Prop) : Nat → Nat → Int32 → Int32 → Int32 → Int32 → Int32 → Int32 → Int32 → Int32 → Mem → Prop
  | 0 => fun _ _ _ _ _ _ _ _ _ _ => False
  | n + 1 => fun x0 x1 x2 x4 x6 x7 x8 x9 x10 M => mK M x0 = 14 ∧ ((mI M x0 9) ≤ x10 → (¬ x4 = (0 : Int32) → (¬ x4 = (1 : Int32) → Q x9 M) ∧ (x4 = (1 : Int32) → Q x7 M)) ∧ (x4 = (0 : Int32) → mK M (mR M x0 2) = 20 ∧ vp_in x2 (mN M (mR M x0 2)) ∧ Q (x8 + (x7 * (mI M (mR M x0 2) x2.toNatClampNeg))) M)) ∧ (¬ (mI M x0 9) ≤ x10 → mK M (mR M x0 50) = 20 ∧ vp_in x1 (mN M (mR M x0 50)) ∧ mK M (mR M x0 51) = 20 ∧ vp_in x1 (mN M (mR M x0 51)) ∧ wp_X13_call x0 (mI M (mR M x0 50) x1.toNatClampNeg) (mI M (mR M x0 51) x1.toNatClampNeg) x7 M (fun M39 => mK M39 x0 = 14 ∧ ∀ y40 : Int32, y40 = mI M39 x0 24 → ∀ y43 : Int32, y43 = mI M39 x0 25 → ∀ y46 : Int32, y46 = (x6 * 1103515245) + 12345 → ∀ y49 : Int32, y49 = ((y46 &&& 2147483647) / 65536) - ((y46 &&& 2147483647) / 65536) / 100 * 100 → ∃ n108 : Nat, lp_X13_day_162 (fun fx0 fx1 fx2 fx4 fx6 fx7 fx8 fx9 fx10 fM => lp_X13_day_84 Q n fx0 fx1 fx2 fx4 fx6 fx7 fx8 fx9 fx10 fM) Q n108 x0 x1 x2 x4 y46 x7 x8 x9 x10 y40 y43 y49 0 0 0 0 M39))
theorem P_lp_X13_day_84 {G : GG} {Q : Int32 → Mem → Prop} : ∀ (n : Nat) (x0 : Nat) (x1 : Int32) (x2 : Int32) (x4 : Int32) (x6 : Int32) (x7 : Int32) (x8 : Int32) (x9 : Int32) (x10 : Int32) (M : Mem), lp_X13_day_84 Q n x0 x1 x2 x4 x6 x7 x8 x9 x10 M → PW G mX13_day (rmD 4 0 0) (QI Q) 84 [some (.ref x0), some (.int x1), some (.int x2), none, some (.int x4), none, some (.int x6), some (.int x7), some (.int x8), some (.int x9), some (.int x10), none, none, none, none, none, none, none] [] M 0 0 := by
  intro n
  induction n with
  | zero => intro x0 x1 x2 x4 x6 x7 x8 x9 x10 M h; exact h.elim
  | succ n ih =>
    intro x0 x1 x2 x4 x6 x7 x8 x9 x10 M h
    exact (s_iload (pc := 84) dX13_day_84 rfl (s_aload_n (pc := 86) dX13_day_86 rfl (s_getI (pc := 87) dX13_day_87 f_X13_29 rfl h.1 (s_icmp_ge (pc := 90) (tgt := 329) dX13_day_90 rfl (fun c26 => have h27 := h.2.1 c26; s_iload (pc := 329) dX13_day_329 rfl (s_if_ne (pc := 331) (tgt := 349) dX13_day_331 rfl (fun c30 => have h31 := h27.1 c30; s_iload (pc := 349) dX13_day_349 rfl (s_iconst (pc := 351) dX13_day_351 ci_1 (s_icmp_ne (pc := 352) (tgt := 360) dX13_day_352 rfl (fun c34 => have h35 := h31.1 c34; s_iload (pc := 360) dX13_day_360 rfl (s_ireturn (pc := 362) dX13_day_362 rfl (Nat.zero_le _) (Nat.zero_le _) ⟨_, rfl, h35⟩)) (fun c36 => have h37 := h31.2 c36; s_iload (pc := 355) dX13_day_355 rfl (s_goto (pc := 357) (tgt := 362) dX13_day_357 rfl (s_ireturn (pc := 362) dX13_day_362 rfl (Nat.zero_le _) (Nat.zero_le _) ⟨_, rfl, h37⟩)))))) (fun c32 => have h33 := h27.2 c32; s_iload (pc := 334) dX13_day_334 rfl (s_iload (pc := 336) dX13_day_336 rfl (s_aload_n (pc := 338) dX13_day_338 rfl (s_getR (pc := 339) dX13_day_339 f_X13_13 rfl h.1 (s_iload_n (pc := 342) dX13_day_342 rfl (s_ial (pc := 343) dX13_day_343 h33.1 h33.2.1 (s_imul (pc := 344) dX13_day_344 (s_iadd (pc := 345) dX13_day_345 (s_goto (pc := 346) (tgt := 362) dX13_day_346 rfl (s_ireturn (pc := 362) dX13_day_362 rfl (Nat.zero_le _) (Nat.zero_le _) ⟨_, rfl, h33.2.2⟩)))))))))))) (fun c28 => have h29 := h.2.2 c28; s_aload_n (pc := 93) dX13_day_93 rfl (s_aload_n (pc := 94) dX13_day_94 rfl (s_getR (pc := 95) dX13_day_95 f_X13_97 rfl h.1 (s_iload_n (pc := 98) dX13_day_98 rfl (s_ial (pc := 99) dX13_day_99 h29.1 h29.2.1 (s_aload_n (pc := 100) dX13_day_100 rfl (s_getR (pc := 101) dX13_day_101 f_X13_100 rfl h.1 (s_iload_n (pc := 104) dX13_day_104 rfl (s_ial (pc := 105) dX13_day_105 h29.2.2.1 h29.2.2.2.1 (s_iload (pc := 106) dX13_day_106 rfl (s_callV (pc := 108) (As := [.int (mI M (mR M x0 50) x1.toNatClampNeg), .int (mI M (mR M x0 51) x1.toNatClampNeg), .int x7]) (rest := []) (d' := 3) (mc' := 0) (ms' := 0) dX13_day_108 c_X13_281 (Nat.le_of_ble_eq_true rfl) rfl h.1 rfl rfl (Nat.le_of_ble_eq_true rfl) (rm_ok rfl rfl) ⟨Nat.le_refl 0, Nat.le_refl 0⟩ (T_X13_call h29.2.2.2.2) (kkV (fun M39 h38 => s_aload_n (pc := 111) dX13_day_111 rfl (s_getI (pc := 112) dX13_day_112 f_X13_267 rfl h38.1 (nmI (fun y40 e41 => have h42 := h38.2 y40 e41; s_istore (pc := 115) (L1 := [some (.ref x0), some (.int x1), some (.int x2), none, some (.int x4), none, some (.int x6), some (.int x7), some (.int x8), some (.int x9), some (.int x10), some (.int y40), none, none, none, none, none, none]) dX13_day_115 (Nat.le_of_ble_eq_true rfl) rfl (s_aload_n (pc := 117) dX13_day_117 rfl (s_getI (pc := 118) dX13_day_118 f_X13_270 rfl h38.1 (nmI (fun y43 e44 => have h45 := h42 y43 e44; s_istore (pc := 121) (L1 := [some (.ref x0), some (.int x1), some (.int x2), none, some (.int x4), none, some (.int x6), some (.int x7), some (.int x8), some (.int x9), some (.int x10), some (.int y40), some (.int y43), none, none, none, none, none]) dX13_day_121 (Nat.le_of_ble_eq_true rfl) rfl (s_iload (pc := 123) dX13_day_123 rfl (s_ldc_w (pc := 125) dX13_day_125 k_X13_288 (s_imul (pc := 128) dX13_day_128 (s_sipush (pc := 129) dX13_day_129 cs_12345 (s_iadd (pc := 132) dX13_day_132 (nmI (fun y46 e47 => have h48 := h45 y46 e47; s_istore (pc := 133) (L1 := [some (.ref x0), some (.int x1), some (.int x2), none, some (.int x4), none, some (.int y46), some (.int x7), some (.int x8), some (.int x9), some (.int x10), some (.int y40), some (.int y43), none, none, none, none, none]) dX13_day_133 (Nat.le_of_ble_eq_true rfl) rfl (s_iload (pc := 135) dX13_day_135 rfl (s_ldc_w (pc := 137) dX13_day_137 k_X13_289 (s_iand (pc := 140) dX13_day_140 (s_ldc_w (pc := 141) dX13_day_141 k_X13_290 (s_idiv (pc := 144) dX13_day_144 (by decide) (s_bipush (pc := 145) dX13_day_145 cb_100 (s_irem (pc := 147) dX13_day_147 (by decide) (nmI (fun y49 e50 => have h51 := h48 y49 e50; s_istore (pc := 148) (L1 := [some (.ref x0), some (.int x1), some (.int x2), none, some (.int x4), none, some (.int y46), some (.int x7), some (.int x8), some (.int x9), some (.int x10), some (.int y40), some (.int y43), some (.int y49), none, none, none, none]) dX13_day_148 (Nat.le_of_ble_eq_true rfl) rfl (s_iconst (pc := 150) dX13_day_150 ci_0 (s_istore (pc := 151) (L1 := [some (.ref x0), some (.int x1), some (.int x2), none, some (.int x4), none, some (.int y46), some (.int x7), some (.int x8), some (.int x9), some (.int x10), some (.int y40), some (.int y43), some (.int y49), some (.int 0), none, none, none]) dX13_day_151 (Nat.le_of_ble_eq_true rfl) rfl (s_iconst (pc := 153) dX13_day_153 ci_0 (s_istore (pc := 154) (L1 := [some (.ref x0), some (.int x1), some (.int x2), none, some (.int x4), none, some (.int y46), some (.int x7), some (.int x8), some (.int x9), some (.int x10), some (.int y40), some (.int y43), some (.int y49), some (.int 0), some (.int 0), none, none]) dX13_day_154 (Nat.le_of_ble_eq_true rfl) rfl (s_iconst (pc := 156) dX13_day_156 ci_0 (s_istore (pc := 157) (L1 := [some (.ref x0), some (.int x1), some (.int x2), none, some (.int x4), none, some (.int y46), some (.int x7), some (.int x8), some (.int x9), some (.int x10), some (.int y40), some (.int y43), some (.int y49), some (.int 0), some (.int 0), some (.int 0), none]) dX13_day_157 (Nat.le_of_ble_eq_true rfl) rfl (s_iconst (pc := 159) dX13_day_159 ci_0 (s_istore (pc := 160) (L1 := [some (.ref x0), some (.int x1), some (.int x2), none, some (.int x4), none, some (.int y46), some (.int x7), some (.int x8), some (.int x9), some (.int x10), some (.int y40), some (.int y43), some (.int y49), some (.int 0), some (.int 0), some (.int 0), some (.int 0)]) dX13_day_160 (Nat.le_of_ble_eq_true rfl) rfl (Exists.elim h51 (fun n108 hn => s_sel (L1 := [some (.ref x0), some (.int x1), some (.int x2), none, some (.int x4), none, some (.int y46), some (.int x7), some (.int x8), some (.int x9), some (.int x10), some (.int y40), some (.int y43), some (.int y49), some (.int 0), some (.int 0), some (.int 0), some (.int 0)]) [true, true, true, false, true, false, true, true, true, true, true, true, true, true, true, true, true, true] rfl (P_lp_X13_day_162 ih n108 x0 x1 x2 x4 y46 x7 x8 x9 x10 y40 y43 y49 0 0 0 0 M39 hn)))))))))))))))))))))))))))))))))))))))))))))))))))
def jn_X13_day_35 (Q : Int32 → Mem → Prop) (x0 : Nat) (x1 : Int32) (x2 : Int32) (x3 : Int32) (x4 : Int32) (s0 : Int32) (M : Mem) : Prop := ((0 : Int32) ≤ s0 → mK M x0 = 14 ∧ wp_X13_isReady x0 M (fun r17 M16 => (¬ r17 = (0 : Int32) → mK M16 x0 = 14 ∧ wp_X13_findChanceMean x0 M16 (fun M23 => mK M23 x0 = 14 ∧ wp_X13_setChances x0 M23 (fun M25 => ∃ n109 : Nat, lp_X13_day_84 Q n109 x0 x1 x2 x4 x3 0 0 0 0 M25))) ∧ (r17 = (0 : Int32) → wp_X13_far (-3) M16 (fun r112 M111 => Q r112 M111)))) ∧ (¬ (0 : Int32) ≤ s0 → wp_X13_far s0 M (fun r115 M114 => Q r115 M114))
theorem P_jn_X13_day_35 {G : GG} {Q : Int32 → Mem → Prop} (x0 : Nat) (x1 : Int32) (x2 : Int32) (x3 : Int32) (x4 : Int32) (s0 : Int32) (M : Mem) (h : jn_X13_day_35 Q x0 x1 x2 x3 x4 s0 M) : PW G mX13_day (rmD 4 0 0) (QI Q) 35 [some (.ref x0), some (.int x1), some (.int x2), some (.int x3), some (.int x4), none, none, none, none, none, none, none, none, none, none, none, none, none] [.int s0] M 0 0 := (s_istore (pc := 35) (L1 := [some (.ref x0), some (.int x1), some (.int x2), some (.int x3), some (.int x4), some (.int s0), none, none, none, none, none, none, none, none, none, none, none, none]) dX13_day_35 (Nat.le_of_ble_eq_true rfl) rfl (s_iload (pc := 37) dX13_day_37 rfl (s_if_ge (pc := 39) (tgt := 48) dX13_day_39 rfl (fun c11 => have h12 := h.1 c11; s_aload_n (pc := 48) dX13_day_48 rfl (s_callV (pc := 49) (As := []) (rest := []) (d' := 1) (mc' := 0) (ms' := 0) dX13_day_49 c_X13_228 (Nat.le_of_ble_eq_true rfl) rfl h12.1 rfl rfl (Nat.le_of_ble_eq_true rfl) (rm_ok rfl rfl) ⟨Nat.le_refl 0, Nat.le_refl 0⟩ (T_X13_isReady h12.2) (kkI (fun r17 M16 h15 => s_if_ne (pc := 52) (tgt := 61) dX13_day_52 rfl (fun c18 => have h19 := h15.1 c18; s_aload_n (pc := 61) dX13_day_61 rfl (s_callV (pc := 62) (As := []) (rest := []) (d' := 0) (mc' := 0) (ms' := 0) dX13_day_62 c_X13_278 (Nat.le_of_ble_eq_true rfl) rfl h19.1 rfl rfl (Nat.le_of_ble_eq_true rfl) (rm_ok rfl rfl) ⟨Nat.le_refl 0, Nat.le_refl 0⟩ (T_X13_findChanceMean h19.2) (kkV (fun M23 h22 => s_aload_n (pc := 65) dX13_day_65 rfl (s_callV (pc := 66) (As := []) (rest := []) (d' := 0) (mc' := 0) (ms' := 0) dX13_day_66 c_X13_285 (Nat.le_of_ble_eq_true rfl) rfl h22.1 rfl rfl (Nat.le_of_ble_eq_true rfl) (rm_ok rfl rfl) ⟨Nat.le_refl 0, Nat.le_refl 0⟩ (T_X13_setChances h22.2) (kkV (fun M25 h24 => s_iload_n (pc := 69) dX13_day_69 rfl (s_istore (pc := 70) (L1 := [some (.ref x0), some (.int x1), some (.int x2), some (.int x3), some (.int x4), some (.int s0), some (.int x3), none, none, none, none, none, none, none, none, none, none, none]) dX13_day_70 (Nat.le_of_ble_eq_true rfl) rfl (s_iconst (pc := 72) dX13_day_72 ci_0 (s_istore (pc := 73) (L1 := [some (.ref x0), some (.int x1), some (.int x2), some (.int x3), some (.int x4), some (.int s0), some (.int x3), some (.int 0), none, none, none, none, none, none, none, none, none, none]) dX13_day_73 (Nat.le_of_ble_eq_true rfl) rfl (s_iconst (pc := 75) dX13_day_75 ci_0 (s_istore (pc := 76) (L1 := [some (.ref x0), some (.int x1), some (.int x2), some (.int x3), some (.int x4), some (.int s0), some (.int x3), some (.int 0), some (.int 0), none, none, none, none, none, none, none, none, none]) dX13_day_76 (Nat.le_of_ble_eq_true rfl) rfl (s_iconst (pc := 78) dX13_day_78 ci_0 (s_istore (pc := 79) (L1 := [some (.ref x0), some (.int x1), some (.int x2), some (.int x3), some (.int x4), some (.int s0), some (.int x3), some (.int 0), some (.int 0), some (.int 0), none, none, none, none, none, none, none, none]) dX13_day_79 (Nat.le_of_ble_eq_true rfl) rfl (s_iconst (pc := 81) dX13_day_81 ci_0 (s_istore (pc := 82) (L1 := [some (.ref x0), some (.int x1), some (.int x2), some (.int x3), some (.int x4), some (.int s0), some (.int x3), some (.int 0), some (.int 0), some (.int 0), some (.int 0), none, none, none, none, none, none, none]) dX13_day_82 (Nat.le_of_ble_eq_true rfl) rfl (Exists.elim h24 (fun n109 hn => s_sel (L1 := [some (.ref x0), some (.int x1), some (.int x2), none, some (.int x4), none, some (.int x3), some (.int 0), some (.int 0), some (.int 0), some (.int 0), none, none, none, none, none, none, none]) [true, true, true, false, true, false, true, true, true, true, true, false, false, false, false, false, false, false] rfl (P_lp_X13_day_84 n109 x0 x1 x2 x4 x3 0 0 0 0 M25 hn))))))))))))))))))) (fun c20 => have h21 := h15.2 c20; s_bipush (pc := 55) dX13_day_55 cb_m3 (s_callS (pc := 57) (As := [.int (-3)]) (rest := []) (d' := 0) (mc' := 0) (ms' := 0) dX13_day_57 c_X13_258 rfl rfl (Nat.le_of_ble_eq_true rfl) (rm_ok rfl rfl) ⟨Nat.le_refl 0, Nat.le_refl 0⟩ (T_X13_far h21) (kkI (fun r112 M111 h110 => s_ireturn (pc := 60) dX13_day_60 rfl (Nat.zero_le _) (Nat.zero_le _) ⟨_, rfl, h110⟩)))))))) (fun c13 => have h14 := h.2 c13; s_iload (pc := 42) dX13_day_42 rfl (s_callS (pc := 44) (As := [.int s0]) (rest := []) (d' := 0) (mc' := 0) (ms' := 0) dX13_day_44 c_X13_258 rfl rfl (Nat.le_of_ble_eq_true rfl) (rm_ok rfl rfl) ⟨Nat.le_refl 0, Nat.le_refl 0⟩ (T_X13_far h14) (kkI (fun r115 M114 h113 => s_ireturn (pc := 47) dX13_day_47 rfl (Nat.zero_le _) (Nat.zero_le _) ⟨_, rfl, h113⟩)))))))
def jn_X13_day_26 (Q : Int32 → Mem → Prop) (x0 : Nat) (x1 : Int32) (x2 : Int32) (x3 : Int32) (x4 : Int32) (M : Mem) : Prop := jn_X13_day_35 Q x0 x1 x2 x3 x4 (-1) M
theorem P_jn_X13_day_26 {G : GG} {Q : Int32 → Mem → Prop} (x0 : Nat) (x1 : Int32) (x2 : Int32) (x3 : Int32) (x4 : Int32) (M : Mem) (h : jn_X13_day_26 Q x0 x1 x2 x3 x4 M) : PW G mX13_day (rmD 4 0 0) (QI Q) 26 [some (.ref x0), some (.int x1), some (.int x2), some (.int x3), some (.int x4), none, none, none, none, none, none, none, none, none, none, none, none, none] [] M 0 0 := (s_iconst (pc := 26) dX13_day_26 ci_m1 (s_goto (pc := 27) (tgt := 35) dX13_day_27 rfl (s_sel (L1 := [some (.ref x0), some (.int x1), some (.int x2), some (.int x3), some (.int x4), none, none, none, none, none, none, none, none, none, none, none, none, none]) [true, true, true, true, true, false, false, false, false, false, false, false, false, false, false, false, false, false] rfl (P_jn_X13_day_35 x0 x1 x2 x3 x4 (-1) M h))))
def wp_X13_day (p0 : Nat) (p1 : Int32) (p2 : Int32) (p3 : Int32) (p4 : Int32) (M : Mem) (Q : Int32 → Mem → Prop) : Prop := mK M p0 = 14 ∧ ∀ M1 : Mem, M1 = uI M p0 12 0 → wp_X13_isWorth p0 p2 M1 (fun r6 M5 => (r6 = (0 : Int32) → jn_X13_day_26 Q p0 p1 p2 p3 p4 M5) ∧ (¬ r6 = (0 : Int32) → wp_X13_in p4.toInt64 0 2 M5 (fun r118 M117 => (¬ r118 = (0 : Int32) → mK M117 p0 = 14 ∧ wp_X13_wrongWay p0 p1 M117 (fun r125 M124 => jn_X13_day_35 Q p0 p1 p2 p3 p4 r125 M124)) ∧ (r118 = (0 : Int32) → jn_X13_day_26 Q p0 p1 p2 p3 p4 M117))))
theorem T_X13_day {G : GG} {Q : Int32 → Mem → Prop} {M : Mem} {p0 : Nat} {p1 : Int32} {p2 : Int32} {p3 : Int32} {p4 : Int32} (h : wp_X13_day p0 p1 p2 p3 p4 M Q) : PMet G mX13_day 4 0 0 [.ref p0, .int p1, .int p2, .int p3, .int p4] M (QI Q) :=
  mk_met (by decide) rfl rfl (by
    intro w hw x9 e9
    subst e9
    simp at hw) (Nat.le_of_ble_eq_true rfl) (s_pad (L1 := [some (.ref p0), some (.int p1), some (.int p2), some (.int p3), some (.int p4), none, none, none, none, none, none, none, none, none, none, none, none, none]) 18 rfl (s_aload_n (pc := 0) dX13_day_0 rfl (s_iconst (pc := 1) dX13_day_1 ci_0 (s_putI (pc := 2) dX13_day_2 f_X13_115 (Or.inl rfl) (Or.inl rfl) h.1 (nmM (fun M1 e2 => have h3 := h.2 M1 e2; s_aload_n (pc := 5) dX13_day_5 rfl (s_iload_n (pc := 6) dX13_day_6 rfl (s_callV (pc := 7) (As := [.int p2]) (rest := []) (d' := 1) (mc' := 0) (ms' := 0) dX13_day_7 c_X13_193 (Nat.le_of_ble_eq_true rfl) rfl ((congrFun (congrArg mK e2) p0).trans h.1) rfl rfl (Nat.le_of_ble_eq_true rfl) (rm_ok rfl rfl) ⟨Nat.le_refl 0, Nat.le_refl 0⟩ (T_X13_isWorth h3) (kkI (fun r6 M5 h4 => s_if_eq (pc := 10) (tgt := 26) dX13_day_10 rfl (fun c7 => have h8 := h4.1 c7; s_sel (L1 := [some (.ref p0), some (.int p1), some (.int p2), some (.int p3), some (.int p4), none, none, none, none, none, none, none, none, none, none, none, none, none]) [true, true, true, true, true, false, false, false, false, false, false, false, false, false, false, false, false, false] rfl (P_jn_X13_day_26 p0 p1 p2 p3 p4 M5 h8)) (fun c9 => have h10 := h4.2 c9; s_iload (pc := 13) dX13_day_13 rfl (s_i2l (pc := 15) dX13_day_15 (s_lconst (pc := 16) (v := 0) dX13_day_16 rfl (s_ldc2 (pc := 17) dX13_day_17 k_X13_196 (s_callS (pc := 20) (As := [.long p4.toInt64, .long 0, .long 2]) (rest := []) (d' := 0) (mc' := 0) (ms' := 0) dX13_day_20 c_X13_122 rfl rfl (Nat.le_of_ble_eq_true rfl) (rm_ok rfl rfl) ⟨Nat.le_refl 0, Nat.le_refl 0⟩ (T_X13_in h10) (kkI (fun r118 M117 h116 => s_if_ne (pc := 23) (tgt := 30) dX13_day_23 rfl (fun c119 => have h120 := h116.1 c119; s_aload_n (pc := 30) dX13_day_30 rfl (s_iload_n (pc := 31) dX13_day_31 rfl (s_callV (pc := 32) (As := [.int p1]) (rest := []) (d' := 1) (mc' := 0) (ms' := 0) dX13_day_32 c_X13_275 (Nat.le_of_ble_eq_true rfl) rfl h120.1 rfl rfl (Nat.le_of_ble_eq_true rfl) (rm_ok rfl rfl) ⟨Nat.le_refl 0, Nat.le_refl 0⟩ (T_X13_wrongWay h120.2) (kkI (fun r125 M124 h123 => s_sel (L1 := [some (.ref p0), some (.int p1), some (.int p2), some (.int p3), some (.int p4), none, none, none, none, none, none, none, none, none, none, none, none, none]) [true, true, true, true, true, false, false, false, false, false, false, false, false, false, false, false, false, false] rfl (P_jn_X13_day_35 p0 p1 p2 p3 p4 r125 M124 h123)))))) (fun c121 => have h122 := h116.2 c121; s_sel (L1 := [some (.ref p0), some (.int p1), some (.int p2), some (.int p3), some (.int p4), none, none, none, none, none, none, none, none, none, none, none, none, none]) [true, true, true, true, true, false, false, false, false, false, false, false, false, false, false, false, false, false] rfl (P_jn_X13_day_26 p0 p1 p2 p3 p4 M117 h122)))))))))))))))))))
/-! X13_does -/
theorem dX13_does_0 : cod mX13_does 0 (.aload_n 0) 1 := by decide +kernel
theorem dX13_does_1 : cod mX13_does 1 (.iconst 0) 1 := by decide +kernel
theorem dX13_does_2 : cod mX13_does 2 (.putfield 115) 3 := by decide +kernel
theorem dX13_does_5 : cod mX13_does 5 (.iload_n 1) 1 := by decide +kernel
theorem dX13_does_6 : cod mX13_does 6 (.i2l) 1 := by decide +kernel
theorem dX13_does_7 : cod mX13_does 7 (.lconst 0) 1 := by decide +kernel
theorem dX13_does_8 : cod mX13_does 8 (.aload_n 0) 1 := by decide +kernel
theorem dX13_does_9 : cod mX13_does 9 (.getfield 128) 3 := by decide +kernel
theorem dX13_does_12 : cod mX13_does 12 (.iconst 1) 1 := by decide +kernel
theorem dX13_does_13 : cod mX13_does 13 (.isub) 1 := by decide +kernel
theorem dX13_does_14 : cod mX13_does 14 (.i2l) 1 := by decide +kernel
theorem dX13_does_15 : cod mX13_does 15 (.invokestatic 122) 3 := by decide +kernel
theorem dX13_does_18 : cod mX13_does 18 (.ifCond .eq 37) 3 := by decide +kernel
theorem dX13_does_21 : cod mX13_does 21 (.aload_n 0) 1 := by decide +kernel
theorem dX13_does_22 : cod mX13_does 22 (.iload_n 2) 1 := by decide +kernel
theorem dX13_does_23 : cod mX13_does 23 (.invokevirtual 193) 3 := by decide +kernel
theorem dX13_does_26 : cod mX13_does 26 (.ifCond .eq 29) 3 := by decide +kernel
theorem dX13_does_29 : cod mX13_does 29 (.iload_n 3) 1 := by decide +kernel
theorem dX13_does_30 : cod mX13_does 30 (.iload 4) 2 := by decide +kernel
theorem dX13_does_32 : cod mX13_does 32 (.invokestatic 202) 3 := by decide +kernel
theorem dX13_does_35 : cod mX13_does 35 (.ifCond .eq 20) 3 := by decide +kernel
theorem dX13_does_38 : cod mX13_does 38 (.aload_n 0) 1 := by decide +kernel
theorem dX13_does_39 : cod mX13_does 39 (.iload_n 1) 1 := by decide +kernel
theorem dX13_does_40 : cod mX13_does 40 (.aload_n 0) 1 := by decide +kernel
theorem dX13_does_41 : cod mX13_does 41 (.getfield 13) 3 := by decide +kernel
theorem dX13_does_44 : cod mX13_does 44 (.iload_n 2) 1 := by decide +kernel
theorem dX13_does_45 : cod mX13_does 45 (.iaload) 1 := by decide +kernel
theorem dX13_does_46 : cod mX13_does 46 (.iload_n 3) 1 := by decide +kernel
theorem dX13_does_47 : cod mX13_does 47 (.iload 4) 2 := by decide +kernel
theorem dX13_does_49 : cod mX13_does 49 (.invokevirtual 206) 3 := by decide +kernel
theorem dX13_does_52 : cod mX13_does 52 (.goto 4) 3 := by decide +kernel
theorem dX13_does_55 : cod mX13_does 55 (.iconst (-1)) 1 := by decide +kernel
theorem dX13_does_56 : cod mX13_does 56 (.ireturn) 1 := by decide +kernel
def wp_X13_does (p0 : Nat) (p1 : Int32) (p2 : Int32) (p3 : Int32) (p4 : Int32) (M : Mem) (Q : Int32 → Mem → Prop) : Prop := mK M p0 = 14 ∧ ∀ M1 : Mem, M1 = uI M p0 12 0 → wp_X13_in p1.toInt64 0 (((mI M1 p0 3) - 1).toInt64) M1 (fun r6 M5 => (r6 = (0 : Int32) → Q (-1) M5) ∧ (¬ r6 = (0 : Int32) → mK M5 p0 = 14 ∧ wp_X13_isWorth p0 p2 M5 (fun r13 M12 => (r13 = (0 : Int32) → Q (-1) M12) ∧ (¬ r13 = (0 : Int32) → wp_X13_isSlate p3 p4 M12 (fun r20 M19 => (r20 = (0 : Int32) → Q (-1) M19) ∧ (¬ r20 = (0 : Int32) → mK M19 p0 = 14 ∧ mK M19 (mR M19 p0 2) = 20 ∧ vp_in p2 (mN M19 (mR M19 p0 2)) ∧ wp_X13_dealt p0 p1 (mI M19 (mR M19 p0 2) p2.toNatClampNeg) p3 p4 M19 (fun r27 M26 => Q r27 M26)))))))
theorem T_X13_does {G : GG} {Q : Int32 → Mem → Prop} {M : Mem} {p0 : Nat} {p1 : Int32} {p2 : Int32} {p3 : Int32} {p4 : Int32} (h : wp_X13_does p0 p1 p2 p3 p4 M Q) : PMet G mX13_does 2 0 0 [.ref p0, .int p1, .int p2, .int p3, .int p4] M (QI Q) :=
  mk_met (by decide) rfl rfl (by
    intro w hw x9 e9
    subst e9
    simp at hw) (Nat.le_of_ble_eq_true rfl) (s_pad (L1 := [some (.ref p0), some (.int p1), some (.int p2), some (.int p3), some (.int p4)]) 5 rfl (s_aload_n (pc := 0) dX13_does_0 rfl (s_iconst (pc := 1) dX13_does_1 ci_0 (s_putI (pc := 2) dX13_does_2 f_X13_115 (Or.inl rfl) (Or.inl rfl) h.1 (nmM (fun M1 e2 => have h3 := h.2 M1 e2; s_iload_n (pc := 5) dX13_does_5 rfl (s_i2l (pc := 6) dX13_does_6 (s_lconst (pc := 7) (v := 0) dX13_does_7 rfl (s_aload_n (pc := 8) dX13_does_8 rfl (s_getI (pc := 9) dX13_does_9 f_X13_128 rfl ((congrFun (congrArg mK e2) p0).trans h.1) (s_iconst (pc := 12) dX13_does_12 ci_1 (s_isub (pc := 13) dX13_does_13 (s_i2l (pc := 14) dX13_does_14 (s_callS (pc := 15) (As := [.long p1.toInt64, .long 0, .long (((mI M1 p0 3) - 1).toInt64)]) (rest := []) (d' := 0) (mc' := 0) (ms' := 0) dX13_does_15 c_X13_122 rfl rfl (Nat.le_of_ble_eq_true rfl) (rm_ok rfl rfl) ⟨Nat.le_refl 0, Nat.le_refl 0⟩ (T_X13_in h3) (kkI (fun r6 M5 h4 => s_if_eq (pc := 18) (tgt := 55) dX13_does_18 rfl (fun c7 => have h8 := h4.1 c7; s_iconst (pc := 55) dX13_does_55 ci_m1 (s_ireturn (pc := 56) dX13_does_56 rfl (Nat.zero_le _) (Nat.zero_le _) ⟨_, rfl, h8⟩)) (fun c9 => have h10 := h4.2 c9; s_aload_n (pc := 21) dX13_does_21 rfl (s_iload_n (pc := 22) dX13_does_22 rfl (s_callV (pc := 23) (As := [.int p2]) (rest := []) (d' := 1) (mc' := 0) (ms' := 0) dX13_does_23 c_X13_193 (Nat.le_of_ble_eq_true rfl) rfl h10.1 rfl rfl (Nat.le_of_ble_eq_true rfl) (rm_ok rfl rfl) ⟨Nat.le_refl 0, Nat.le_refl 0⟩ (T_X13_isWorth h10.2) (kkI (fun r13 M12 h11 => s_if_eq (pc := 26) (tgt := 55) dX13_does_26 rfl (fun c14 => have h15 := h11.1 c14; s_iconst (pc := 55) dX13_does_55 ci_m1 (s_ireturn (pc := 56) dX13_does_56 rfl (Nat.zero_le _) (Nat.zero_le _) ⟨_, rfl, h15⟩)) (fun c16 => have h17 := h11.2 c16; s_iload_n (pc := 29) dX13_does_29 rfl (s_iload (pc := 30) dX13_does_30 rfl (s_callS (pc := 32) (As := [.int p3, .int p4]) (rest := []) (d' := 1) (mc' := 0) (ms' := 0) dX13_does_32 c_X13_202 rfl rfl (Nat.le_of_ble_eq_true rfl) (rm_ok rfl rfl) ⟨Nat.le_refl 0, Nat.le_refl 0⟩ (T_X13_isSlate h17) (kkI (fun r20 M19 h18 => s_if_eq (pc := 35) (tgt := 55) dX13_does_35 rfl (fun c21 => have h22 := h18.1 c21; s_iconst (pc := 55) dX13_does_55 ci_m1 (s_ireturn (pc := 56) dX13_does_56 rfl (Nat.zero_le _) (Nat.zero_le _) ⟨_, rfl, h22⟩)) (fun c23 => have h24 := h18.2 c23; s_aload_n (pc := 38) dX13_does_38 rfl (s_iload_n (pc := 39) dX13_does_39 rfl (s_aload_n (pc := 40) dX13_does_40 rfl (s_getR (pc := 41) dX13_does_41 f_X13_13 rfl h24.1 (s_iload_n (pc := 44) dX13_does_44 rfl (s_ial (pc := 45) dX13_does_45 h24.2.1 h24.2.2.1 (s_iload_n (pc := 46) dX13_does_46 rfl (s_iload (pc := 47) dX13_does_47 rfl (s_callV (pc := 49) (As := [.int p1, .int (mI M19 (mR M19 p0 2) p2.toNatClampNeg), .int p3, .int p4]) (rest := []) (d' := 0) (mc' := 0) (ms' := 0) dX13_does_49 c_X13_206 (Nat.le_of_ble_eq_true rfl) rfl h24.1 rfl rfl (Nat.le_of_ble_eq_true rfl) (rm_ok rfl rfl) ⟨Nat.le_refl 0, Nat.le_refl 0⟩ (T_X13_dealt h24.2.2.2) (kkI (fun r27 M26 h25 => s_goto (pc := 52) (tgt := 56) dX13_does_52 rfl (s_ireturn (pc := 56) dX13_does_56 rfl (Nat.zero_le _) (Nat.zero_le _) ⟨_, rfl, h25⟩))))))))))))))))))))))))))))))))))))))
/-! X13_element -/
theorem dX13_element_0 : cod mX13_element 0 (.aload_n 0) 1 := by decide +kernel
theorem dX13_element_1 : cod mX13_element 1 (.iload_n 1) 1 := by decide +kernel
theorem dX13_element_2 : cod mX13_element 2 (.invokevirtual 176) 3 := by decide +kernel
theorem dX13_element_5 : cod mX13_element 5 (.istore_n 3) 1 := by decide +kernel
theorem dX13_element_6 : cod mX13_element 6 (.aload_n 0) 1 := by decide +kernel
theorem dX13_element_7 : cod mX13_element 7 (.iload_n 3) 1 := by decide +kernel
theorem dX13_element_8 : cod mX13_element 8 (.iconst (-1)) 1 := by decide +kernel
theorem dX13_element_9 : cod mX13_element 9 (.if_icmp .ne 7) 3 := by decide +kernel
theorem dX13_element_12 : cod mX13_element 12 (.iconst 1) 1 := by decide +kernel
theorem dX13_element_13 : cod mX13_element 13 (.goto 30) 3 := by decide +kernel
theorem dX13_element_16 : cod mX13_element 16 (.iload_n 3) 1 := by decide +kernel
theorem dX13_element_17 : cod mX13_element 17 (.ifCond .lt 21) 3 := by decide +kernel
theorem dX13_element_20 : cod mX13_element 20 (.iload_n 2) 1 := by decide +kernel
theorem dX13_element_21 : cod mX13_element 21 (.i2l) 1 := by decide +kernel
theorem dX13_element_22 : cod mX13_element 22 (.lconst 0) 1 := by decide +kernel
theorem dX13_element_23 : cod mX13_element 23 (.aload_n 0) 1 := by decide +kernel
theorem dX13_element_24 : cod mX13_element 24 (.getfield 106) 3 := by decide +kernel
theorem dX13_element_27 : cod mX13_element 27 (.iload_n 1) 1 := by decide +kernel
theorem dX13_element_28 : cod mX13_element 28 (.iaload) 1 := by decide +kernel
theorem dX13_element_29 : cod mX13_element 29 (.iconst 1) 1 := by decide +kernel
theorem dX13_element_30 : cod mX13_element 30 (.isub) 1 := by decide +kernel
theorem dX13_element_31 : cod mX13_element 31 (.i2l) 1 := by decide +kernel
theorem dX13_element_32 : cod mX13_element 32 (.invokestatic 122) 3 := by decide +kernel
theorem dX13_element_35 : cod mX13_element 35 (.ifCond .ne 7) 3 := by decide +kernel
theorem dX13_element_38 : cod mX13_element 38 (.iconst 2) 1 := by decide +kernel
theorem dX13_element_39 : cod mX13_element 39 (.goto 4) 3 := by decide +kernel
theorem dX13_element_42 : cod mX13_element 42 (.iconst 0) 1 := by decide +kernel
theorem dX13_element_43 : cod mX13_element 43 (.putfield 115) 3 := by decide +kernel
theorem dX13_element_46 : cod mX13_element 46 (.aload_n 0) 1 := by decide +kernel
theorem dX13_element_47 : cod mX13_element 47 (.getfield 115) 3 := by decide +kernel
theorem dX13_element_50 : cod mX13_element 50 (.ifCond .le 7) 3 := by decide +kernel
theorem dX13_element_53 : cod mX13_element 53 (.lconst 0) 1 := by decide +kernel
theorem dX13_element_54 : cod mX13_element 54 (.goto 14) 3 := by decide +kernel
theorem dX13_element_57 : cod mX13_element 57 (.aload_n 0) 1 := by decide +kernel
theorem dX13_element_58 : cod mX13_element 58 (.getfield 109) 3 := by decide +kernel
theorem dX13_element_61 : cod mX13_element 61 (.bipush 100) 2 := by decide +kernel
theorem dX13_element_63 : cod mX13_element 63 (.iload_n 1) 1 := by decide +kernel
theorem dX13_element_64 : cod mX13_element 64 (.imul) 1 := by decide +kernel
theorem dX13_element_65 : cod mX13_element 65 (.iload_n 2) 1 := by decide +kernel
theorem dX13_element_66 : cod mX13_element 66 (.iadd) 1 := by decide +kernel
theorem dX13_element_67 : cod mX13_element 67 (.laload) 1 := by decide +kernel
theorem dX13_element_68 : cod mX13_element 68 (.lreturn) 1 := by decide +kernel
def jn_X13_element_43 (Q : Int64 → Mem → Prop) (x0 : Nat) (x1 : Int32) (x2 : Int32) (s0 : Int32) (s1 : Nat) (M : Mem) : Prop := mK M s1 = 14 ∧ ∀ M12 : Mem, M12 = uI M s1 12 s0 → mK M12 x0 = 14 ∧ ((mI M12 x0 12) ≤ (0 : Int32) → mK M12 (mR M12 x0 54) = 21 ∧ vp_in ((100 * x1) + x2) (mN M12 (mR M12 x0 54)) ∧ Q (mJ M12 (mR M12 x0 54) ((100 * x1) + x2).toNatClampNeg) M12) ∧ (¬ (mI M12 x0 12) ≤ (0 : Int32) → Q 0 M12)
theorem P_jn_X13_element_43 {G : GG} {Q : Int64 → Mem → Prop} (x0 : Nat) (x1 : Int32) (x2 : Int32) (s0 : Int32) (s1 : Nat) (M : Mem) (h : jn_X13_element_43 Q x0 x1 x2 s0 s1 M) : PW G mX13_element (rmD 2 0 0) (QJ Q) 43 [some (.ref x0), some (.int x1), some (.int x2), none] [.int s0, .ref s1] M 0 0 := (s_putI (pc := 43) dX13_element_43 f_X13_115 (Or.inl rfl) (Or.inl rfl) h.1 (nmM (fun M12 e13 => have h14 := h.2 M12 e13; s_aload_n (pc := 46) dX13_element_46 rfl (s_getI (pc := 47) dX13_element_47 f_X13_115 rfl h14.1 (s_if_le (pc := 50) (tgt := 57) dX13_element_50 rfl (fun c15 => have h16 := h14.2.1 c15; s_aload_n (pc := 57) dX13_element_57 rfl (s_getR (pc := 58) dX13_element_58 f_X13_109 rfl h14.1 (s_bipush (pc := 61) dX13_element_61 cb_100 (s_iload_n (pc := 63) dX13_element_63 rfl (s_imul (pc := 64) dX13_element_64 (s_iload_n (pc := 65) dX13_element_65 rfl (s_iadd (pc := 66) dX13_element_66 (s_lal (pc := 67) dX13_element_67 h16.1 h16.2.1 (s_lreturn (pc := 68) dX13_element_68 rfl (Nat.zero_le _) (Nat.zero_le _) ⟨_, rfl, h16.2.2⟩))))))))) (fun c17 => have h18 := h14.2.2 c17; s_lconst (pc := 53) (v := 0) dX13_element_53 rfl (s_goto (pc := 54) (tgt := 68) dX13_element_54 rfl (s_lreturn (pc := 68) dX13_element_68 rfl (Nat.zero_le _) (Nat.zero_le _) ⟨_, rfl, h18⟩))))))))
def jn_X13_element_38 (Q : Int64 → Mem → Prop) (x0 : Nat) (x1 : Int32) (x2 : Int32) (s0 : Nat) (M : Mem) : Prop := jn_X13_element_43 Q x0 x1 x2 2 s0 M
theorem P_jn_X13_element_38 {G : GG} {Q : Int64 → Mem → Prop} (x0 : Nat) (x1 : Int32) (x2 : Int32) (s0 : Nat) (M : Mem) (h : jn_X13_element_38 Q x0 x1 x2 s0 M) : PW G mX13_element (rmD 2 0 0) (QJ Q) 38 [some (.ref x0), some (.int x1), some (.int x2), none] [.ref s0] M 0 0 := (s_iconst (pc := 38) dX13_element_38 ci_2 (s_goto (pc := 39) (tgt := 43) dX13_element_39 rfl (s_sel (L1 := [some (.ref x0), some (.int x1), some (.int x2), none]) [true, true, true, false] rfl (P_jn_X13_element_43 x0 x1 x2 2 s0 M h))))
def wp_X13_element (p0 : Nat) (p1 : Int32) (p2 : Int32) (M : Mem) (Q : Int64 → Mem → Prop) : Prop := mK M p0 = 14 ∧ wp_X13_wrongRow p0 p1 M (fun r3 M2 => (¬ r3 = ((-1) : Int32) → (r3 < (0 : Int32) → jn_X13_element_38 Q p0 p1 p2 p0 M2) ∧ (¬ r3 < (0 : Int32) → mK M2 p0 = 14 ∧ mK M2 (mR M2 p0 53) = 20 ∧ vp_in p1 (mN M2 (mR M2 p0 53)) ∧ wp_X13_in p2.toInt64 0 (((mI M2 (mR M2 p0 53) p1.toNatClampNeg) - 1).toInt64) M2 (fun r21 M20 => (¬ r21 = (0 : Int32) → jn_X13_element_43 Q p0 p1 p2 0 p0 M20) ∧ (r21 = (0 : Int32) → jn_X13_element_38 Q p0 p1 p2 p0 M20)))) ∧ (r3 = ((-1) : Int32) → jn_X13_element_43 Q p0 p1 p2 1 p0 M2))
theorem T_X13_element {G : GG} {Q : Int64 → Mem → Prop} {M : Mem} {p0 : Nat} {p1 : Int32} {p2 : Int32} (h : wp_X13_element p0 p1 p2 M Q) : PMet G mX13_element 2 0 0 [.ref p0, .int p1, .int p2] M (QJ Q) :=
  mk_met (by decide) rfl rfl (by
    intro w hw x9 e9
    subst e9
    simp at hw) (Nat.le_of_ble_eq_true rfl) (s_pad (L1 := [some (.ref p0), some (.int p1), some (.int p2), none]) 4 rfl (s_aload_n (pc := 0) dX13_element_0 rfl (s_iload_n (pc := 1) dX13_element_1 rfl (s_callV (pc := 2) (As := [.int p1]) (rest := []) (d' := 1) (mc' := 0) (ms' := 0) dX13_element_2 c_X13_176 (Nat.le_of_ble_eq_true rfl) rfl h.1 rfl rfl (Nat.le_of_ble_eq_true rfl) (rm_ok rfl rfl) ⟨Nat.le_refl 0, Nat.le_refl 0⟩ (T_X13_wrongRow h.2) (kkI (fun r3 M2 h1 => s_istore_n (pc := 5) (L1 := [some (.ref p0), some (.int p1), some (.int p2), some (.int r3)]) dX13_element_5 (Nat.le_of_ble_eq_true rfl) rfl (s_aload_n (pc := 6) dX13_element_6 rfl (s_iload_n (pc := 7) dX13_element_7 rfl (s_iconst (pc := 8) dX13_element_8 ci_m1 (s_icmp_ne (pc := 9) (tgt := 16) dX13_element_9 rfl (fun c4 => have h5 := h1.1 c4; s_iload_n (pc := 16) dX13_element_16 rfl (s_if_lt (pc := 17) (tgt := 38) dX13_element_17 rfl (fun c8 => have h9 := h5.1 c8; s_sel (L1 := [some (.ref p0), some (.int p1), some (.int p2), none]) [true, true, true, false] rfl (P_jn_X13_element_38 p0 p1 p2 p0 M2 h9)) (fun c10 => have h11 := h5.2 c10; s_iload_n (pc := 20) dX13_element_20 rfl (s_i2l (pc := 21) dX13_element_21 (s_lconst (pc := 22) (v := 0) dX13_element_22 rfl (s_aload_n (pc := 23) dX13_element_23 rfl (s_getR (pc := 24) dX13_element_24 f_X13_106 rfl h11.1 (s_iload_n (pc := 27) dX13_element_27 rfl (s_ial (pc := 28) dX13_element_28 h11.2.1 h11.2.2.1 (s_iconst (pc := 29) dX13_element_29 ci_1 (s_isub (pc := 30) dX13_element_30 (s_i2l (pc := 31) dX13_element_31 (s_callS (pc := 32) (As := [.long p2.toInt64, .long 0, .long (((mI M2 (mR M2 p0 53) p1.toNatClampNeg) - 1).toInt64)]) (rest := [.ref p0]) (d' := 0) (mc' := 0) (ms' := 0) dX13_element_32 c_X13_122 rfl rfl (Nat.le_of_ble_eq_true rfl) (rm_ok rfl rfl) ⟨Nat.le_refl 0, Nat.le_refl 0⟩ (T_X13_in h11.2.2.2) (kkI (fun r21 M20 h19 => s_if_ne (pc := 35) (tgt := 42) dX13_element_35 rfl (fun c22 => have h23 := h19.1 c22; s_iconst (pc := 42) dX13_element_42 ci_0 (s_sel (L1 := [some (.ref p0), some (.int p1), some (.int p2), none]) [true, true, true, false] rfl (P_jn_X13_element_43 p0 p1 p2 0 p0 M20 h23))) (fun c24 => have h25 := h19.2 c24; s_sel (L1 := [some (.ref p0), some (.int p1), some (.int p2), none]) [true, true, true, false] rfl (P_jn_X13_element_38 p0 p1 p2 p0 M20 h25))))))))))))))))) (fun c6 => have h7 := h1.2 c6; s_iconst (pc := 12) dX13_element_12 ci_1 (s_goto (pc := 13) (tgt := 43) dX13_element_13 rfl (s_sel (L1 := [some (.ref p0), some (.int p1), some (.int p2), none]) [true, true, true, false] rfl (P_jn_X13_element_43 p0 p1 p2 1 p0 M2 h7))))))))))))))
/-! X13_event -/
theorem dX13_event_0 : cod mX13_event 0 (.aload_n 0) 1 := by decide +kernel
theorem dX13_event_1 : cod mX13_event 1 (.iconst 0) 1 := by decide +kernel
theorem dX13_event_2 : cod mX13_event 2 (.putfield 115) 3 := by decide +kernel
theorem dX13_event_5 : cod mX13_event 5 (.iload_n 1) 1 := by decide +kernel
theorem dX13_event_6 : cod mX13_event 6 (.i2l) 1 := by decide +kernel
theorem dX13_event_7 : cod mX13_event 7 (.lconst 0) 1 := by decide +kernel
theorem dX13_event_8 : cod mX13_event 8 (.ldc2_w 196) 3 := by decide +kernel
theorem dX13_event_11 : cod mX13_event 11 (.invokestatic 122) 3 := by decide +kernel
theorem dX13_event_14 : cod mX13_event 14 (.ifCond .eq 11) 3 := by decide +kernel
theorem dX13_event_17 : cod mX13_event 17 (.iload_n 2) 1 := by decide +kernel
theorem dX13_event_18 : cod mX13_event 18 (.iload_n 3) 1 := by decide +kernel
theorem dX13_event_19 : cod mX13_event 19 (.invokestatic 202) 3 := by decide +kernel
theorem dX13_event_22 : cod mX13_event 22 (.ifCond .ne 5) 3 := by decide +kernel
theorem dX13_event_25 : cod mX13_event 25 (.iconst (-1)) 1 := by decide +kernel
theorem dX13_event_26 : cod mX13_event 26 (.ireturn) 1 := by decide +kernel
theorem dX13_event_27 : cod mX13_event 27 (.aload_n 0) 1 := by decide +kernel
theorem dX13_event_28 : cod mX13_event 28 (.invokevirtual 228) 3 := by decide +kernel
theorem dX13_event_31 : cod mX13_event 31 (.ifCond .ne 6) 3 := by decide +kernel
theorem dX13_event_34 : cod mX13_event 34 (.bipush (-3)) 2 := by decide +kernel
theorem dX13_event_36 : cod mX13_event 36 (.ireturn) 1 := by decide +kernel
theorem dX13_event_37 : cod mX13_event 37 (.aload_n 0) 1 := by decide +kernel
theorem dX13_event_38 : cod mX13_event 38 (.invokevirtual 231) 3 := by decide +kernel
theorem dX13_event_41 : cod mX13_event 41 (.aload_n 0) 1 := by decide +kernel
theorem dX13_event_42 : cod mX13_event 42 (.iload_n 1) 1 := by decide +kernel
theorem dX13_event_43 : cod mX13_event 43 (.iload_n 2) 1 := by decide +kernel
theorem dX13_event_44 : cod mX13_event 44 (.iload_n 3) 1 := by decide +kernel
theorem dX13_event_45 : cod mX13_event 45 (.aload_n 0) 1 := by decide +kernel
theorem dX13_event_46 : cod mX13_event 46 (.getfield 190) 3 := by decide +kernel
theorem dX13_event_49 : cod mX13_event 49 (.invokevirtual 237) 3 := by decide +kernel
theorem dX13_event_52 : cod mX13_event 52 (.ifCond .ne 6) 3 := by decide +kernel
theorem dX13_event_55 : cod mX13_event 55 (.bipush (-3)) 2 := by decide +kernel
theorem dX13_event_57 : cod mX13_event 57 (.ireturn) 1 := by decide +kernel
theorem dX13_event_58 : cod mX13_event 58 (.iconst 0) 1 := by decide +kernel
theorem dX13_event_59 : cod mX13_event 59 (.istore 4) 2 := by decide +kernel
theorem dX13_event_61 : cod mX13_event 61 (.iload 4) 2 := by decide +kernel
theorem dX13_event_63 : cod mX13_event 63 (.aload_n 0) 1 := by decide +kernel
theorem dX13_event_64 : cod mX13_event 64 (.getfield 119) 3 := by decide +kernel
theorem dX13_event_67 : cod mX13_event 67 (.if_icmp .ge 23) 3 := by decide +kernel
theorem dX13_event_70 : cod mX13_event 70 (.aload_n 0) 1 := by decide +kernel
theorem dX13_event_71 : cod mX13_event 71 (.getfield 32) 3 := by decide +kernel
theorem dX13_event_74 : cod mX13_event 74 (.iload 4) 2 := by decide +kernel
theorem dX13_event_76 : cod mX13_event 76 (.aload_n 0) 1 := by decide +kernel
theorem dX13_event_77 : cod mX13_event 77 (.getfield 51) 3 := by decide +kernel
theorem dX13_event_80 : cod mX13_event 80 (.iload 4) 2 := by decide +kernel
theorem dX13_event_82 : cod mX13_event 82 (.laload) 1 := by decide +kernel
theorem dX13_event_83 : cod mX13_event 83 (.lastore) 1 := by decide +kernel
theorem dX13_event_84 : cod mX13_event 84 (.iinc 4 1) 3 := by decide +kernel
theorem dX13_event_87 : cod mX13_event 87 (.goto (-26)) 3 := by decide +kernel
theorem dX13_event_90 : cod mX13_event 90 (.aload_n 0) 1 := by decide +kernel
theorem dX13_event_91 : cod mX13_event 91 (.iload_n 1) 1 := by decide +kernel
theorem dX13_event_92 : cod mX13_event 92 (.aload_n 0) 1 := by decide +kernel
theorem dX13_event_93 : cod mX13_event 93 (.getfield 190) 3 := by decide +kernel
theorem dX13_event_96 : cod mX13_event 96 (.invokestatic 241) 3 := by decide +kernel
theorem dX13_event_99 : cod mX13_event 99 (.putfield 190) 3 := by decide +kernel
theorem dX13_event_102 : cod mX13_event 102 (.aload_n 0) 1 := by decide +kernel
theorem dX13_event_103 : cod mX13_event 103 (.invokevirtual 234) 3 := by decide +kernel
theorem dX13_event_106 : cod mX13_event 106 (.ireturn) 1 := by decide +kernel
def lp_X13_event_61 (Q : Int32 → Mem → Prop) : Nat → Nat → Int32 → Int32 → Mem → Prop
  | 0 => fun _ _ _ _ => False
  | n + 1 => fun x0 x1 x4 M => mK M x0 = 14 ∧ ((mI M x0 0) ≤ x4 → wp_X13_heldBy x1 (mI M x0 11) M (fun r40 M39 => mK M39 x0 = 14 ∧ ∀ M41 : Mem, M41 = uI M39 x0 11 r40 → wp_X13_meanInMind x0 M41 (fun r46 M45 => Q r46 M45))) ∧ (¬ (mI M x0 0) ≤ x4 → mK M (mR M x0 23) = 21 ∧ vp_in x4 (mN M (mR M x0 23)) ∧ mK M (mR M x0 10) = 21 ∧ vp_in x4 (mN M (mR M x0 10)) ∧ ∀ M47 : Mem, M47 = uJ M (mR M x0 10) x4.toNatClampNeg (mJ M (mR M x0 23) x4.toNatClampNeg) → (lp_X13_event_61 Q n) x0 x1 (x4 + 1) M47)
theorem P_lp_X13_event_61 {G : GG} {Q : Int32 → Mem → Prop} : ∀ (n : Nat) (x0 : Nat) (x1 : Int32) (x4 : Int32) (M : Mem), lp_X13_event_61 Q n x0 x1 x4 M → PW G mX13_event (rmD 3 0 0) (QI Q) 61 [some (.ref x0), some (.int x1), none, none, some (.int x4)] [] M 0 0 := by
  intro n
  induction n with
  | zero => intro x0 x1 x4 M h; exact h.elim
  | succ n ih =>
    intro x0 x1 x4 M h
    exact (s_iload (pc := 61) dX13_event_61 rfl (s_aload_n (pc := 63) dX13_event_63 rfl (s_getI (pc := 64) dX13_event_64 f_X13_119 rfl h.1 (s_icmp_ge (pc := 67) (tgt := 90) dX13_event_67 rfl (fun c34 => have h35 := h.2.1 c34; s_aload_n (pc := 90) dX13_event_90 rfl (s_iload_n (pc := 91) dX13_event_91 rfl (s_aload_n (pc := 92) dX13_event_92 rfl (s_getI (pc := 93) dX13_event_93 f_X13_190 rfl h.1 (s_callS (pc := 96) (As := [.int x1, .int (mI M x0 11)]) (rest := [.ref x0]) (d' := 0) (mc' := 0) (ms' := 0) dX13_event_96 c_X13_241 rfl rfl (Nat.le_of_ble_eq_true rfl) (rm_ok rfl rfl) ⟨Nat.le_refl 0, Nat.le_refl 0⟩ (T_X13_heldBy h35) (kkI (fun r40 M39 h38 => s_putI (pc := 99) dX13_event_99 f_X13_190 (Or.inl rfl) (Or.inl rfl) h38.1 (nmM (fun M41 e42 => have h43 := h38.2 M41 e42; s_aload_n (pc := 102) dX13_event_102 rfl (s_callV (pc := 103) (As := []) (rest := []) (d' := 0) (mc' := 0) (ms' := 0) dX13_event_103 c_X13_234 (Nat.le_of_ble_eq_true rfl) rfl ((congrFun (congrArg mK e42) x0).trans h38.1) rfl rfl (Nat.le_of_ble_eq_true rfl) (rm_ok rfl rfl) ⟨Nat.le_refl 0, Nat.le_refl 0⟩ (T_X13_meanInMind h43) (kkI (fun r46 M45 h44 => s_ireturn (pc := 106) dX13_event_106 rfl (Nat.zero_le _) (Nat.zero_le _) ⟨_, rfl, h44⟩)))))))))))) (fun c36 => have h37 := h.2.2 c36; s_aload_n (pc := 70) dX13_event_70 rfl (s_getR (pc := 71) dX13_event_71 f_X13_32 rfl h.1 (s_iload (pc := 74) dX13_event_74 rfl (s_aload_n (pc := 76) dX13_event_76 rfl (s_getR (pc := 77) dX13_event_77 f_X13_51 rfl h.1 (s_iload (pc := 80) dX13_event_80 rfl (s_lal (pc := 82) dX13_event_82 h37.1 h37.2.1 (s_las (pc := 83) dX13_event_83 h37.2.2.1 h37.2.2.2.1 (nmM (fun M47 e48 => have h49 := (h37.2.2.2.2) M47 e48; s_iinc (pc := 84) (L1 := [some (.ref x0), some (.int x1), none, none, some (.int (x4 + 1))]) dX13_event_84 rfl ci_1 (Nat.le_of_ble_eq_true rfl) rfl (s_goto (pc := 87) (tgt := 61) dX13_event_87 rfl (s_sel (L1 := [some (.ref x0), some (.int x1), none, none, some (.int (x4 + 1))]) [true, true, false, false, true] rfl (ih x0 x1 (x4 + 1) M47 h49)))))))))))))))))
def wp_X13_event (p0 : Nat) (p1 : Int32) (p2 : Int32) (p3 : Int32) (M : Mem) (Q : Int32 → Mem → Prop) : Prop := mK M p0 = 14 ∧ ∀ M1 : Mem, M1 = uI M p0 12 0 → wp_X13_in p1.toInt64 0 2 M1 (fun r6 M5 => (r6 = (0 : Int32) → Q (-1) M5) ∧ (¬ r6 = (0 : Int32) → wp_X13_isSlate p2 p3 M5 (fun r13 M12 => (¬ r13 = (0 : Int32) → mK M12 p0 = 14 ∧ wp_X13_isReady p0 M12 (fun r20 M19 => (¬ r20 = (0 : Int32) → mK M19 p0 = 14 ∧ wp_X13_setMind p0 M19 (fun M26 => mK M26 p0 = 14 ∧ wp_X13_goesOn p0 p1 p2 p3 (mI M26 p0 11) M26 (fun r29 M28 => (¬ r29 = (0 : Int32) → ∃ n50 : Nat, lp_X13_event_61 Q n50 p0 p1 0 M28) ∧ (r29 = (0 : Int32) → Q (-3) M28)))) ∧ (r20 = (0 : Int32) → Q (-3) M19))) ∧ (r13 = (0 : Int32) → Q (-1) M12))))
theorem T_X13_event {G : GG} {Q : Int32 → Mem → Prop} {M : Mem} {p0 : Nat} {p1 : Int32} {p2 : Int32} {p3 : Int32} (h : wp_X13_event p0 p1 p2 p3 M Q) : PMet G mX13_event 3 0 0 [.ref p0, .int p1, .int p2, .int p3] M (QI Q) :=
  mk_met (by decide) rfl rfl (by
    intro w hw x9 e9
    subst e9
    simp at hw) (Nat.le_of_ble_eq_true rfl) (s_pad (L1 := [some (.ref p0), some (.int p1), some (.int p2), some (.int p3), none]) 5 rfl (s_aload_n (pc := 0) dX13_event_0 rfl (s_iconst (pc := 1) dX13_event_1 ci_0 (s_putI (pc := 2) dX13_event_2 f_X13_115 (Or.inl rfl) (Or.inl rfl) h.1 (nmM (fun M1 e2 => have h3 := h.2 M1 e2; s_iload_n (pc := 5) dX13_event_5 rfl (s_i2l (pc := 6) dX13_event_6 (s_lconst (pc := 7) (v := 0) dX13_event_7 rfl (s_ldc2 (pc := 8) dX13_event_8 k_X13_196 (s_callS (pc := 11) (As := [.long p1.toInt64, .long 0, .long 2]) (rest := []) (d' := 0) (mc' := 0) (ms' := 0) dX13_event_11 c_X13_122 rfl rfl (Nat.le_of_ble_eq_true rfl) (rm_ok rfl rfl) ⟨Nat.le_refl 0, Nat.le_refl 0⟩ (T_X13_in h3) (kkI (fun r6 M5 h4 => s_if_eq (pc := 14) (tgt := 25) dX13_event_14 rfl (fun c7 => have h8 := h4.1 c7; s_iconst (pc := 25) dX13_event_25 ci_m1 (s_ireturn (pc := 26) dX13_event_26 rfl (Nat.zero_le _) (Nat.zero_le _) ⟨_, rfl, h8⟩)) (fun c9 => have h10 := h4.2 c9; s_iload_n (pc := 17) dX13_event_17 rfl (s_iload_n (pc := 18) dX13_event_18 rfl (s_callS (pc := 19) (As := [.int p2, .int p3]) (rest := []) (d' := 1) (mc' := 0) (ms' := 0) dX13_event_19 c_X13_202 rfl rfl (Nat.le_of_ble_eq_true rfl) (rm_ok rfl rfl) ⟨Nat.le_refl 0, Nat.le_refl 0⟩ (T_X13_isSlate h10) (kkI (fun r13 M12 h11 => s_if_ne (pc := 22) (tgt := 27) dX13_event_22 rfl (fun c14 => have h15 := h11.1 c14; s_aload_n (pc := 27) dX13_event_27 rfl (s_callV (pc := 28) (As := []) (rest := []) (d' := 1) (mc' := 0) (ms' := 0) dX13_event_28 c_X13_228 (Nat.le_of_ble_eq_true rfl) rfl h15.1 rfl rfl (Nat.le_of_ble_eq_true rfl) (rm_ok rfl rfl) ⟨Nat.le_refl 0, Nat.le_refl 0⟩ (T_X13_isReady h15.2) (kkI (fun r20 M19 h18 => s_if_ne (pc := 31) (tgt := 37) dX13_event_31 rfl (fun c21 => have h22 := h18.1 c21; s_aload_n (pc := 37) dX13_event_37 rfl (s_callV (pc := 38) (As := []) (rest := []) (d' := 0) (mc' := 0) (ms' := 0) dX13_event_38 c_X13_231 (Nat.le_of_ble_eq_true rfl) rfl h22.1 rfl rfl (Nat.le_of_ble_eq_true rfl) (rm_ok rfl rfl) ⟨Nat.le_refl 0, Nat.le_refl 0⟩ (T_X13_setMind h22.2) (kkV (fun M26 h25 => s_aload_n (pc := 41) dX13_event_41 rfl (s_iload_n (pc := 42) dX13_event_42 rfl (s_iload_n (pc := 43) dX13_event_43 rfl (s_iload_n (pc := 44) dX13_event_44 rfl (s_aload_n (pc := 45) dX13_event_45 rfl (s_getI (pc := 46) dX13_event_46 f_X13_190 rfl h25.1 (s_callV (pc := 49) (As := [.int p1, .int p2, .int p3, .int (mI M26 p0 11)]) (rest := []) (d' := 2) (mc' := 0) (ms' := 0) dX13_event_49 c_X13_237 (Nat.le_of_ble_eq_true rfl) rfl h25.1 rfl rfl (Nat.le_of_ble_eq_true rfl) (rm_ok rfl rfl) ⟨Nat.le_refl 0, Nat.le_refl 0⟩ (T_X13_goesOn h25.2) (kkI (fun r29 M28 h27 => s_if_ne (pc := 52) (tgt := 58) dX13_event_52 rfl (fun c30 => have h31 := h27.1 c30; s_iconst (pc := 58) dX13_event_58 ci_0 (s_istore (pc := 59) (L1 := [some (.ref p0), some (.int p1), some (.int p2), some (.int p3), some (.int 0)]) dX13_event_59 (Nat.le_of_ble_eq_true rfl) rfl (Exists.elim h31 (fun n50 hn => s_sel (L1 := [some (.ref p0), some (.int p1), none, none, some (.int 0)]) [true, true, false, false, true] rfl (P_lp_X13_event_61 n50 p0 p1 0 M28 hn))))) (fun c32 => have h33 := h27.2 c32; s_bipush (pc := 55) dX13_event_55 cb_m3 (s_ireturn (pc := 57) dX13_event_57 rfl (Nat.zero_le _) (Nat.zero_le _) ⟨_, rfl, h33⟩)))))))))))))) (fun c23 => have h24 := h18.2 c23; s_bipush (pc := 34) dX13_event_34 cb_m3 (s_ireturn (pc := 36) dX13_event_36 rfl (Nat.zero_le _) (Nat.zero_le _) ⟨_, rfl, h24⟩)))))) (fun c16 => have h17 := h11.2 c16; s_iconst (pc := 25) dX13_event_25 ci_m1 (s_ireturn (pc := 26) dX13_event_26 rfl (Nat.zero_le _) (Nat.zero_le _) ⟨_, rfl, h17⟩)))))))))))))))))))
/-! X13_fair -/
theorem dX13_fair_0 : cod mX13_fair 0 (.aload_n 0) 1 := by decide +kernel
theorem dX13_fair_1 : cod mX13_fair 1 (.iconst 0) 1 := by decide +kernel
theorem dX13_fair_2 : cod mX13_fair 2 (.putfield 115) 3 := by decide +kernel
theorem dX13_fair_5 : cod mX13_fair 5 (.iload_n 1) 1 := by decide +kernel
theorem dX13_fair_6 : cod mX13_fair 6 (.i2l) 1 := by decide +kernel
theorem dX13_fair_7 : cod mX13_fair 7 (.lconst 0) 1 := by decide +kernel
theorem dX13_fair_8 : cod mX13_fair 8 (.lconst 1) 1 := by decide +kernel
theorem dX13_fair_9 : cod mX13_fair 9 (.invokestatic 122) 3 := by decide +kernel
theorem dX13_fair_12 : cod mX13_fair 12 (.ifCond .ne 5) 3 := by decide +kernel
theorem dX13_fair_15 : cod mX13_fair 15 (.iconst (-1)) 1 := by decide +kernel
theorem dX13_fair_16 : cod mX13_fair 16 (.ireturn) 1 := by decide +kernel
theorem dX13_fair_17 : cod mX13_fair 17 (.aload_n 0) 1 := by decide +kernel
theorem dX13_fair_18 : cod mX13_fair 18 (.invokevirtual 228) 3 := by decide +kernel
theorem dX13_fair_21 : cod mX13_fair 21 (.ifCond .ne 6) 3 := by decide +kernel
theorem dX13_fair_24 : cod mX13_fair 24 (.bipush (-3)) 2 := by decide +kernel
theorem dX13_fair_26 : cod mX13_fair 26 (.ireturn) 1 := by decide +kernel
theorem dX13_fair_27 : cod mX13_fair 27 (.aload_n 0) 1 := by decide +kernel
theorem dX13_fair_28 : cod mX13_fair 28 (.invokevirtual 231) 3 := by decide +kernel
theorem dX13_fair_31 : cod mX13_fair 31 (.iload_n 1) 1 := by decide +kernel
theorem dX13_fair_32 : cod mX13_fair 32 (.ifCond .ne 10) 3 := by decide +kernel
theorem dX13_fair_35 : cod mX13_fair 35 (.aload_n 0) 1 := by decide +kernel
theorem dX13_fair_36 : cod mX13_fair 36 (.invokevirtual 252) 3 := by decide +kernel
theorem dX13_fair_39 : cod mX13_fair 39 (.goto 7) 3 := by decide +kernel
theorem dX13_fair_42 : cod mX13_fair 42 (.aload_n 0) 1 := by decide +kernel
theorem dX13_fair_43 : cod mX13_fair 43 (.invokevirtual 255) 3 := by decide +kernel
theorem dX13_fair_46 : cod mX13_fair 46 (.ireturn) 1 := by decide +kernel
def wp_X13_fair (p0 : Nat) (p1 : Int32) (M : Mem) (Q : Int32 → Mem → Prop) : Prop := mK M p0 = 14 ∧ ∀ M1 : Mem, M1 = uI M p0 12 0 → wp_X13_in p1.toInt64 0 1 M1 (fun r6 M5 => (¬ r6 = (0 : Int32) → mK M5 p0 = 14 ∧ wp_X13_isReady p0 M5 (fun r13 M12 => (¬ r13 = (0 : Int32) → mK M12 p0 = 14 ∧ wp_X13_setMind p0 M12 (fun M19 => (¬ p1 = (0 : Int32) → mK M19 p0 = 14 ∧ wp_X13_fairBid p0 M19 (fun r26 M25 => Q r26 M25)) ∧ (p1 = (0 : Int32) → mK M19 p0 = 14 ∧ wp_X13_fairAsk p0 M19 (fun r29 M28 => Q r29 M28)))) ∧ (r13 = (0 : Int32) → Q (-3) M12))) ∧ (r6 = (0 : Int32) → Q (-1) M5))
theorem T_X13_fair {G : GG} {Q : Int32 → Mem → Prop} {M : Mem} {p0 : Nat} {p1 : Int32} (h : wp_X13_fair p0 p1 M Q) : PMet G mX13_fair 3 0 0 [.ref p0, .int p1] M (QI Q) :=
  mk_met (by decide) rfl rfl (by
    intro w hw x9 e9
    subst e9
    simp at hw) (Nat.le_of_ble_eq_true rfl) (s_pad (L1 := [some (.ref p0), some (.int p1)]) 2 rfl (s_aload_n (pc := 0) dX13_fair_0 rfl (s_iconst (pc := 1) dX13_fair_1 ci_0 (s_putI (pc := 2) dX13_fair_2 f_X13_115 (Or.inl rfl) (Or.inl rfl) h.1 (nmM (fun M1 e2 => have h3 := h.2 M1 e2; s_iload_n (pc := 5) dX13_fair_5 rfl (s_i2l (pc := 6) dX13_fair_6 (s_lconst (pc := 7) (v := 0) dX13_fair_7 rfl (s_lconst (pc := 8) (v := 1) dX13_fair_8 rfl (s_callS (pc := 9) (As := [.long p1.toInt64, .long 0, .long 1]) (rest := []) (d' := 0) (mc' := 0) (ms' := 0) dX13_fair_9 c_X13_122 rfl rfl (Nat.le_of_ble_eq_true rfl) (rm_ok rfl rfl) ⟨Nat.le_refl 0, Nat.le_refl 0⟩ (T_X13_in h3) (kkI (fun r6 M5 h4 => s_if_ne (pc := 12) (tgt := 17) dX13_fair_12 rfl (fun c7 => have h8 := h4.1 c7; s_aload_n (pc := 17) dX13_fair_17 rfl (s_callV (pc := 18) (As := []) (rest := []) (d' := 1) (mc' := 0) (ms' := 0) dX13_fair_18 c_X13_228 (Nat.le_of_ble_eq_true rfl) rfl h8.1 rfl rfl (Nat.le_of_ble_eq_true rfl) (rm_ok rfl rfl) ⟨Nat.le_refl 0, Nat.le_refl 0⟩ (T_X13_isReady h8.2) (kkI (fun r13 M12 h11 => s_if_ne (pc := 21) (tgt := 27) dX13_fair_21 rfl (fun c14 => have h15 := h11.1 c14; s_aload_n (pc := 27) dX13_fair_27 rfl (s_callV (pc := 28) (As := []) (rest := []) (d' := 0) (mc' := 0) (ms' := 0) dX13_fair_28 c_X13_231 (Nat.le_of_ble_eq_true rfl) rfl h15.1 rfl rfl (Nat.le_of_ble_eq_true rfl) (rm_ok rfl rfl) ⟨Nat.le_refl 0, Nat.le_refl 0⟩ (T_X13_setMind h15.2) (kkV (fun M19 h18 => s_iload_n (pc := 31) dX13_fair_31 rfl (s_if_ne (pc := 32) (tgt := 42) dX13_fair_32 rfl (fun c20 => have h21 := h18.1 c20; s_aload_n (pc := 42) dX13_fair_42 rfl (s_callV (pc := 43) (As := []) (rest := []) (d' := 2) (mc' := 0) (ms' := 0) dX13_fair_43 c_X13_255 (Nat.le_of_ble_eq_true rfl) rfl h21.1 rfl rfl (Nat.le_of_ble_eq_true rfl) (rm_ok rfl rfl) ⟨Nat.le_refl 0, Nat.le_refl 0⟩ (T_X13_fairBid h21.2) (kkI (fun r26 M25 h24 => s_ireturn (pc := 46) dX13_fair_46 rfl (Nat.zero_le _) (Nat.zero_le _) ⟨_, rfl, h24⟩)))) (fun c22 => have h23 := h18.2 c22; s_aload_n (pc := 35) dX13_fair_35 rfl (s_callV (pc := 36) (As := []) (rest := []) (d' := 2) (mc' := 0) (ms' := 0) dX13_fair_36 c_X13_252 (Nat.le_of_ble_eq_true rfl) rfl h23.1 rfl rfl (Nat.le_of_ble_eq_true rfl) (rm_ok rfl rfl) ⟨Nat.le_refl 0, Nat.le_refl 0⟩ (T_X13_fairAsk h23.2) (kkI (fun r29 M28 h27 => s_goto (pc := 39) (tgt := 46) dX13_fair_39 rfl (s_ireturn (pc := 46) dX13_fair_46 rfl (Nat.zero_le _) (Nat.zero_le _) ⟨_, rfl, h27⟩)))))))))) (fun c16 => have h17 := h11.2 c16; s_bipush (pc := 24) dX13_fair_24 cb_m3 (s_ireturn (pc := 26) dX13_fair_26 rfl (Nat.zero_le _) (Nat.zero_le _) ⟨_, rfl, h17⟩)))))) (fun c9 => have h10 := h4.2 c9; s_iconst (pc := 15) dX13_fair_15 ci_m1 (s_ireturn (pc := 16) dX13_fair_16 rfl (Nat.zero_le _) (Nat.zero_le _) ⟨_, rfl, h10⟩))))))))))))))
/-! X13_findSlates -/
theorem dX13_findSlates_0 : cod mX13_findSlates 0 (.aload_n 0) 1 := by decide +kernel
theorem dX13_findSlates_1 : cod mX13_findSlates 1 (.iconst 0) 1 := by decide +kernel
theorem dX13_findSlates_2 : cod mX13_findSlates 2 (.putfield 354) 3 := by decide +kernel
theorem dX13_findSlates_5 : cod mX13_findSlates 5 (.iconst 0) 1 := by decide +kernel
theorem dX13_findSlates_6 : cod mX13_findSlates 6 (.istore_n 2) 1 := by decide +kernel
theorem dX13_findSlates_7 : cod mX13_findSlates 7 (.iload_n 2) 1 := by decide +kernel
theorem dX13_findSlates_8 : cod mX13_findSlates 8 (.iload_n 1) 1 := by decide +kernel
theorem dX13_findSlates_9 : cod mX13_findSlates 9 (.imul) 1 := by decide +kernel
theorem dX13_findSlates_10 : cod mX13_findSlates 10 (.bipush 100) 2 := by decide +kernel
theorem dX13_findSlates_12 : cod mX13_findSlates 12 (.if_icmp .gt 52) 3 := by decide +kernel
theorem dX13_findSlates_15 : cod mX13_findSlates 15 (.iload_n 2) 1 := by decide +kernel
theorem dX13_findSlates_16 : cod mX13_findSlates 16 (.iconst 1) 1 := by decide +kernel
theorem dX13_findSlates_17 : cod mX13_findSlates 17 (.iadd) 1 := by decide +kernel
theorem dX13_findSlates_18 : cod mX13_findSlates 18 (.istore_n 3) 1 := by decide +kernel
theorem dX13_findSlates_19 : cod mX13_findSlates 19 (.iload_n 3) 1 := by decide +kernel
theorem dX13_findSlates_20 : cod mX13_findSlates 20 (.iload_n 1) 1 := by decide +kernel
theorem dX13_findSlates_21 : cod mX13_findSlates 21 (.imul) 1 := by decide +kernel
theorem dX13_findSlates_22 : cod mX13_findSlates 22 (.bipush 100) 2 := by decide +kernel
theorem dX13_findSlates_24 : cod mX13_findSlates 24 (.if_icmp .gt 34) 3 := by decide +kernel
theorem dX13_findSlates_27 : cod mX13_findSlates 27 (.aload_n 0) 1 := by decide +kernel
theorem dX13_findSlates_28 : cod mX13_findSlates 28 (.getfield 82) 3 := by decide +kernel
theorem dX13_findSlates_31 : cod mX13_findSlates 31 (.aload_n 0) 1 := by decide +kernel
theorem dX13_findSlates_32 : cod mX13_findSlates 32 (.getfield 354) 3 := by decide +kernel
theorem dX13_findSlates_35 : cod mX13_findSlates 35 (.bipush 10) 2 := by decide +kernel
theorem dX13_findSlates_37 : cod mX13_findSlates 37 (.iload_n 2) 1 := by decide +kernel
theorem dX13_findSlates_38 : cod mX13_findSlates 38 (.imul) 1 := by decide +kernel
theorem dX13_findSlates_39 : cod mX13_findSlates 39 (.iload_n 3) 1 := by decide +kernel
theorem dX13_findSlates_40 : cod mX13_findSlates 40 (.iadd) 1 := by decide +kernel
theorem dX13_findSlates_41 : cod mX13_findSlates 41 (.iastore) 1 := by decide +kernel
theorem dX13_findSlates_42 : cod mX13_findSlates 42 (.aload_n 0) 1 := by decide +kernel
theorem dX13_findSlates_43 : cod mX13_findSlates 43 (.dup) 1 := by decide +kernel
theorem dX13_findSlates_44 : cod mX13_findSlates 44 (.getfield 354) 3 := by decide +kernel
theorem dX13_findSlates_47 : cod mX13_findSlates 47 (.iconst 1) 1 := by decide +kernel
theorem dX13_findSlates_48 : cod mX13_findSlates 48 (.iadd) 1 := by decide +kernel
theorem dX13_findSlates_49 : cod mX13_findSlates 49 (.putfield 354) 3 := by decide +kernel
theorem dX13_findSlates_52 : cod mX13_findSlates 52 (.iinc 3 1) 3 := by decide +kernel
theorem dX13_findSlates_55 : cod mX13_findSlates 55 (.goto (-36)) 3 := by decide +kernel
theorem dX13_findSlates_58 : cod mX13_findSlates 58 (.iinc 2 1) 3 := by decide +kernel
theorem dX13_findSlates_61 : cod mX13_findSlates 61 (.goto (-54)) 3 := by decide +kernel
theorem dX13_findSlates_64 : cod mX13_findSlates 64 (.iconst 0) 1 := by decide +kernel
theorem dX13_findSlates_65 : cod mX13_findSlates 65 (.istore_n 2) 1 := by decide +kernel
theorem dX13_findSlates_66 : cod mX13_findSlates 66 (.iload_n 2) 1 := by decide +kernel
theorem dX13_findSlates_67 : cod mX13_findSlates 67 (.aload_n 0) 1 := by decide +kernel
theorem dX13_findSlates_68 : cod mX13_findSlates 68 (.getfield 354) 3 := by decide +kernel
theorem dX13_findSlates_71 : cod mX13_findSlates 71 (.if_icmp .ge 125) 3 := by decide +kernel
theorem dX13_findSlates_74 : cod mX13_findSlates 74 (.iconst 0) 1 := by decide +kernel
theorem dX13_findSlates_75 : cod mX13_findSlates 75 (.istore_n 3) 1 := by decide +kernel
theorem dX13_findSlates_76 : cod mX13_findSlates 76 (.iload_n 3) 1 := by decide +kernel
theorem dX13_findSlates_77 : cod mX13_findSlates 77 (.aload_n 0) 1 := by decide +kernel
theorem dX13_findSlates_78 : cod mX13_findSlates 78 (.getfield 354) 3 := by decide +kernel
theorem dX13_findSlates_81 : cod mX13_findSlates 81 (.if_icmp .ge 109) 3 := by decide +kernel
theorem dX13_findSlates_84 : cod mX13_findSlates 84 (.iload_n 1) 1 := by decide +kernel
theorem dX13_findSlates_85 : cod mX13_findSlates 85 (.aload_n 0) 1 := by decide +kernel
theorem dX13_findSlates_86 : cod mX13_findSlates 86 (.getfield 82) 3 := by decide +kernel
theorem dX13_findSlates_89 : cod mX13_findSlates 89 (.iload_n 2) 1 := by decide +kernel
theorem dX13_findSlates_90 : cod mX13_findSlates 90 (.iaload) 1 := by decide +kernel
theorem dX13_findSlates_91 : cod mX13_findSlates 91 (.bipush 10) 2 := by decide +kernel
theorem dX13_findSlates_93 : cod mX13_findSlates 93 (.idiv) 1 := by decide +kernel
theorem dX13_findSlates_94 : cod mX13_findSlates 94 (.imul) 1 := by decide +kernel
theorem dX13_findSlates_95 : cod mX13_findSlates 95 (.istore 4) 2 := by decide +kernel
theorem dX13_findSlates_97 : cod mX13_findSlates 97 (.iload_n 1) 1 := by decide +kernel
theorem dX13_findSlates_98 : cod mX13_findSlates 98 (.aload_n 0) 1 := by decide +kernel
theorem dX13_findSlates_99 : cod mX13_findSlates 99 (.getfield 82) 3 := by decide +kernel
theorem dX13_findSlates_102 : cod mX13_findSlates 102 (.iload_n 2) 1 := by decide +kernel
theorem dX13_findSlates_103 : cod mX13_findSlates 103 (.iaload) 1 := by decide +kernel
theorem dX13_findSlates_104 : cod mX13_findSlates 104 (.bipush 10) 2 := by decide +kernel
theorem dX13_findSlates_106 : cod mX13_findSlates 106 (.irem) 1 := by decide +kernel
theorem dX13_findSlates_107 : cod mX13_findSlates 107 (.imul) 1 := by decide +kernel
theorem dX13_findSlates_108 : cod mX13_findSlates 108 (.istore 5) 2 := by decide +kernel
theorem dX13_findSlates_110 : cod mX13_findSlates 110 (.iload_n 1) 1 := by decide +kernel
theorem dX13_findSlates_111 : cod mX13_findSlates 111 (.aload_n 0) 1 := by decide +kernel
theorem dX13_findSlates_112 : cod mX13_findSlates 112 (.getfield 82) 3 := by decide +kernel
theorem dX13_findSlates_115 : cod mX13_findSlates 115 (.iload_n 3) 1 := by decide +kernel
theorem dX13_findSlates_116 : cod mX13_findSlates 116 (.iaload) 1 := by decide +kernel
theorem dX13_findSlates_117 : cod mX13_findSlates 117 (.bipush 10) 2 := by decide +kernel
theorem dX13_findSlates_119 : cod mX13_findSlates 119 (.idiv) 1 := by decide +kernel
theorem dX13_findSlates_120 : cod mX13_findSlates 120 (.imul) 1 := by decide +kernel
theorem dX13_findSlates_121 : cod mX13_findSlates 121 (.istore 6) 2 := by decide +kernel
theorem dX13_findSlates_123 : cod mX13_findSlates 123 (.iload_n 1) 1 := by decide +kernel
theorem dX13_findSlates_124 : cod mX13_findSlates 124 (.aload_n 0) 1 := by decide +kernel
theorem dX13_findSlates_125 : cod mX13_findSlates 125 (.getfield 82) 3 := by decide +kernel
theorem dX13_findSlates_128 : cod mX13_findSlates 128 (.iload_n 3) 1 := by decide +kernel
theorem dX13_findSlates_129 : cod mX13_findSlates 129 (.iaload) 1 := by decide +kernel
theorem dX13_findSlates_130 : cod mX13_findSlates 130 (.bipush 10) 2 := by decide +kernel
theorem dX13_findSlates_132 : cod mX13_findSlates 132 (.irem) 1 := by decide +kernel
theorem dX13_findSlates_133 : cod mX13_findSlates 133 (.imul) 1 := by decide +kernel
theorem dX13_findSlates_134 : cod mX13_findSlates 134 (.istore 7) 2 := by decide +kernel
theorem dX13_findSlates_136 : cod mX13_findSlates 136 (.aload_n 0) 1 := by decide +kernel
theorem dX13_findSlates_137 : cod mX13_findSlates 137 (.getfield 85) 3 := by decide +kernel
theorem dX13_findSlates_140 : cod mX13_findSlates 140 (.bipush 15) 2 := by decide +kernel
theorem dX13_findSlates_142 : cod mX13_findSlates 142 (.iload_n 2) 1 := by decide +kernel
theorem dX13_findSlates_143 : cod mX13_findSlates 143 (.imul) 1 := by decide +kernel
theorem dX13_findSlates_144 : cod mX13_findSlates 144 (.iload_n 3) 1 := by decide +kernel
theorem dX13_findSlates_145 : cod mX13_findSlates 145 (.iadd) 1 := by decide +kernel
theorem dX13_findSlates_146 : cod mX13_findSlates 146 (.aload_n 0) 1 := by decide +kernel
theorem dX13_findSlates_147 : cod mX13_findSlates 147 (.iload 4) 2 := by decide +kernel
theorem dX13_findSlates_149 : cod mX13_findSlates 149 (.iload 5) 2 := by decide +kernel
theorem dX13_findSlates_151 : cod mX13_findSlates 151 (.iload 6) 2 := by decide +kernel
theorem dX13_findSlates_153 : cod mX13_findSlates 153 (.iload 7) 2 := by decide +kernel
theorem dX13_findSlates_155 : cod mX13_findSlates 155 (.iconst 0) 1 := by decide +kernel
theorem dX13_findSlates_156 : cod mX13_findSlates 156 (.invokevirtual 350) 3 := by decide +kernel
theorem dX13_findSlates_159 : cod mX13_findSlates 159 (.lastore) 1 := by decide +kernel
theorem dX13_findSlates_160 : cod mX13_findSlates 160 (.aload_n 0) 1 := by decide +kernel
theorem dX13_findSlates_161 : cod mX13_findSlates 161 (.getfield 88) 3 := by decide +kernel
theorem dX13_findSlates_164 : cod mX13_findSlates 164 (.bipush 15) 2 := by decide +kernel
theorem dX13_findSlates_166 : cod mX13_findSlates 166 (.iload_n 2) 1 := by decide +kernel
theorem dX13_findSlates_167 : cod mX13_findSlates 167 (.imul) 1 := by decide +kernel
theorem dX13_findSlates_168 : cod mX13_findSlates 168 (.iload_n 3) 1 := by decide +kernel
theorem dX13_findSlates_169 : cod mX13_findSlates 169 (.iadd) 1 := by decide +kernel
theorem dX13_findSlates_170 : cod mX13_findSlates 170 (.aload_n 0) 1 := by decide +kernel
theorem dX13_findSlates_171 : cod mX13_findSlates 171 (.iload 6) 2 := by decide +kernel
theorem dX13_findSlates_173 : cod mX13_findSlates 173 (.iload 7) 2 := by decide +kernel
theorem dX13_findSlates_175 : cod mX13_findSlates 175 (.iload 4) 2 := by decide +kernel
theorem dX13_findSlates_177 : cod mX13_findSlates 177 (.iload 5) 2 := by decide +kernel
theorem dX13_findSlates_179 : cod mX13_findSlates 179 (.iconst 1) 1 := by decide +kernel
theorem dX13_findSlates_180 : cod mX13_findSlates 180 (.invokevirtual 350) 3 := by decide +kernel
theorem dX13_findSlates_183 : cod mX13_findSlates 183 (.lastore) 1 := by decide +kernel
theorem dX13_findSlates_184 : cod mX13_findSlates 184 (.iinc 3 1) 3 := by decide +kernel
theorem dX13_findSlates_187 : cod mX13_findSlates 187 (.goto (-111)) 3 := by decide +kernel
theorem dX13_findSlates_190 : cod mX13_findSlates 190 (.iinc 2 1) 3 := by decide +kernel
theorem dX13_findSlates_193 : cod mX13_findSlates 193 (.goto (-127)) 3 := by decide +kernel
theorem dX13_findSlates_196 : cod mX13_findSlates 196 (.return_) 1 := by decide +kernel
def lp_X13_findSlates_76 (K66 : Nat → Int32 → Int32 → Mem → Prop) (Q : Mem → Prop) : Nat → Nat → Int32 → Int32 → Int32 → Mem → Prop
  | 0 => fun _ _ _ _ _ => False
  | n + 1 => fun x0 x1 x2 x3 M => mK M x0 = 14 ∧ ((mI M x0 42) ≤ x3 → K66 x0 x1 (x2 + 1) M) ∧ (¬ (mI M x0 42) ≤ x3 → mK M (mR M x0 41) = 20 ∧ vp_in x2 (mN M (mR M x0 41)) ∧ ∀ y16 : Int32, y16 = x1 * ((mI M (mR M x0 41) x2.toNatClampNeg) / 10) → vp_in x2 (mN M (mR M x0 41)) ∧ ∀ y19 : Int32, y19 = x1 * ((mI M (mR M x0 41) x2.toNatClampNeg) - (mI M (mR M x0 41) x2.toNatClampNeg) / 10 * 10) → vp_in x3 (mN M (mR M x0 41)) ∧ ∀ y22 : Int32, y22 = x1 * ((mI M (mR M x0 41) x3.toNatClampNeg) / 10) → vp_in x3 (mN M (mR M x0 41)) ∧ ∀ y25 : Int32, y25 = x1 * ((mI M (mR M x0 41) x3.toNatClampNeg) - (mI M (mR M x0 41) x3.toNatClampNeg) / 10 * 10) → wp_X13_meanBeside x0 y16 y19 y22 y25 0 M (fun r30 M29 => mK M29 (mR M x0 43) = 21 ∧ vp_in ((15 * x2) + x3) (mN M29 (mR M x0 43)) ∧ ∀ M31 : Mem, M31 = uJ M29 (mR M x0 43) ((15 * x2) + x3).toNatClampNeg r30 → mK M31 x0 = 14 ∧ wp_X13_meanBeside x0 y22 y25 y16 y19 1 M31 (fun r36 M35 => mK M35 (mR M31 x0 44) = 21 ∧ vp_in ((15 * x2) + x3) (mN M35 (mR M31 x0 44)) ∧ ∀ M37 : Mem, M37 = uJ M35 (mR M31 x0 44) ((15 * x2) + x3).toNatClampNeg r36 → (lp_X13_findSlates_76 K66 Q n) x0 x1 x2 (x3 + 1) M37)))
theorem P_lp_X13_findSlates_76 {G : GG} {K66 : Nat → Int32 → Int32 → Mem → Prop} {Q : Mem → Prop} (hK66 : ∀ (x0 : Nat) (x1 : Int32) (x2 : Int32) (M : Mem), K66 x0 x1 x2 M → PW G mX13_findSlates (rmD 2 0 0) (QV Q) 66 [some (.ref x0), some (.int x1), some (.int x2), none, none, none, none, none] [] M 0 0) : ∀ (n : Nat) (x0 : Nat) (x1 : Int32) (x2 : Int32) (x3 : Int32) (M : Mem), lp_X13_findSlates_76 K66 Q n x0 x1 x2 x3 M → PW G mX13_findSlates (rmD 2 0 0) (QV Q) 76 [some (.ref x0), some (.int x1), some (.int x2), some (.int x3), none, none, none, none] [] M 0 0 := by
  intro n
  induction n with
  | zero => intro x0 x1 x2 x3 M h; exact h.elim
  | succ n ih =>
    intro x0 x1 x2 x3 M h
    exact (s_iload_n (pc := 76) dX13_findSlates_76 rfl (s_aload_n (pc := 77) dX13_findSlates_77 rfl (s_getI (pc := 78) dX13_findSlates_78 f_X13_354 rfl h.1 (s_icmp_ge (pc := 81) (tgt := 190) dX13_findSlates_81 rfl (fun c12 => have h13 := h.2.1 c12; s_iinc (pc := 190) (L1 := [some (.ref x0), some (.int x1), some (.int (x2 + 1)), some (.int x3), none, none, none, none]) dX13_findSlates_190 rfl ci_1 (Nat.le_of_ble_eq_true rfl) rfl (s_goto (pc := 193) (tgt := 66) dX13_findSlates_193 rfl (s_sel (L1 := [some (.ref x0), some (.int x1), some (.int (x2 + 1)), none, none, none, none, none]) [true, true, true, false, false, false, false, false] rfl (hK66 x0 x1 (x2 + 1) M h13)))) (fun c14 => have h15 := h.2.2 c14; s_iload_n (pc := 84) dX13_findSlates_84 rfl (s_aload_n (pc := 85) dX13_findSlates_85 rfl (s_getR (pc := 86) dX13_findSlates_86 f_X13_82 rfl h.1 (s_iload_n (pc := 89) dX13_findSlates_89 rfl (s_ial (pc := 90) dX13_findSlates_90 h15.1 h15.2.1 (s_bipush (pc := 91) dX13_findSlates_91 cb_10 (s_idiv (pc := 93) dX13_findSlates_93 (by decide) (s_imul (pc := 94) dX13_findSlates_94 (nmI (fun y16 e17 => have h18 := h15.2.2 y16 e17; s_istore (pc := 95) (L1 := [some (.ref x0), some (.int x1), some (.int x2), some (.int x3), some (.int y16), none, none, none]) dX13_findSlates_95 (Nat.le_of_ble_eq_true rfl) rfl (s_iload_n (pc := 97) dX13_findSlates_97 rfl (s_aload_n (pc := 98) dX13_findSlates_98 rfl (s_getR (pc := 99) dX13_findSlates_99 f_X13_82 rfl h.1 (s_iload_n (pc := 102) dX13_findSlates_102 rfl (s_ial (pc := 103) dX13_findSlates_103 h15.1 h18.1 (s_bipush (pc := 104) dX13_findSlates_104 cb_10 (s_irem (pc := 106) dX13_findSlates_106 (by decide) (s_imul (pc := 107) dX13_findSlates_107 (nmI (fun y19 e20 => have h21 := h18.2 y19 e20; s_istore (pc := 108) (L1 := [some (.ref x0), some (.int x1), some (.int x2), some (.int x3), some (.int y16), some (.int y19), none, none]) dX13_findSlates_108 (Nat.le_of_ble_eq_true rfl) rfl (s_iload_n (pc := 110) dX13_findSlates_110 rfl (s_aload_n (pc := 111) dX13_findSlates_111 rfl (s_getR (pc := 112) dX13_findSlates_112 f_X13_82 rfl h.1 (s_iload_n (pc := 115) dX13_findSlates_115 rfl (s_ial (pc := 116) dX13_findSlates_116 h15.1 h21.1 (s_bipush (pc := 117) dX13_findSlates_117 cb_10 (s_idiv (pc := 119) dX13_findSlates_119 (by decide) (s_imul (pc := 120) dX13_findSlates_120 (nmI (fun y22 e23 => have h24 := h21.2 y22 e23; s_istore (pc := 121) (L1 := [some (.ref x0), some (.int x1), some (.int x2), some (.int x3), some (.int y16), some (.int y19), some (.int y22), none]) dX13_findSlates_121 (Nat.le_of_ble_eq_true rfl) rfl (s_iload_n (pc := 123) dX13_findSlates_123 rfl (s_aload_n (pc := 124) dX13_findSlates_124 rfl (s_getR (pc := 125) dX13_findSlates_125 f_X13_82 rfl h.1 (s_iload_n (pc := 128) dX13_findSlates_128 rfl (s_ial (pc := 129) dX13_findSlates_129 h15.1 h24.1 (s_bipush (pc := 130) dX13_findSlates_130 cb_10 (s_irem (pc := 132) dX13_findSlates_132 (by decide) (s_imul (pc := 133) dX13_findSlates_133 (nmI (fun y25 e26 => have h27 := h24.2 y25 e26; s_istore (pc := 134) (L1 := [some (.ref x0), some (.int x1), some (.int x2), some (.int x3), some (.int y16), some (.int y19), some (.int y22), some (.int y25)]) dX13_findSlates_134 (Nat.le_of_ble_eq_true rfl) rfl (s_aload_n (pc := 136) dX13_findSlates_136 rfl (s_getR (pc := 137) dX13_findSlates_137 f_X13_85 rfl h.1 (s_bipush (pc := 140) dX13_findSlates_140 cb_15 (s_iload_n (pc := 142) dX13_findSlates_142 rfl (s_imul (pc := 143) dX13_findSlates_143 (s_iload_n (pc := 144) dX13_findSlates_144 rfl (s_iadd (pc := 145) dX13_findSlates_145 (s_aload_n (pc := 146) dX13_findSlates_146 rfl (s_iload (pc := 147) dX13_findSlates_147 rfl (s_iload (pc := 149) dX13_findSlates_149 rfl (s_iload (pc := 151) dX13_findSlates_151 rfl (s_iload (pc := 153) dX13_findSlates_153 rfl (s_iconst (pc := 155) dX13_findSlates_155 ci_0 (s_callV (pc := 156) (As := [.int y16, .int y19, .int y22, .int y25, .int 0]) (rest := [.int ((15 * x2) + x3), .ref (mR M x0 43)]) (d' := 1) (mc' := 0) (ms' := 0) dX13_findSlates_156 c_X13_350 (Nat.le_of_ble_eq_true rfl) rfl h.1 rfl rfl (Nat.le_of_ble_eq_true rfl) (rm_ok rfl rfl) ⟨Nat.le_refl 0, Nat.le_refl 0⟩ (T_X13_meanBeside h27) (kkJ (fun r30 M29 h28 => s_las (pc := 159) dX13_findSlates_159 h28.1 h28.2.1 (nmM (fun M31 e32 => have h33 := (h28.2.2) M31 e32; s_aload_n (pc := 160) dX13_findSlates_160 rfl (s_getR (pc := 161) dX13_findSlates_161 f_X13_88 rfl h33.1 (s_bipush (pc := 164) dX13_findSlates_164 cb_15 (s_iload_n (pc := 166) dX13_findSlates_166 rfl (s_imul (pc := 167) dX13_findSlates_167 (s_iload_n (pc := 168) dX13_findSlates_168 rfl (s_iadd (pc := 169) dX13_findSlates_169 (s_aload_n (pc := 170) dX13_findSlates_170 rfl (s_iload (pc := 171) dX13_findSlates_171 rfl (s_iload (pc := 173) dX13_findSlates_173 rfl (s_iload (pc := 175) dX13_findSlates_175 rfl (s_iload (pc := 177) dX13_findSlates_177 rfl (s_iconst (pc := 179) dX13_findSlates_179 ci_1 (s_callV (pc := 180) (As := [.int y22, .int y25, .int y16, .int y19, .int 1]) (rest := [.int ((15 * x2) + x3), .ref (mR M31 x0 44)]) (d' := 1) (mc' := 0) (ms' := 0) dX13_findSlates_180 c_X13_350 (Nat.le_of_ble_eq_true rfl) rfl h33.1 rfl rfl (Nat.le_of_ble_eq_true rfl) (rm_ok rfl rfl) ⟨Nat.le_refl 0, Nat.le_refl 0⟩ (T_X13_meanBeside h33.2) (kkJ (fun r36 M35 h34 => s_las (pc := 183) dX13_findSlates_183 h34.1 h34.2.1 (nmM (fun M37 e38 => have h39 := (h34.2.2) M37 e38; s_iinc (pc := 184) (L1 := [some (.ref x0), some (.int x1), some (.int x2), some (.int (x3 + 1)), some (.int y16), some (.int y19), some (.int y22), some (.int y25)]) dX13_findSlates_184 rfl ci_1 (Nat.le_of_ble_eq_true rfl) rfl (s_goto (pc := 187) (tgt := 76) dX13_findSlates_187 rfl (s_sel (L1 := [some (.ref x0), some (.int x1), some (.int x2), some (.int (x3 + 1)), none, none, none, none]) [true, true, true, true, false, false, false, false] rfl (ih x0 x1 x2 (x3 + 1) M37 h39))))))))))))))))))))))))))))))))))))))))))))))))))))))))))))))))))))))))))))))))))
def lp_X13_findSlates_66 (Q : Mem → Prop) : Nat → Nat → Int32 → Int32 → Mem → Prop
  | 0 => fun _ _ _ _ => False
  | n + 1 => fun x0 x1 x2 M => mK M x0 = 14 ∧ ((mI M x0 42) ≤ x2 → Q M) ∧ (¬ (mI M x0 42) ≤ x2 → ∃ n40 : Nat, lp_X13_findSlates_76 (fun fx0 fx1 fx2 fM => lp_X13_findSlates_66 Q n fx0 fx1 fx2 fM) Q n40 x0 x1 x2 0 M)
theorem P_lp_X13_findSlates_66 {G : GG} {Q : Mem → Prop} : ∀ (n : Nat) (x0 : Nat) (x1 : Int32) (x2 : Int32) (M : Mem), lp_X13_findSlates_66 Q n x0 x1 x2 M → PW G mX13_findSlates (rmD 2 0 0) (QV Q) 66 [some (.ref x0), some (.int x1), some (.int x2), none, none, none, none, none] [] M 0 0 := by
  intro n
  induction n with
  | zero => intro x0 x1 x2 M h; exact h.elim
  | succ n ih =>
    intro x0 x1 x2 M h
    exact (s_iload_n (pc := 66) dX13_findSlates_66 rfl (s_aload_n (pc := 67) dX13_findSlates_67 rfl (s_getI (pc := 68) dX13_findSlates_68 f_X13_354 rfl h.1 (s_icmp_ge (pc := 71) (tgt := 196) dX13_findSlates_71 rfl (fun c8 => have h9 := h.2.1 c8; s_return (pc := 196) dX13_findSlates_196 rfl (Nat.zero_le _) (Nat.zero_le _) ⟨rfl, h9⟩) (fun c10 => have h11 := h.2.2 c10; s_iconst (pc := 74) dX13_findSlates_74 ci_0 (s_istore_n (pc := 75) (L1 := [some (.ref x0), some (.int x1), some (.int x2), some (.int 0), none, none, none, none]) dX13_findSlates_75 (Nat.le_of_ble_eq_true rfl) rfl (Exists.elim h11 (fun n40 hn => s_sel (L1 := [some (.ref x0), some (.int x1), some (.int x2), some (.int 0), none, none, none, none]) [true, true, true, true, false, false, false, false] rfl (P_lp_X13_findSlates_76 ih n40 x0 x1 x2 0 M hn)))))))))
def lp_X13_findSlates_19 (K7 : Nat → Int32 → Int32 → Mem → Prop) (Q : Mem → Prop) : Nat → Nat → Int32 → Int32 → Int32 → Mem → Prop
  | 0 => fun _ _ _ _ _ => False
  | n + 1 => fun x0 x1 x2 x3 M => ((100 : Int32) < (x3 * x1) → K7 x0 x1 (x2 + 1) M) ∧ (¬ (100 : Int32) < (x3 * x1) → mK M x0 = 14 ∧ mK M (mR M x0 41) = 20 ∧ vp_in (mI M x0 42) (mN M (mR M x0 41)) ∧ ∀ M49 : Mem, M49 = uI M (mR M x0 41) (mI M x0 42).toNatClampNeg ((10 * x2) + x3) → ∀ M52 : Mem, M52 = uI M49 x0 42 ((mI M49 x0 42) + 1) → (lp_X13_findSlates_19 K7 Q n) x0 x1 x2 (x3 + 1) M52)
theorem P_lp_X13_findSlates_19 {G : GG} {K7 : Nat → Int32 → Int32 → Mem → Prop} {Q : Mem → Prop} (hK7 : ∀ (x0 : Nat) (x1 : Int32) (x2 : Int32) (M : Mem), K7 x0 x1 x2 M → PW G mX13_findSlates (rmD 2 0 0) (QV Q) 7 [some (.ref x0), some (.int x1), some (.int x2), none, none, none, none, none] [] M 0 0) : ∀ (n : Nat) (x0 : Nat) (x1 : Int32) (x2 : Int32) (x3 : Int32) (M : Mem), lp_X13_findSlates_19 K7 Q n x0 x1 x2 x3 M → PW G mX13_findSlates (rmD 2 0 0) (QV Q) 19 [some (.ref x0), some (.int x1), some (.int x2), some (.int x3), none, none, none, none] [] M 0 0 := by
  intro n
  induction n with
  | zero => intro x0 x1 x2 x3 M h; exact h.elim
  | succ n ih =>
    intro x0 x1 x2 x3 M h
    exact (s_iload_n (pc := 19) dX13_findSlates_19 rfl (s_iload_n (pc := 20) dX13_findSlates_20 rfl (s_imul (pc := 21) dX13_findSlates_21 (s_bipush (pc := 22) dX13_findSlates_22 cb_100 (s_icmp_gt (pc := 24) (tgt := 58) dX13_findSlates_24 rfl (fun c45 => have h46 := h.1 c45; s_iinc (pc := 58) (L1 := [some (.ref x0), some (.int x1), some (.int (x2 + 1)), some (.int x3), none, none, none, none]) dX13_findSlates_58 rfl ci_1 (Nat.le_of_ble_eq_true rfl) rfl (s_goto (pc := 61) (tgt := 7) dX13_findSlates_61 rfl (s_sel (L1 := [some (.ref x0), some (.int x1), some (.int (x2 + 1)), none, none, none, none, none]) [true, true, true, false, false, false, false, false] rfl (hK7 x0 x1 (x2 + 1) M h46)))) (fun c47 => have h48 := h.2 c47; s_aload_n (pc := 27) dX13_findSlates_27 rfl (s_getR (pc := 28) dX13_findSlates_28 f_X13_82 rfl h48.1 (s_aload_n (pc := 31) dX13_findSlates_31 rfl (s_getI (pc := 32) dX13_findSlates_32 f_X13_354 rfl h48.1 (s_bipush (pc := 35) dX13_findSlates_35 cb_10 (s_iload_n (pc := 37) dX13_findSlates_37 rfl (s_imul (pc := 38) dX13_findSlates_38 (s_iload_n (pc := 39) dX13_findSlates_39 rfl (s_iadd (pc := 40) dX13_findSlates_40 (s_ias (pc := 41) dX13_findSlates_41 h48.2.1 h48.2.2.1 (nmM (fun M49 e50 => have h51 := (h48.2.2.2) M49 e50; s_aload_n (pc := 42) dX13_findSlates_42 rfl (s_dup (pc := 43) dX13_findSlates_43 rfl (s_getI (pc := 44) dX13_findSlates_44 f_X13_354 rfl ((congrFun (congrArg mK e50) x0).trans h48.1) (s_iconst (pc := 47) dX13_findSlates_47 ci_1 (s_iadd (pc := 48) dX13_findSlates_48 (s_putI (pc := 49) dX13_findSlates_49 f_X13_354 (Or.inl rfl) (Or.inl rfl) ((congrFun (congrArg mK e50) x0).trans h48.1) (nmM (fun M52 e53 => have h54 := h51 M52 e53; s_iinc (pc := 52) (L1 := [some (.ref x0), some (.int x1), some (.int x2), some (.int (x3 + 1)), none, none, none, none]) dX13_findSlates_52 rfl ci_1 (Nat.le_of_ble_eq_true rfl) rfl (s_goto (pc := 55) (tgt := 19) dX13_findSlates_55 rfl (s_sel (L1 := [some (.ref x0), some (.int x1), some (.int x2), some (.int (x3 + 1)), none, none, none, none]) [true, true, true, true, false, false, false, false] rfl (ih x0 x1 x2 (x3 + 1) M52 h54)))))))))))))))))))))))))))
def lp_X13_findSlates_7 (Q : Mem → Prop) : Nat → Nat → Int32 → Int32 → Mem → Prop
  | 0 => fun _ _ _ _ => False
  | n + 1 => fun x0 x1 x2 M => ((100 : Int32) < (x2 * x1) → ∃ n41 : Nat, lp_X13_findSlates_66 Q n41 x0 x1 0 M) ∧ (¬ (100 : Int32) < (x2 * x1) → ∀ y42 : Int32, y42 = x2 + 1 → ∃ n55 : Nat, lp_X13_findSlates_19 (fun fx0 fx1 fx2 fM => lp_X13_findSlates_7 Q n fx0 fx1 fx2 fM) Q n55 x0 x1 x2 y42 M)
theorem P_lp_X13_findSlates_7 {G : GG} {Q : Mem → Prop} : ∀ (n : Nat) (x0 : Nat) (x1 : Int32) (x2 : Int32) (M : Mem), lp_X13_findSlates_7 Q n x0 x1 x2 M → PW G mX13_findSlates (rmD 2 0 0) (QV Q) 7 [some (.ref x0), some (.int x1), some (.int x2), none, none, none, none, none] [] M 0 0 := by
  intro n
  induction n with
  | zero => intro x0 x1 x2 M h; exact h.elim
  | succ n ih =>
    intro x0 x1 x2 M h
    exact (s_iload_n (pc := 7) dX13_findSlates_7 rfl (s_iload_n (pc := 8) dX13_findSlates_8 rfl (s_imul (pc := 9) dX13_findSlates_9 (s_bipush (pc := 10) dX13_findSlates_10 cb_100 (s_icmp_gt (pc := 12) (tgt := 64) dX13_findSlates_12 rfl (fun c4 => have h5 := h.1 c4; s_iconst (pc := 64) dX13_findSlates_64 ci_0 (s_istore_n (pc := 65) (L1 := [some (.ref x0), some (.int x1), some (.int 0), none, none, none, none, none]) dX13_findSlates_65 (Nat.le_of_ble_eq_true rfl) rfl (Exists.elim h5 (fun n41 hn => s_sel (L1 := [some (.ref x0), some (.int x1), some (.int 0), none, none, none, none, none]) [true, true, true, false, false, false, false, false] rfl (P_lp_X13_findSlates_66 n41 x0 x1 0 M hn))))) (fun c6 => have h7 := h.2 c6; s_iload_n (pc := 15) dX13_findSlates_15 rfl (s_iconst (pc := 16) dX13_findSlates_16 ci_1 (s_iadd (pc := 17) dX13_findSlates_17 (nmI (fun y42 e43 => have h44 := h7 y42 e43; s_istore_n (pc := 18) (L1 := [some (.ref x0), some (.int x1), some (.int x2), some (.int y42), none, none, none, none]) dX13_findSlates_18 (Nat.le_of_ble_eq_true rfl) rfl (Exists.elim h44 (fun n55 hn => s_sel (L1 := [some (.ref x0), some (.int x1), some (.int x2), some (.int y42), none, none, none, none]) [true, true, true, true, false, false, false, false] rfl (P_lp_X13_findSlates_19 ih n55 x0 x1 x2 y42 M hn)))))))))))))
def wp_X13_findSlates (p0 : Nat) (p1 : Int32) (M : Mem) (Q : Mem → Prop) : Prop := mK M p0 = 14 ∧ ∀ M1 : Mem, M1 = uI M p0 42 0 → ∃ n56 : Nat, lp_X13_findSlates_7 Q n56 p0 p1 0 M1
theorem T_X13_findSlates {G : GG} {Q : Mem → Prop} {M : Mem} {p0 : Nat} {p1 : Int32} (h : wp_X13_findSlates p0 p1 M Q) : PMet G mX13_findSlates 2 0 0 [.ref p0, .int p1] M (QV Q) :=
  mk_met (by decide) rfl rfl (by
    intro w hw x9 e9
    subst e9
    simp at hw) (Nat.le_of_ble_eq_true rfl) (s_pad (L1 := [some (.ref p0), some (.int p1), none, none, none, none, none, none]) 8 rfl (s_aload_n (pc := 0) dX13_findSlates_0 rfl (s_iconst (pc := 1) dX13_findSlates_1 ci_0 (s_putI (pc := 2) dX13_findSlates_2 f_X13_354 (Or.inl rfl) (Or.inl rfl) h.1 (nmM (fun M1 e2 => have h3 := h.2 M1 e2; s_iconst (pc := 5) dX13_findSlates_5 ci_0 (s_istore_n (pc := 6) (L1 := [some (.ref p0), some (.int p1), some (.int 0), none, none, none, none, none]) dX13_findSlates_6 (Nat.le_of_ble_eq_true rfl) rfl (Exists.elim h3 (fun n56 hn => s_sel (L1 := [some (.ref p0), some (.int p1), some (.int 0), none, none, none, none, none]) [true, true, true, false, false, false, false, false] rfl (P_lp_X13_findSlates_7 n56 p0 p1 0 M1 hn))))))))))
/-! X13_held -/
theorem dX13_held_0 : cod mX13_held 0 (.aload_n 0) 1 := by decide +kernel
theorem dX13_held_1 : cod mX13_held 1 (.iconst 0) 1 := by decide +kernel
theorem dX13_held_2 : cod mX13_held 2 (.putfield 115) 3 := by decide +kernel
theorem dX13_held_5 : cod mX13_held 5 (.aload_n 0) 1 := by decide +kernel
theorem dX13_held_6 : cod mX13_held 6 (.getfield 190) 3 := by decide +kernel
theorem dX13_held_9 : cod mX13_held 9 (.ireturn) 1 := by decide +kernel
def wp_X13_held (p0 : Nat) (M : Mem) (Q : Int32 → Mem → Prop) : Prop := mK M p0 = 14 ∧ ∀ M1 : Mem, M1 = uI M p0 12 0 → Q (mI M1 p0 11) M1
theorem T_X13_held {G : GG} {Q : Int32 → Mem → Prop} {M : Mem} {p0 : Nat} (h : wp_X13_held p0 M Q) : PMet G mX13_held 0 0 0 [.ref p0] M (QI Q) :=
  mk_met (by decide) rfl rfl (by
    intro w hw x9 e9
    subst e9
    simp at hw) (Nat.le_of_ble_eq_true rfl) (s_pad (L1 := [some (.ref p0)]) 1 rfl (s_aload_n (pc := 0) dX13_held_0 rfl (s_iconst (pc := 1) dX13_held_1 ci_0 (s_putI (pc := 2) dX13_held_2 f_X13_115 (Or.inl rfl) (Or.inl rfl) h.1 (nmM (fun M1 e2 => have h3 := h.2 M1 e2; s_aload_n (pc := 5) dX13_held_5 rfl (s_getI (pc := 6) dX13_held_6 f_X13_190 rfl ((congrFun (congrArg mK e2) p0).trans h.1) (s_ireturn (pc := 9) dX13_held_9 rfl (Nat.zero_le _) (Nat.zero_le _) ⟨_, rfl, h3⟩))))))))
/-! X13_here -/
theorem dX13_here_0 : cod mX13_here 0 (.aload_n 0) 1 := by decide +kernel
theorem dX13_here_1 : cod mX13_here 1 (.getfield 135) 3 := by decide +kernel
theorem dX13_here_4 : cod mX13_here 4 (.aload_n 0) 1 := by decide +kernel
theorem dX13_here_5 : cod mX13_here 5 (.getfield 138) 3 := by decide +kernel
theorem dX13_here_8 : cod mX13_here 8 (.if_icmp .lt 7) 3 := by decide +kernel
theorem dX13_here_11 : cod mX13_here 11 (.iconst (-1)) 1 := by decide +kernel
theorem dX13_here_12 : cod mX13_here 12 (.goto 22) 3 := by decide +kernel
theorem dX13_here_15 : cod mX13_here 15 (.aload_n 0) 1 := by decide +kernel
theorem dX13_here_16 : cod mX13_here 16 (.getfield 109) 3 := by decide +kernel
theorem dX13_here_19 : cod mX13_here 19 (.aload_n 0) 1 := by decide +kernel
theorem dX13_here_20 : cod mX13_here 20 (.getfield 141) 3 := by decide +kernel
theorem dX13_here_23 : cod mX13_here 23 (.aload_n 0) 1 := by decide +kernel
theorem dX13_here_24 : cod mX13_here 24 (.getfield 135) 3 := by decide +kernel
theorem dX13_here_27 : cod mX13_here 27 (.iadd) 1 := by decide +kernel
theorem dX13_here_28 : cod mX13_here 28 (.laload) 1 := by decide +kernel
theorem dX13_here_29 : cod mX13_here 29 (.l2i) 1 := by decide +kernel
theorem dX13_here_30 : cod mX13_here 30 (.sipush 255) 3 := by decide +kernel
theorem dX13_here_33 : cod mX13_here 33 (.iand) 1 := by decide +kernel
theorem dX13_here_34 : cod mX13_here 34 (.ireturn) 1 := by decide +kernel
def wp_X13_here (p0 : Nat) (M : Mem) (Q : Int32 → Mem → Prop) : Prop := mK M p0 = 14 ∧ ((mI M p0 15) < (mI M p0 14) → mK M (mR M p0 54) = 21 ∧ vp_in ((mI M p0 13) + (mI M p0 15)) (mN M (mR M p0 54)) ∧ Q (((mJ M (mR M p0 54) ((mI M p0 13) + (mI M p0 15)).toNatClampNeg).toInt32) &&& 255) M) ∧ (¬ (mI M p0 15) < (mI M p0 14) → Q (-1) M)
theorem T_X13_here {G : GG} {Q : Int32 → Mem → Prop} {M : Mem} {p0 : Nat} (h : wp_X13_here p0 M Q) : PMet G mX13_here 0 0 0 [.ref p0] M (QI Q) :=
  mk_met (by decide) rfl rfl (by
    intro w hw x9 e9
    subst e9
    simp at hw) (Nat.le_of_ble_eq_true rfl) (s_pad (L1 := [some (.ref p0)]) 1 rfl (s_aload_n (pc := 0) dX13_here_0 rfl (s_getI (pc := 1) dX13_here_1 f_X13_135 rfl h.1 (s_aload_n (pc := 4) dX13_here_4 rfl (s_getI (pc := 5) dX13_here_5 f_X13_138 rfl h.1 (s_icmp_lt (pc := 8) (tgt := 15) dX13_here_8 rfl (fun c1 => have h2 := h.2.1 c1; s_aload_n (pc := 15) dX13_here_15 rfl (s_getR (pc := 16) dX13_here_16 f_X13_109 rfl h.1 (s_aload_n (pc := 19) dX13_here_19 rfl (s_getI (pc := 20) dX13_here_20 f_X13_141 rfl h.1 (s_aload_n (pc := 23) dX13_here_23 rfl (s_getI (pc := 24) dX13_here_24 f_X13_135 rfl h.1 (s_iadd (pc := 27) dX13_here_27 (s_lal (pc := 28) dX13_here_28 h2.1 h2.2.1 (s_l2i (pc := 29) dX13_here_29 (s_sipush (pc := 30) dX13_here_30 cs_255 (s_iand (pc := 33) dX13_here_33 (s_ireturn (pc := 34) dX13_here_34 rfl (Nat.zero_le _) (Nat.zero_le _) ⟨_, rfl, h2.2.2⟩)))))))))))) (fun c3 => have h4 := h.2.2 c3; s_iconst (pc := 11) dX13_here_11 ci_m1 (s_goto (pc := 12) (tgt := 34) dX13_here_12 rfl (s_ireturn (pc := 34) dX13_here_34 rfl (Nat.zero_le _) (Nat.zero_le _) ⟨_, rfl, h4⟩)))))))))
/-! X13_moveLong -/
theorem dX13_moveLong_0 : cod mX13_moveLong 0 (.aload_n 0) 1 := by decide +kernel
theorem dX13_moveLong_1 : cod mX13_moveLong 1 (.getfield 369) 3 := by decide +kernel
theorem dX13_moveLong_4 : cod mX13_moveLong 4 (.ifCond .eq 13) 3 := by decide +kernel
theorem dX13_moveLong_7 : cod mX13_moveLong 7 (.aload_n 0) 1 := by decide +kernel
theorem dX13_moveLong_8 : cod mX13_moveLong 8 (.getfield 91) 3 := by decide +kernel
theorem dX13_moveLong_11 : cod mX13_moveLong 11 (.aload_n 0) 1 := by decide +kernel
theorem dX13_moveLong_12 : cod mX13_moveLong 12 (.getfield 372) 3 := by decide +kernel
theorem dX13_moveLong_15 : cod mX13_moveLong 15 (.lload_n 1) 1 := by decide +kernel
theorem dX13_moveLong_16 : cod mX13_moveLong 16 (.lastore) 1 := by decide +kernel
theorem dX13_moveLong_17 : cod mX13_moveLong 17 (.aload_n 0) 1 := by decide +kernel
theorem dX13_moveLong_18 : cod mX13_moveLong 18 (.dup) 1 := by decide +kernel
theorem dX13_moveLong_19 : cod mX13_moveLong 19 (.getfield 372) 3 := by decide +kernel
theorem dX13_moveLong_22 : cod mX13_moveLong 22 (.iconst 1) 1 := by decide +kernel
theorem dX13_moveLong_23 : cod mX13_moveLong 23 (.iadd) 1 := by decide +kernel
theorem dX13_moveLong_24 : cod mX13_moveLong 24 (.putfield 372) 3 := by decide +kernel
theorem dX13_moveLong_27 : cod mX13_moveLong 27 (.aload_n 0) 1 := by decide +kernel
theorem dX13_moveLong_28 : cod mX13_moveLong 28 (.getfield 91) 3 := by decide +kernel
theorem dX13_moveLong_31 : cod mX13_moveLong 31 (.aload_n 0) 1 := by decide +kernel
theorem dX13_moveLong_32 : cod mX13_moveLong 32 (.getfield 372) 3 := by decide +kernel
theorem dX13_moveLong_35 : cod mX13_moveLong 35 (.iconst 1) 1 := by decide +kernel
theorem dX13_moveLong_36 : cod mX13_moveLong 36 (.isub) 1 := by decide +kernel
theorem dX13_moveLong_37 : cod mX13_moveLong 37 (.laload) 1 := by decide +kernel
theorem dX13_moveLong_38 : cod mX13_moveLong 38 (.lreturn) 1 := by decide +kernel
def jn_X13_moveLong_17 (Q : Int64 → Mem → Prop) (x0 : Nat) (M : Mem) : Prop := mK M x0 = 14 ∧ ∀ M5 : Mem, M5 = uI M x0 47 ((mI M x0 47) + 1) → mK M5 (mR M5 x0 46) = 21 ∧ vp_in ((mI M5 x0 47) - 1) (mN M5 (mR M5 x0 46)) ∧ Q (mJ M5 (mR M5 x0 46) ((mI M5 x0 47) - 1).toNatClampNeg) M5
theorem P_jn_X13_moveLong_17 {G : GG} {Q : Int64 → Mem → Prop} (x0 : Nat) (M : Mem) (h : jn_X13_moveLong_17 Q x0 M) : PW G mX13_moveLong (rmD 0 0 0) (QJ Q) 17 [some (.ref x0), none, none] [] M 0 0 := (s_aload_n (pc := 17) dX13_moveLong_17 rfl (s_dup (pc := 18) dX13_moveLong_18 rfl (s_getI (pc := 19) dX13_moveLong_19 f_X13_372 rfl h.1 (s_iconst (pc := 22) dX13_moveLong_22 ci_1 (s_iadd (pc := 23) dX13_moveLong_23 (s_putI (pc := 24) dX13_moveLong_24 f_X13_372 (Or.inl rfl) (Or.inl rfl) h.1 (nmM (fun M5 e6 => have h7 := h.2 M5 e6; s_aload_n (pc := 27) dX13_moveLong_27 rfl (s_getR (pc := 28) dX13_moveLong_28 f_X13_91 rfl ((congrFun (congrArg mK e6) x0).trans h.1) (s_aload_n (pc := 31) dX13_moveLong_31 rfl (s_getI (pc := 32) dX13_moveLong_32 f_X13_372 rfl ((congrFun (congrArg mK e6) x0).trans h.1) (s_iconst (pc := 35) dX13_moveLong_35 ci_1 (s_isub (pc := 36) dX13_moveLong_36 (s_lal (pc := 37) dX13_moveLong_37 h7.1 h7.2.1 (s_lreturn (pc := 38) dX13_moveLong_38 rfl (Nat.zero_le _) (Nat.zero_le _) ⟨_, rfl, h7.2.2⟩)))))))))))))))
def wp_X13_moveLong (p0 : Nat) (p1 : Int64) (M : Mem) (Q : Int64 → Mem → Prop) : Prop := mK M p0 = 14 ∧ ((mI M p0 48) = (0 : Int32) → jn_X13_moveLong_17 Q p0 M) ∧ (¬ (mI M p0 48) = (0 : Int32) → mK M (mR M p0 46) = 21 ∧ vp_in (mI M p0 47) (mN M (mR M p0 46)) ∧ ∀ M8 : Mem, M8 = uJ M (mR M p0 46) (mI M p0 47).toNatClampNeg p1 → jn_X13_moveLong_17 Q p0 M8)
theorem T_X13_moveLong {G : GG} {Q : Int64 → Mem → Prop} {M : Mem} {p0 : Nat} {p1 : Int64} (h : wp_X13_moveLong p0 p1 M Q) : PMet G mX13_moveLong 0 0 0 [.ref p0, .long p1] M (QJ Q) :=
  mk_met (by decide) rfl rfl (by
    intro w hw x9 e9
    subst e9
    simp at hw) (Nat.le_of_ble_eq_true rfl) (s_pad (L1 := [some (.ref p0), some (.long p1), none]) 3 rfl (s_aload_n (pc := 0) dX13_moveLong_0 rfl (s_getI (pc := 1) dX13_moveLong_1 f_X13_369 rfl h.1 (s_if_eq (pc := 4) (tgt := 17) dX13_moveLong_4 rfl (fun c1 => have h2 := h.2.1 c1; s_sel (L1 := [some (.ref p0), none, none]) [true, false, false] rfl (P_jn_X13_moveLong_17 p0 M h2)) (fun c3 => have h4 := h.2.2 c3; s_aload_n (pc := 7) dX13_moveLong_7 rfl (s_getR (pc := 8) dX13_moveLong_8 f_X13_91 rfl h.1 (s_aload_n (pc := 11) dX13_moveLong_11 rfl (s_getI (pc := 12) dX13_moveLong_12 f_X13_372 rfl h.1 (s_lload_n (pc := 15) dX13_moveLong_15 rfl (s_las (pc := 16) dX13_moveLong_16 h4.1 h4.2.1 (nmM (fun M8 e9 => have h10 := (h4.2.2) M8 e9; s_sel (L1 := [some (.ref p0), none, none]) [true, false, false] rfl (P_jn_X13_moveLong_17 p0 M8 h10)))))))))))))
/-! X13_move -/
theorem dX13_move_0 : cod mX13_move 0 (.aload_n 0) 1 := by decide +kernel
theorem dX13_move_1 : cod mX13_move 1 (.iload_n 1) 1 := by decide +kernel
theorem dX13_move_2 : cod mX13_move 2 (.i2l) 1 := by decide +kernel
theorem dX13_move_3 : cod mX13_move 3 (.invokevirtual 375) 3 := by decide +kernel
theorem dX13_move_6 : cod mX13_move 6 (.l2i) 1 := by decide +kernel
theorem dX13_move_7 : cod mX13_move 7 (.ireturn) 1 := by decide +kernel
def wp_X13_move (p0 : Nat) (p1 : Int32) (M : Mem) (Q : Int32 → Mem → Prop) : Prop := mK M p0 = 14 ∧ wp_X13_moveLong p0 p1.toInt64 M (fun r3 M2 => Q r3.toInt32 M2)
theorem T_X13_move {G : GG} {Q : Int32 → Mem → Prop} {M : Mem} {p0 : Nat} {p1 : Int32} (h : wp_X13_move p0 p1 M Q) : PMet G mX13_move 1 0 0 [.ref p0, .int p1] M (QI Q) :=
  mk_met (by decide) rfl rfl (by
    intro w hw x9 e9
    subst e9
    simp at hw) (Nat.le_of_ble_eq_true rfl) (s_pad (L1 := [some (.ref p0), some (.int p1)]) 2 rfl (s_aload_n (pc := 0) dX13_move_0 rfl (s_iload_n (pc := 1) dX13_move_1 rfl (s_i2l (pc := 2) dX13_move_2 (s_callV (pc := 3) (As := [.long p1.toInt64]) (rest := []) (d' := 0) (mc' := 0) (ms' := 0) dX13_move_3 c_X13_375 (Nat.le_of_ble_eq_true rfl) rfl h.1 rfl rfl (Nat.le_of_ble_eq_true rfl) (rm_ok rfl rfl) ⟨Nat.le_refl 0, Nat.le_refl 0⟩ (T_X13_moveLong h.2) (kkJ (fun r3 M2 h1 => s_l2i (pc := 6) dX13_move_6 (s_ireturn (pc := 7) dX13_move_7 rfl (Nat.zero_le _) (Nat.zero_le _) ⟨_, rfl, h1⟩))))))))
/-! X13_moveAll -/
theorem dX13_moveAll_0 : cod mX13_moveAll 0 (.aload_n 0) 1 := by decide +kernel
theorem dX13_moveAll_1 : cod mX13_moveAll 1 (.iconst 0) 1 := by decide +kernel
theorem dX13_moveAll_2 : cod mX13_moveAll 2 (.putfield 372) 3 := by decide +kernel
theorem dX13_moveAll_5 : cod mX13_moveAll 5 (.aload_n 0) 1 := by decide +kernel
theorem dX13_moveAll_6 : cod mX13_moveAll 6 (.aload_n 0) 1 := by decide +kernel
theorem dX13_moveAll_7 : cod mX13_moveAll 7 (.aload_n 0) 1 := by decide +kernel
theorem dX13_moveAll_8 : cod mX13_moveAll 8 (.getfield 119) 3 := by decide +kernel
theorem dX13_moveAll_11 : cod mX13_moveAll 11 (.invokevirtual 379) 3 := by decide +kernel
theorem dX13_moveAll_14 : cod mX13_moveAll 14 (.putfield 119) 3 := by decide +kernel
theorem dX13_moveAll_17 : cod mX13_moveAll 17 (.aload_n 0) 1 := by decide +kernel
theorem dX13_moveAll_18 : cod mX13_moveAll 18 (.aload_n 0) 1 := by decide +kernel
theorem dX13_moveAll_19 : cod mX13_moveAll 19 (.aload_n 0) 1 := by decide +kernel
theorem dX13_moveAll_20 : cod mX13_moveAll 20 (.getfield 128) 3 := by decide +kernel
theorem dX13_moveAll_23 : cod mX13_moveAll 23 (.invokevirtual 379) 3 := by decide +kernel
theorem dX13_moveAll_26 : cod mX13_moveAll 26 (.putfield 128) 3 := by decide +kernel
theorem dX13_moveAll_29 : cod mX13_moveAll 29 (.aload_n 0) 1 := by decide +kernel
theorem dX13_moveAll_30 : cod mX13_moveAll 30 (.aload_n 0) 1 := by decide +kernel
theorem dX13_moveAll_31 : cod mX13_moveAll 31 (.aload_n 0) 1 := by decide +kernel
theorem dX13_moveAll_32 : cod mX13_moveAll 32 (.getfield 25) 3 := by decide +kernel
theorem dX13_moveAll_35 : cod mX13_moveAll 35 (.invokevirtual 379) 3 := by decide +kernel
theorem dX13_moveAll_38 : cod mX13_moveAll 38 (.putfield 25) 3 := by decide +kernel
theorem dX13_moveAll_41 : cod mX13_moveAll 41 (.aload_n 0) 1 := by decide +kernel
theorem dX13_moveAll_42 : cod mX13_moveAll 42 (.aload_n 0) 1 := by decide +kernel
theorem dX13_moveAll_43 : cod mX13_moveAll 43 (.aload_n 0) 1 := by decide +kernel
theorem dX13_moveAll_44 : cod mX13_moveAll 44 (.getfield 171) 3 := by decide +kernel
theorem dX13_moveAll_47 : cod mX13_moveAll 47 (.invokevirtual 379) 3 := by decide +kernel
theorem dX13_moveAll_50 : cod mX13_moveAll 50 (.putfield 171) 3 := by decide +kernel
theorem dX13_moveAll_53 : cod mX13_moveAll 53 (.aload_n 0) 1 := by decide +kernel
theorem dX13_moveAll_54 : cod mX13_moveAll 54 (.aload_n 0) 1 := by decide +kernel
theorem dX13_moveAll_55 : cod mX13_moveAll 55 (.aload_n 0) 1 := by decide +kernel
theorem dX13_moveAll_56 : cod mX13_moveAll 56 (.getfield 29) 3 := by decide +kernel
theorem dX13_moveAll_59 : cod mX13_moveAll 59 (.invokevirtual 379) 3 := by decide +kernel
theorem dX13_moveAll_62 : cod mX13_moveAll 62 (.putfield 29) 3 := by decide +kernel
theorem dX13_moveAll_65 : cod mX13_moveAll 65 (.aload_n 0) 1 := by decide +kernel
theorem dX13_moveAll_66 : cod mX13_moveAll 66 (.aload_n 0) 1 := by decide +kernel
theorem dX13_moveAll_67 : cod mX13_moveAll 67 (.aload_n 0) 1 := by decide +kernel
theorem dX13_moveAll_68 : cod mX13_moveAll 68 (.getfield 190) 3 := by decide +kernel
theorem dX13_moveAll_71 : cod mX13_moveAll 71 (.invokevirtual 379) 3 := by decide +kernel
theorem dX13_moveAll_74 : cod mX13_moveAll 74 (.putfield 190) 3 := by decide +kernel
theorem dX13_moveAll_77 : cod mX13_moveAll 77 (.iconst 0) 1 := by decide +kernel
theorem dX13_moveAll_78 : cod mX13_moveAll 78 (.istore_n 1) 1 := by decide +kernel
theorem dX13_moveAll_79 : cod mX13_moveAll 79 (.iload_n 1) 1 := by decide +kernel
theorem dX13_moveAll_80 : cod mX13_moveAll 80 (.bipush 6) 2 := by decide +kernel
theorem dX13_moveAll_82 : cod mX13_moveAll 82 (.if_icmp .ge 105) 3 := by decide +kernel
theorem dX13_moveAll_85 : cod mX13_moveAll 85 (.aload_n 0) 1 := by decide +kernel
theorem dX13_moveAll_86 : cod mX13_moveAll 86 (.getfield 7) 3 := by decide +kernel
theorem dX13_moveAll_89 : cod mX13_moveAll 89 (.iload_n 1) 1 := by decide +kernel
theorem dX13_moveAll_90 : cod mX13_moveAll 90 (.aload_n 0) 1 := by decide +kernel
theorem dX13_moveAll_91 : cod mX13_moveAll 91 (.aload_n 0) 1 := by decide +kernel
theorem dX13_moveAll_92 : cod mX13_moveAll 92 (.getfield 7) 3 := by decide +kernel
theorem dX13_moveAll_95 : cod mX13_moveAll 95 (.iload_n 1) 1 := by decide +kernel
theorem dX13_moveAll_96 : cod mX13_moveAll 96 (.iaload) 1 := by decide +kernel
theorem dX13_moveAll_97 : cod mX13_moveAll 97 (.invokevirtual 379) 3 := by decide +kernel
theorem dX13_moveAll_100 : cod mX13_moveAll 100 (.iastore) 1 := by decide +kernel
theorem dX13_moveAll_101 : cod mX13_moveAll 101 (.aload_n 0) 1 := by decide +kernel
theorem dX13_moveAll_102 : cod mX13_moveAll 102 (.getfield 13) 3 := by decide +kernel
theorem dX13_moveAll_105 : cod mX13_moveAll 105 (.iload_n 1) 1 := by decide +kernel
theorem dX13_moveAll_106 : cod mX13_moveAll 106 (.aload_n 0) 1 := by decide +kernel
theorem dX13_moveAll_107 : cod mX13_moveAll 107 (.aload_n 0) 1 := by decide +kernel
theorem dX13_moveAll_108 : cod mX13_moveAll 108 (.getfield 13) 3 := by decide +kernel
theorem dX13_moveAll_111 : cod mX13_moveAll 111 (.iload_n 1) 1 := by decide +kernel
theorem dX13_moveAll_112 : cod mX13_moveAll 112 (.iaload) 1 := by decide +kernel
theorem dX13_moveAll_113 : cod mX13_moveAll 113 (.invokevirtual 379) 3 := by decide +kernel
theorem dX13_moveAll_116 : cod mX13_moveAll 116 (.iastore) 1 := by decide +kernel
theorem dX13_moveAll_117 : cod mX13_moveAll 117 (.aload_n 0) 1 := by decide +kernel
theorem dX13_moveAll_118 : cod mX13_moveAll 118 (.getfield 32) 3 := by decide +kernel
theorem dX13_moveAll_121 : cod mX13_moveAll 121 (.iload_n 1) 1 := by decide +kernel
theorem dX13_moveAll_122 : cod mX13_moveAll 122 (.aload_n 0) 1 := by decide +kernel
theorem dX13_moveAll_123 : cod mX13_moveAll 123 (.aload_n 0) 1 := by decide +kernel
theorem dX13_moveAll_124 : cod mX13_moveAll 124 (.getfield 32) 3 := by decide +kernel
theorem dX13_moveAll_127 : cod mX13_moveAll 127 (.iload_n 1) 1 := by decide +kernel
theorem dX13_moveAll_128 : cod mX13_moveAll 128 (.laload) 1 := by decide +kernel
theorem dX13_moveAll_129 : cod mX13_moveAll 129 (.invokevirtual 375) 3 := by decide +kernel
theorem dX13_moveAll_132 : cod mX13_moveAll 132 (.lastore) 1 := by decide +kernel
theorem dX13_moveAll_133 : cod mX13_moveAll 133 (.aload_n 0) 1 := by decide +kernel
theorem dX13_moveAll_134 : cod mX13_moveAll 134 (.getfield 16) 3 := by decide +kernel
theorem dX13_moveAll_137 : cod mX13_moveAll 137 (.iload_n 1) 1 := by decide +kernel
theorem dX13_moveAll_138 : cod mX13_moveAll 138 (.aload_n 0) 1 := by decide +kernel
theorem dX13_moveAll_139 : cod mX13_moveAll 139 (.aload_n 0) 1 := by decide +kernel
theorem dX13_moveAll_140 : cod mX13_moveAll 140 (.getfield 16) 3 := by decide +kernel
theorem dX13_moveAll_143 : cod mX13_moveAll 143 (.iload_n 1) 1 := by decide +kernel
theorem dX13_moveAll_144 : cod mX13_moveAll 144 (.iaload) 1 := by decide +kernel
theorem dX13_moveAll_145 : cod mX13_moveAll 145 (.invokevirtual 379) 3 := by decide +kernel
theorem dX13_moveAll_148 : cod mX13_moveAll 148 (.iastore) 1 := by decide +kernel
theorem dX13_moveAll_149 : cod mX13_moveAll 149 (.aload_n 0) 1 := by decide +kernel
theorem dX13_moveAll_150 : cod mX13_moveAll 150 (.getfield 19) 3 := by decide +kernel
theorem dX13_moveAll_153 : cod mX13_moveAll 153 (.iload_n 1) 1 := by decide +kernel
theorem dX13_moveAll_154 : cod mX13_moveAll 154 (.aload_n 0) 1 := by decide +kernel
theorem dX13_moveAll_155 : cod mX13_moveAll 155 (.aload_n 0) 1 := by decide +kernel
theorem dX13_moveAll_156 : cod mX13_moveAll 156 (.getfield 19) 3 := by decide +kernel
theorem dX13_moveAll_159 : cod mX13_moveAll 159 (.iload_n 1) 1 := by decide +kernel
theorem dX13_moveAll_160 : cod mX13_moveAll 160 (.iaload) 1 := by decide +kernel
theorem dX13_moveAll_161 : cod mX13_moveAll 161 (.invokevirtual 379) 3 := by decide +kernel
theorem dX13_moveAll_164 : cod mX13_moveAll 164 (.iastore) 1 := by decide +kernel
theorem dX13_moveAll_165 : cod mX13_moveAll 165 (.aload_n 0) 1 := by decide +kernel
theorem dX13_moveAll_166 : cod mX13_moveAll 166 (.getfield 22) 3 := by decide +kernel
theorem dX13_moveAll_169 : cod mX13_moveAll 169 (.iload_n 1) 1 := by decide +kernel
theorem dX13_moveAll_170 : cod mX13_moveAll 170 (.aload_n 0) 1 := by decide +kernel
theorem dX13_moveAll_171 : cod mX13_moveAll 171 (.aload_n 0) 1 := by decide +kernel
theorem dX13_moveAll_172 : cod mX13_moveAll 172 (.getfield 22) 3 := by decide +kernel
theorem dX13_moveAll_175 : cod mX13_moveAll 175 (.iload_n 1) 1 := by decide +kernel
theorem dX13_moveAll_176 : cod mX13_moveAll 176 (.iaload) 1 := by decide +kernel
theorem dX13_moveAll_177 : cod mX13_moveAll 177 (.invokevirtual 379) 3 := by decide +kernel
theorem dX13_moveAll_180 : cod mX13_moveAll 180 (.iastore) 1 := by decide +kernel
theorem dX13_moveAll_181 : cod mX13_moveAll 181 (.iinc 1 1) 3 := by decide +kernel
theorem dX13_moveAll_184 : cod mX13_moveAll 184 (.goto (-105)) 3 := by decide +kernel
theorem dX13_moveAll_187 : cod mX13_moveAll 187 (.return_) 1 := by decide +kernel
def lp_X13_moveAll_79 (Q : Mem → Prop) : Nat → Nat → Int32 → Mem → Prop
  | 0 => fun _ _ _ => False
  | n + 1 => fun x0 x1 M => ((6 : Int32) ≤ x1 → Q M) ∧ (¬ (6 : Int32) ≤ x1 → mK M x0 = 14 ∧ mK M (mR M x0 1) = 20 ∧ vp_in x1 (mN M (mR M x0 1)) ∧ wp_X13_move x0 (mI M (mR M x0 1) x1.toNatClampNeg) M (fun r46 M45 => mK M45 (mR M x0 1) = 20 ∧ vp_in x1 (mN M45 (mR M x0 1)) ∧ ∀ M47 : Mem, M47 = uI M45 (mR M x0 1) x1.toNatClampNeg r46 → mK M47 x0 = 14 ∧ mK M47 (mR M47 x0 2) = 20 ∧ vp_in x1 (mN M47 (mR M47 x0 2)) ∧ wp_X13_move x0 (mI M47 (mR M47 x0 2) x1.toNatClampNeg) M47 (fun r52 M51 => mK M51 (mR M47 x0 2) = 20 ∧ vp_in x1 (mN M51 (mR M47 x0 2)) ∧ ∀ M53 : Mem, M53 = uI M51 (mR M47 x0 2) x1.toNatClampNeg r52 → mK M53 x0 = 14 ∧ mK M53 (mR M53 x0 10) = 21 ∧ vp_in x1 (mN M53 (mR M53 x0 10)) ∧ wp_X13_moveLong x0 (mJ M53 (mR M53 x0 10) x1.toNatClampNeg) M53 (fun r58 M57 => mK M57 (mR M53 x0 10) = 21 ∧ vp_in x1 (mN M57 (mR M53 x0 10)) ∧ ∀ M59 : Mem, M59 = uJ M57 (mR M53 x0 10) x1.toNatClampNeg r58 → mK M59 x0 = 14 ∧ mK M59 (mR M59 x0 4) = 20 ∧ vp_in x1 (mN M59 (mR M59 x0 4)) ∧ wp_X13_move x0 (mI M59 (mR M59 x0 4) x1.toNatClampNeg) M59 (fun r64 M63 => mK M63 (mR M59 x0 4) = 20 ∧ vp_in x1 (mN M63 (mR M59 x0 4)) ∧ ∀ M65 : Mem, M65 = uI M63 (mR M59 x0 4) x1.toNatClampNeg r64 → mK M65 x0 = 14 ∧ mK M65 (mR M65 x0 5) = 20 ∧ vp_in x1 (mN M65 (mR M65 x0 5)) ∧ wp_X13_move x0 (mI M65 (mR M65 x0 5) x1.toNatClampNeg) M65 (fun r70 M69 => mK M69 (mR M65 x0 5) = 20 ∧ vp_in x1 (mN M69 (mR M65 x0 5)) ∧ ∀ M71 : Mem, M71 = uI M69 (mR M65 x0 5) x1.toNatClampNeg r70 → mK M71 x0 = 14 ∧ mK M71 (mR M71 x0 6) = 20 ∧ vp_in x1 (mN M71 (mR M71 x0 6)) ∧ wp_X13_move x0 (mI M71 (mR M71 x0 6) x1.toNatClampNeg) M71 (fun r76 M75 => mK M75 (mR M71 x0 6) = 20 ∧ vp_in x1 (mN M75 (mR M71 x0 6)) ∧ ∀ M77 : Mem, M77 = uI M75 (mR M71 x0 6) x1.toNatClampNeg r76 → (lp_X13_moveAll_79 Q n) x0 (x1 + 1) M77)))))))
theorem P_lp_X13_moveAll_79 {G : GG} {Q : Mem → Prop} : ∀ (n : Nat) (x0 : Nat) (x1 : Int32) (M : Mem), lp_X13_moveAll_79 Q n x0 x1 M → PW G mX13_moveAll (rmD 2 0 0) (QV Q) 79 [some (.ref x0), some (.int x1)] [] M 0 0 := by
  intro n
  induction n with
  | zero => intro x0 x1 M h; exact h.elim
  | succ n ih =>
    intro x0 x1 M h
    exact (s_iload_n (pc := 79) dX13_moveAll_79 rfl (s_bipush (pc := 80) dX13_moveAll_80 cb_6 (s_icmp_ge (pc := 82) (tgt := 187) dX13_moveAll_82 rfl (fun c40 => have h41 := h.1 c40; s_return (pc := 187) dX13_moveAll_187 rfl (Nat.zero_le _) (Nat.zero_le _) ⟨rfl, h41⟩) (fun c42 => have h43 := h.2 c42; s_aload_n (pc := 85) dX13_moveAll_85 rfl (s_getR (pc := 86) dX13_moveAll_86 f_X13_7 rfl h43.1 (s_iload_n (pc := 89) dX13_moveAll_89 rfl (s_aload_n (pc := 90) dX13_moveAll_90 rfl (s_aload_n (pc := 91) dX13_moveAll_91 rfl (s_getR (pc := 92) dX13_moveAll_92 f_X13_7 rfl h43.1 (s_iload_n (pc := 95) dX13_moveAll_95 rfl (s_ial (pc := 96) dX13_moveAll_96 h43.2.1 h43.2.2.1 (s_callV (pc := 97) (As := [.int (mI M (mR M x0 1) x1.toNatClampNeg)]) (rest := [.int x1, .ref (mR M x0 1)]) (d' := 1) (mc' := 0) (ms' := 0) dX13_moveAll_97 c_X13_379 (Nat.le_of_ble_eq_true rfl) rfl h43.1 rfl rfl (Nat.le_of_ble_eq_true rfl) (rm_ok rfl rfl) ⟨Nat.le_refl 0, Nat.le_refl 0⟩ (T_X13_move h43.2.2.2) (kkI (fun r46 M45 h44 => s_ias (pc := 100) dX13_moveAll_100 h44.1 h44.2.1 (nmM (fun M47 e48 => have h49 := (h44.2.2) M47 e48; s_aload_n (pc := 101) dX13_moveAll_101 rfl (s_getR (pc := 102) dX13_moveAll_102 f_X13_13 rfl h49.1 (s_iload_n (pc := 105) dX13_moveAll_105 rfl (s_aload_n (pc := 106) dX13_moveAll_106 rfl (s_aload_n (pc := 107) dX13_moveAll_107 rfl (s_getR (pc := 108) dX13_moveAll_108 f_X13_13 rfl h49.1 (s_iload_n (pc := 111) dX13_moveAll_111 rfl (s_ial (pc := 112) dX13_moveAll_112 h49.2.1 h49.2.2.1 (s_callV (pc := 113) (As := [.int (mI M47 (mR M47 x0 2) x1.toNatClampNeg)]) (rest := [.int x1, .ref (mR M47 x0 2)]) (d' := 1) (mc' := 0) (ms' := 0) dX13_moveAll_113 c_X13_379 (Nat.le_of_ble_eq_true rfl) rfl h49.1 rfl rfl (Nat.le_of_ble_eq_true rfl) (rm_ok rfl rfl) ⟨Nat.le_refl 0, Nat.le_refl 0⟩ (T_X13_move h49.2.2.2) (kkI (fun r52 M51 h50 => s_ias (pc := 116) dX13_moveAll_116 h50.1 h50.2.1 (nmM (fun M53 e54 => have h55 := (h50.2.2) M53 e54; s_aload_n (pc := 117) dX13_moveAll_117 rfl (s_getR (pc := 118) dX13_moveAll_118 f_X13_32 rfl h55.1 (s_iload_n (pc := 121) dX13_moveAll_121 rfl (s_aload_n (pc := 122) dX13_moveAll_122 rfl (s_aload_n (pc := 123) dX13_moveAll_123 rfl (s_getR (pc := 124) dX13_moveAll_124 f_X13_32 rfl h55.1 (s_iload_n (pc := 127) dX13_moveAll_127 rfl (s_lal (pc := 128) dX13_moveAll_128 h55.2.1 h55.2.2.1 (s_callV (pc := 129) (As := [.long (mJ M53 (mR M53 x0 10) x1.toNatClampNeg)]) (rest := [.int x1, .ref (mR M53 x0 10)]) (d' := 0) (mc' := 0) (ms' := 0) dX13_moveAll_129 c_X13_375 (Nat.le_of_ble_eq_true rfl) rfl h55.1 rfl rfl (Nat.le_of_ble_eq_true rfl) (rm_ok rfl rfl) ⟨Nat.le_refl 0, Nat.le_refl 0⟩ (T_X13_moveLong h55.2.2.2) (kkJ (fun r58 M57 h56 => s_las (pc := 132) dX13_moveAll_132 h56.1 h56.2.1 (nmM (fun M59 e60 => have h61 := (h56.2.2) M59 e60; s_aload_n (pc := 133) dX13_moveAll_133 rfl (s_getR (pc := 134) dX13_moveAll_134 f_X13_16 rfl h61.1 (s_iload_n (pc := 137) dX13_moveAll_137 rfl (s_aload_n (pc := 138) dX13_moveAll_138 rfl (s_aload_n (pc := 139) dX13_moveAll_139 rfl (s_getR (pc := 140) dX13_moveAll_140 f_X13_16 rfl h61.1 (s_iload_n (pc := 143) dX13_moveAll_143 rfl (s_ial (pc := 144) dX13_moveAll_144 h61.2.1 h61.2.2.1 (s_callV (pc := 145) (As := [.int (mI M59 (mR M59 x0 4) x1.toNatClampNeg)]) (rest := [.int x1, .ref (mR M59 x0 4)]) (d' := 1) (mc' := 0) (ms' := 0) dX13_moveAll_145 c_X13_379 (Nat.le_of_ble_eq_true rfl) rfl h61.1 rfl rfl (Nat.le_of_ble_eq_true rfl) (rm_ok rfl rfl) ⟨Nat.le_refl 0, Nat.le_refl 0⟩ (T_X13_move h61.2.2.2) (kkI (fun r64 M63 h62 => s_ias (pc := 148) dX13_moveAll_148 h62.1 h62.2.1 (nmM (fun M65 e66 => have h67 := (h62.2.2) M65 e66; s_aload_n (pc := 149) dX13_moveAll_149 rfl (s_getR (pc := 150) dX13_moveAll_150 f_X13_19 rfl h67.1 (s_iload_n (pc := 153) dX13_moveAll_153 rfl (s_aload_n (pc := 154) dX13_moveAll_154 rfl (s_aload_n (pc := 155) dX13_moveAll_155 rfl (s_getR (pc := 156) dX13_moveAll_156 f_X13_19 rfl h67.1 (s_iload_n (pc := 159) dX13_moveAll_159 rfl (s_ial (pc := 160) dX13_moveAll_160 h67.2.1 h67.2.2.1 (s_callV (pc := 161) (As := [.int (mI M65 (mR M65 x0 5) x1.toNatClampNeg)]) (rest := [.int x1, .ref (mR M65 x0 5)]) (d' := 1) (mc' := 0) (ms' := 0) dX13_moveAll_161 c_X13_379 (Nat.le_of_ble_eq_true rfl) rfl h67.1 rfl rfl (Nat.le_of_ble_eq_true rfl) (rm_ok rfl rfl) ⟨Nat.le_refl 0, Nat.le_refl 0⟩ (T_X13_move h67.2.2.2) (kkI (fun r70 M69 h68 => s_ias (pc := 164) dX13_moveAll_164 h68.1 h68.2.1 (nmM (fun M71 e72 => have h73 := (h68.2.2) M71 e72; s_aload_n (pc := 165) dX13_moveAll_165 rfl (s_getR (pc := 166) dX13_moveAll_166 f_X13_22 rfl h73.1 (s_iload_n (pc := 169) dX13_moveAll_169 rfl (s_aload_n (pc := 170) dX13_moveAll_170 rfl (s_aload_n (pc := 171) dX13_moveAll_171 rfl (s_getR (pc := 172) dX13_moveAll_172 f_X13_22 rfl h73.1 (s_iload_n (pc := 175) dX13_moveAll_175 rfl (s_ial (pc := 176) dX13_moveAll_176 h73.2.1 h73.2.2.1 (s_callV (pc := 177) (As := [.int (mI M71 (mR M71 x0 6) x1.toNatClampNeg)]) (rest := [.int x1, .ref (mR M71 x0 6)]) (d' := 1) (mc' := 0) (ms' := 0) dX13_moveAll_177 c_X13_379 (Nat.le_of_ble_eq_true rfl) rfl h73.1 rfl rfl (Nat.le_of_ble_eq_true rfl) (rm_ok rfl rfl) ⟨Nat.le_refl 0, Nat.le_refl 0⟩ (T_X13_move h73.2.2.2) (kkI (fun r76 M75 h74 => s_ias (pc := 180) dX13_moveAll_180 h74.1 h74.2.1 (nmM (fun M77 e78 => have h79 := (h74.2.2) M77 e78; s_iinc (pc := 181) (L1 := [some (.ref x0), some (.int (x1 + 1))]) dX13_moveAll_181 rfl ci_1 (Nat.le_of_ble_eq_true rfl) rfl (s_goto (pc := 184) (tgt := 79) dX13_moveAll_184 rfl (s_sel (L1 := [some (.ref x0), some (.int (x1 + 1))]) [true, true] rfl (ih x0 (x1 + 1) M77 h79)))))))))))))))))))))))))))))))))))))))))))))))))))))))))))))))))))))))))))))))
def wp_X13_moveAll (p0 : Nat) (M : Mem) (Q : Mem → Prop) : Prop := mK M p0 = 14 ∧ ∀ M1 : Mem, M1 = uI M p0 47 0 → wp_X13_move p0 (mI M1 p0 0) M1 (fun r6 M5 => mK M5 p0 = 14 ∧ ∀ M7 : Mem, M7 = uI M5 p0 0 r6 → wp_X13_move p0 (mI M7 p0 3) M7 (fun r12 M11 => mK M11 p0 = 14 ∧ ∀ M13 : Mem, M13 = uI M11 p0 3 r12 → wp_X13_move p0 (mI M13 p0 7) M13 (fun r18 M17 => mK M17 p0 = 14 ∧ ∀ M19 : Mem, M19 = uI M17 p0 7 r18 → wp_X13_move p0 (mI M19 p0 8) M19 (fun r24 M23 => mK M23 p0 = 14 ∧ ∀ M25 : Mem, M25 = uI M23 p0 8 r24 → wp_X13_move p0 (mI M25 p0 9) M25 (fun r30 M29 => mK M29 p0 = 14 ∧ ∀ M31 : Mem, M31 = uI M29 p0 9 r30 → wp_X13_move p0 (mI M31 p0 11) M31 (fun r36 M35 => mK M35 p0 = 14 ∧ ∀ M37 : Mem, M37 = uI M35 p0 11 r36 → ∃ n80 : Nat, lp_X13_moveAll_79 Q n80 p0 0 M37))))))
theorem T_X13_moveAll {G : GG} {Q : Mem → Prop} {M : Mem} {p0 : Nat} (h : wp_X13_moveAll p0 M Q) : PMet G mX13_moveAll 2 0 0 [.ref p0] M (QV Q) :=
  mk_met (by decide) rfl rfl (by
    intro w hw x9 e9
    subst e9
    simp at hw) (Nat.le_of_ble_eq_true rfl) (s_pad (L1 := [some (.ref p0), none]) 2 rfl (s_aload_n (pc := 0) dX13_moveAll_0 rfl (s_iconst (pc := 1) dX13_moveAll_1 ci_0 (s_putI (pc := 2) dX13_moveAll_2 f_X13_372 (Or.inl rfl) (Or.inl rfl) h.1 (nmM (fun M1 e2 => have h3 := h.2 M1 e2; s_aload_n (pc := 5) dX13_moveAll_5 rfl (s_aload_n (pc := 6) dX13_moveAll_6 rfl (s_aload_n (pc := 7) dX13_moveAll_7 rfl (s_getI (pc := 8) dX13_moveAll_8 f_X13_119 rfl ((congrFun (congrArg mK e2) p0).trans h.1) (s_callV (pc := 11) (As := [.int (mI M1 p0 0)]) (rest := [.ref p0]) (d' := 1) (mc' := 0) (ms' := 0) dX13_moveAll_11 c_X13_379 (Nat.le_of_ble_eq_true rfl) rfl ((congrFun (congrArg mK e2) p0).trans h.1) rfl rfl (Nat.le_of_ble_eq_true rfl) (rm_ok rfl rfl) ⟨Nat.le_refl 0, Nat.le_refl 0⟩ (T_X13_move h3) (kkI (fun r6 M5 h4 => s_putI (pc := 14) dX13_moveAll_14 f_X13_119 (Or.inl rfl) (Or.inl rfl) h4.1 (nmM (fun M7 e8 => have h9 := h4.2 M7 e8; s_aload_n (pc := 17) dX13_moveAll_17 rfl (s_aload_n (pc := 18) dX13_moveAll_18 rfl (s_aload_n (pc := 19) dX13_moveAll_19 rfl (s_getI (pc := 20) dX13_moveAll_20 f_X13_128 rfl ((congrFun (congrArg mK e8) p0).trans h4.1) (s_callV (pc := 23) (As := [.int (mI M7 p0 3)]) (rest := [.ref p0]) (d' := 1) (mc' := 0) (ms' := 0) dX13_moveAll_23 c_X13_379 (Nat.le_of_ble_eq_true rfl) rfl ((congrFun (congrArg mK e8) p0).trans h4.1) rfl rfl (Nat.le_of_ble_eq_true rfl) (rm_ok rfl rfl) ⟨Nat.le_refl 0, Nat.le_refl 0⟩ (T_X13_move h9) (kkI (fun r12 M11 h10 => s_putI (pc := 26) dX13_moveAll_26 f_X13_128 (Or.inl rfl) (Or.inl rfl) h10.1 (nmM (fun M13 e14 => have h15 := h10.2 M13 e14; s_aload_n (pc := 29) dX13_moveAll_29 rfl (s_aload_n (pc := 30) dX13_moveAll_30 rfl (s_aload_n (pc := 31) dX13_moveAll_31 rfl (s_getI (pc := 32) dX13_moveAll_32 f_X13_25 rfl ((congrFun (congrArg mK e14) p0).trans h10.1) (s_callV (pc := 35) (As := [.int (mI M13 p0 7)]) (rest := [.ref p0]) (d' := 1) (mc' := 0) (ms' := 0) dX13_moveAll_35 c_X13_379 (Nat.le_of_ble_eq_true rfl) rfl ((congrFun (congrArg mK e14) p0).trans h10.1) rfl rfl (Nat.le_of_ble_eq_true rfl) (rm_ok rfl rfl) ⟨Nat.le_refl 0, Nat.le_refl 0⟩ (T_X13_move h15) (kkI (fun r18 M17 h16 => s_putI (pc := 38) dX13_moveAll_38 f_X13_25 (Or.inl rfl) (Or.inl rfl) h16.1 (nmM (fun M19 e20 => have h21 := h16.2 M19 e20; s_aload_n (pc := 41) dX13_moveAll_41 rfl (s_aload_n (pc := 42) dX13_moveAll_42 rfl (s_aload_n (pc := 43) dX13_moveAll_43 rfl (s_getI (pc := 44) dX13_moveAll_44 f_X13_171 rfl ((congrFun (congrArg mK e20) p0).trans h16.1) (s_callV (pc := 47) (As := [.int (mI M19 p0 8)]) (rest := [.ref p0]) (d' := 1) (mc' := 0) (ms' := 0) dX13_moveAll_47 c_X13_379 (Nat.le_of_ble_eq_true rfl) rfl ((congrFun (congrArg mK e20) p0).trans h16.1) rfl rfl (Nat.le_of_ble_eq_true rfl) (rm_ok rfl rfl) ⟨Nat.le_refl 0, Nat.le_refl 0⟩ (T_X13_move h21) (kkI (fun r24 M23 h22 => s_putI (pc := 50) dX13_moveAll_50 f_X13_171 (Or.inl rfl) (Or.inl rfl) h22.1 (nmM (fun M25 e26 => have h27 := h22.2 M25 e26; s_aload_n (pc := 53) dX13_moveAll_53 rfl (s_aload_n (pc := 54) dX13_moveAll_54 rfl (s_aload_n (pc := 55) dX13_moveAll_55 rfl (s_getI (pc := 56) dX13_moveAll_56 f_X13_29 rfl ((congrFun (congrArg mK e26) p0).trans h22.1) (s_callV (pc := 59) (As := [.int (mI M25 p0 9)]) (rest := [.ref p0]) (d' := 1) (mc' := 0) (ms' := 0) dX13_moveAll_59 c_X13_379 (Nat.le_of_ble_eq_true rfl) rfl ((congrFun (congrArg mK e26) p0).trans h22.1) rfl rfl (Nat.le_of_ble_eq_true rfl) (rm_ok rfl rfl) ⟨Nat.le_refl 0, Nat.le_refl 0⟩ (T_X13_move h27) (kkI (fun r30 M29 h28 => s_putI (pc := 62) dX13_moveAll_62 f_X13_29 (Or.inl rfl) (Or.inl rfl) h28.1 (nmM (fun M31 e32 => have h33 := h28.2 M31 e32; s_aload_n (pc := 65) dX13_moveAll_65 rfl (s_aload_n (pc := 66) dX13_moveAll_66 rfl (s_aload_n (pc := 67) dX13_moveAll_67 rfl (s_getI (pc := 68) dX13_moveAll_68 f_X13_190 rfl ((congrFun (congrArg mK e32) p0).trans h28.1) (s_callV (pc := 71) (As := [.int (mI M31 p0 11)]) (rest := [.ref p0]) (d' := 1) (mc' := 0) (ms' := 0) dX13_moveAll_71 c_X13_379 (Nat.le_of_ble_eq_true rfl) rfl ((congrFun (congrArg mK e32) p0).trans h28.1) rfl rfl (Nat.le_of_ble_eq_true rfl) (rm_ok rfl rfl) ⟨Nat.le_refl 0, Nat.le_refl 0⟩ (T_X13_move h33) (kkI (fun r36 M35 h34 => s_putI (pc := 74) dX13_moveAll_74 f_X13_190 (Or.inl rfl) (Or.inl rfl) h34.1 (nmM (fun M37 e38 => have h39 := h34.2 M37 e38; s_iconst (pc := 77) dX13_moveAll_77 ci_0 (s_istore_n (pc := 78) (L1 := [some (.ref p0), some (.int 0)]) dX13_moveAll_78 (Nat.le_of_ble_eq_true rfl) rfl (Exists.elim h39 (fun n80 hn => s_sel (L1 := [some (.ref p0), some (.int 0)]) [true, true] rfl (P_lp_X13_moveAll_79 n80 p0 0 M37 hn))))))))))))))))))))))))))))))))))))))))))))))))))))))))))
