/-! X12_isSlate -/
theorem dX12_isSlate_0 : cod mX12_isSlate 0 (.iload_n 0) 1 := by decide +kernel
theorem dX12_isSlate_1 : cod mX12_isSlate 1 (.ifCond .lt 18) 3 := by decide +kernel
theorem dX12_isSlate_4 : cod mX12_isSlate 4 (.iload_n 0) 1 := by decide +kernel
theorem dX12_isSlate_5 : cod mX12_isSlate 5 (.iload_n 1) 1 := by decide +kernel
theorem dX12_isSlate_6 : cod mX12_isSlate 6 (.if_icmp .ge 13) 3 := by decide +kernel
theorem dX12_isSlate_9 : cod mX12_isSlate 9 (.iload_n 1) 1 := by decide +kernel
theorem dX12_isSlate_10 : cod mX12_isSlate 10 (.bipush 100) 2 := by decide +kernel
theorem dX12_isSlate_12 : cod mX12_isSlate 12 (.if_icmp .gt 7) 3 := by decide +kernel
theorem dX12_isSlate_15 : cod mX12_isSlate 15 (.iconst 1) 1 := by decide +kernel
theorem dX12_isSlate_16 : cod mX12_isSlate 16 (.goto 4) 3 := by decide +kernel
theorem dX12_isSlate_19 : cod mX12_isSlate 19 (.iconst 0) 1 := by decide +kernel
theorem dX12_isSlate_20 : cod mX12_isSlate 20 (.ireturn) 1 := by decide +kernel
def wp_X12_isSlate (p0 : Int32) (p1 : Int32) (M : Mem) (Q : Int32 → Mem → Prop) : Prop := (p0 < (0 : Int32) → Q 0 M) ∧ (¬ p0 < (0 : Int32) → (p1 ≤ p0 → Q 0 M) ∧ (¬ p1 ≤ p0 → ((100 : Int32) < p1 → Q 0 M) ∧ (¬ (100 : Int32) < p1 → Q 1 M)))
theorem T_X12_isSlate {G : GG} {Q : Int32 → Mem → Prop} {M : Mem} {p0 : Int32} {p1 : Int32} (h : wp_X12_isSlate p0 p1 M Q) : PMet G mX12_isSlate 0 0 0 [.int p0, .int p1] M (QI Q) :=
  mk_met (by decide) rfl rfl (by
    intro w hw x9 e9
    subst e9
    simp at hw) (Nat.le_of_ble_eq_true rfl) (s_pad (L1 := [some (.int p0), some (.int p1)]) 2 rfl (s_iload_n (pc := 0) dX12_isSlate_0 rfl (s_if_lt (pc := 1) (tgt := 19) dX12_isSlate_1 rfl (fun c1 => have h2 := h.1 c1; s_iconst (pc := 19) dX12_isSlate_19 ci_0 (s_zreturn (pc := 20) dX12_isSlate_20 rfl (Or.inl rfl) (Nat.zero_le _) (Nat.zero_le _) ⟨_, rfl, h2⟩)) (fun c3 => have h4 := h.2 c3; s_iload_n (pc := 4) dX12_isSlate_4 rfl (s_iload_n (pc := 5) dX12_isSlate_5 rfl (s_icmp_ge (pc := 6) (tgt := 19) dX12_isSlate_6 rfl (fun c5 => have h6 := h4.1 c5; s_iconst (pc := 19) dX12_isSlate_19 ci_0 (s_zreturn (pc := 20) dX12_isSlate_20 rfl (Or.inl rfl) (Nat.zero_le _) (Nat.zero_le _) ⟨_, rfl, h6⟩)) (fun c7 => have h8 := h4.2 c7; s_iload_n (pc := 9) dX12_isSlate_9 rfl (s_bipush (pc := 10) dX12_isSlate_10 cb_100 (s_icmp_gt (pc := 12) (tgt := 19) dX12_isSlate_12 rfl (fun c9 => have h10 := h8.1 c9; s_iconst (pc := 19) dX12_isSlate_19 ci_0 (s_zreturn (pc := 20) dX12_isSlate_20 rfl (Or.inl rfl) (Nat.zero_le _) (Nat.zero_le _) ⟨_, rfl, h10⟩)) (fun c11 => have h12 := h8.2 c11; s_iconst (pc := 15) dX12_isSlate_15 ci_1 (s_goto (pc := 16) (tgt := 20) dX12_isSlate_16 rfl (s_zreturn (pc := 20) dX12_isSlate_20 rfl (Or.inr rfl) (Nat.zero_le _) (Nat.zero_le _) ⟨_, rfl, h12⟩))))))))))))
/-! X6_meanBeside -/
theorem dX6_meanBeside_0 : cod mX6_meanBeside 0 (.iload_n 2) 1 := by decide +kernel
theorem dX6_meanBeside_1 : cod mX6_meanBeside 1 (.iload 4) 2 := by decide +kernel
theorem dX6_meanBeside_3 : cod mX6_meanBeside 3 (.if_icmp .lt 14) 3 := by decide +kernel
theorem dX6_meanBeside_6 : cod mX6_meanBeside 6 (.iload 5) 2 := by decide +kernel
theorem dX6_meanBeside_8 : cod mX6_meanBeside 8 (.ifCond .eq 13) 3 := by decide +kernel
theorem dX6_meanBeside_11 : cod mX6_meanBeside 11 (.iload_n 2) 1 := by decide +kernel
theorem dX6_meanBeside_12 : cod mX6_meanBeside 12 (.iload 4) 2 := by decide +kernel
theorem dX6_meanBeside_14 : cod mX6_meanBeside 14 (.if_icmp .ne 7) 3 := by decide +kernel
theorem dX6_meanBeside_17 : cod mX6_meanBeside 17 (.iconst 1) 1 := by decide +kernel
theorem dX6_meanBeside_18 : cod mX6_meanBeside 18 (.goto 4) 3 := by decide +kernel
theorem dX6_meanBeside_21 : cod mX6_meanBeside 21 (.iconst 0) 1 := by decide +kernel
theorem dX6_meanBeside_22 : cod mX6_meanBeside 22 (.istore 6) 2 := by decide +kernel
theorem dX6_meanBeside_24 : cod mX6_meanBeside 24 (.iload_n 1) 1 := by decide +kernel
theorem dX6_meanBeside_25 : cod mX6_meanBeside 25 (.iload_n 3) 1 := by decide +kernel
theorem dX6_meanBeside_26 : cod mX6_meanBeside 26 (.if_icmp .gt 13) 3 := by decide +kernel
theorem dX6_meanBeside_29 : cod mX6_meanBeside 29 (.iload 5) 2 := by decide +kernel
theorem dX6_meanBeside_31 : cod mX6_meanBeside 31 (.ifCond .eq 12) 3 := by decide +kernel
theorem dX6_meanBeside_34 : cod mX6_meanBeside 34 (.iload_n 1) 1 := by decide +kernel
theorem dX6_meanBeside_35 : cod mX6_meanBeside 35 (.iload_n 3) 1 := by decide +kernel
theorem dX6_meanBeside_36 : cod mX6_meanBeside 36 (.if_icmp .ne 7) 3 := by decide +kernel
theorem dX6_meanBeside_39 : cod mX6_meanBeside 39 (.iconst 1) 1 := by decide +kernel
theorem dX6_meanBeside_40 : cod mX6_meanBeside 40 (.goto 4) 3 := by decide +kernel
theorem dX6_meanBeside_43 : cod mX6_meanBeside 43 (.iconst 0) 1 := by decide +kernel
theorem dX6_meanBeside_44 : cod mX6_meanBeside 44 (.istore 7) 2 := by decide +kernel
theorem dX6_meanBeside_46 : cod mX6_meanBeside 46 (.iload_n 2) 1 := by decide +kernel
theorem dX6_meanBeside_47 : cod mX6_meanBeside 47 (.iload 4) 2 := by decide +kernel
theorem dX6_meanBeside_49 : cod mX6_meanBeside 49 (.invokestatic 79) 3 := by decide +kernel
theorem dX6_meanBeside_52 : cod mX6_meanBeside 52 (.istore 8) 2 := by decide +kernel
theorem dX6_meanBeside_54 : cod mX6_meanBeside 54 (.iload_n 1) 1 := by decide +kernel
theorem dX6_meanBeside_55 : cod mX6_meanBeside 55 (.iload_n 3) 1 := by decide +kernel
theorem dX6_meanBeside_56 : cod mX6_meanBeside 56 (.invokestatic 83) 3 := by decide +kernel
theorem dX6_meanBeside_59 : cod mX6_meanBeside 59 (.istore 9) 2 := by decide +kernel
theorem dX6_meanBeside_61 : cod mX6_meanBeside 61 (.lconst 0) 1 := by decide +kernel
theorem dX6_meanBeside_62 : cod mX6_meanBeside 62 (.lstore 10) 2 := by decide +kernel
theorem dX6_meanBeside_64 : cod mX6_meanBeside 64 (.iconst 0) 1 := by decide +kernel
theorem dX6_meanBeside_65 : cod mX6_meanBeside 65 (.istore 12) 2 := by decide +kernel
theorem dX6_meanBeside_67 : cod mX6_meanBeside 67 (.iload 12) 2 := by decide +kernel
theorem dX6_meanBeside_69 : cod mX6_meanBeside 69 (.aload_n 0) 1 := by decide +kernel
theorem dX6_meanBeside_70 : cod mX6_meanBeside 70 (.getfield 43) 3 := by decide +kernel
theorem dX6_meanBeside_73 : cod mX6_meanBeside 73 (.if_icmp .ge 141) 3 := by decide +kernel
theorem dX6_meanBeside_76 : cod mX6_meanBeside 76 (.aload_n 0) 1 := by decide +kernel
theorem dX6_meanBeside_77 : cod mX6_meanBeside 77 (.getfield 27) 3 := by decide +kernel
theorem dX6_meanBeside_80 : cod mX6_meanBeside 80 (.ifCond .le 134) 3 := by decide +kernel
theorem dX6_meanBeside_83 : cod mX6_meanBeside 83 (.iconst 0) 1 := by decide +kernel
theorem dX6_meanBeside_84 : cod mX6_meanBeside 84 (.istore 13) 2 := by decide +kernel
theorem dX6_meanBeside_86 : cod mX6_meanBeside 86 (.iload 13) 2 := by decide +kernel
theorem dX6_meanBeside_88 : cod mX6_meanBeside 88 (.aload_n 0) 1 := by decide +kernel
theorem dX6_meanBeside_89 : cod mX6_meanBeside 89 (.getfield 40) 3 := by decide +kernel
theorem dX6_meanBeside_92 : cod mX6_meanBeside 92 (.if_icmp .ge 116) 3 := by decide +kernel
theorem dX6_meanBeside_95 : cod mX6_meanBeside 95 (.aload_n 0) 1 := by decide +kernel
theorem dX6_meanBeside_96 : cod mX6_meanBeside 96 (.iload 12) 2 := by decide +kernel
theorem dX6_meanBeside_98 : cod mX6_meanBeside 98 (.aload_n 0) 1 := by decide +kernel
theorem dX6_meanBeside_99 : cod mX6_meanBeside 99 (.getfield 15) 3 := by decide +kernel
theorem dX6_meanBeside_102 : cod mX6_meanBeside 102 (.iload 13) 2 := by decide +kernel
theorem dX6_meanBeside_104 : cod mX6_meanBeside 104 (.iaload) 1 := by decide +kernel
theorem dX6_meanBeside_105 : cod mX6_meanBeside 105 (.iload 9) 2 := by decide +kernel
theorem dX6_meanBeside_107 : cod mX6_meanBeside 107 (.iload 8) 2 := by decide +kernel
theorem dX6_meanBeside_109 : cod mX6_meanBeside 109 (.invokevirtual 69) 3 := by decide +kernel
theorem dX6_meanBeside_112 : cod mX6_meanBeside 112 (.istore 14) 2 := by decide +kernel
theorem dX6_meanBeside_114 : cod mX6_meanBeside 114 (.iconst 0) 1 := by decide +kernel
theorem dX6_meanBeside_115 : cod mX6_meanBeside 115 (.istore 15) 2 := by decide +kernel
theorem dX6_meanBeside_117 : cod mX6_meanBeside 117 (.iload 14) 2 := by decide +kernel
theorem dX6_meanBeside_119 : cod mX6_meanBeside 119 (.iconst 1) 1 := by decide +kernel
theorem dX6_meanBeside_120 : cod mX6_meanBeside 120 (.if_icmp .ne 28) 3 := by decide +kernel
theorem dX6_meanBeside_123 : cod mX6_meanBeside 123 (.iload 6) 2 := by decide +kernel
theorem dX6_meanBeside_125 : cod mX6_meanBeside 125 (.ifCond .eq 23) 3 := by decide +kernel
theorem dX6_meanBeside_128 : cod mX6_meanBeside 128 (.iload 8) 2 := by decide +kernel
theorem dX6_meanBeside_130 : cod mX6_meanBeside 130 (.aload_n 0) 1 := by decide +kernel
theorem dX6_meanBeside_131 : cod mX6_meanBeside 131 (.getfield 15) 3 := by decide +kernel
theorem dX6_meanBeside_134 : cod mX6_meanBeside 134 (.iload 13) 2 := by decide +kernel
theorem dX6_meanBeside_136 : cod mX6_meanBeside 136 (.iaload) 1 := by decide +kernel
theorem dX6_meanBeside_137 : cod mX6_meanBeside 137 (.isub) 1 := by decide +kernel
theorem dX6_meanBeside_138 : cod mX6_meanBeside 138 (.aload_n 0) 1 := by decide +kernel
theorem dX6_meanBeside_139 : cod mX6_meanBeside 139 (.getfield 46) 3 := by decide +kernel
theorem dX6_meanBeside_142 : cod mX6_meanBeside 142 (.isub) 1 := by decide +kernel
theorem dX6_meanBeside_143 : cod mX6_meanBeside 143 (.istore 15) 2 := by decide +kernel
theorem dX6_meanBeside_145 : cod mX6_meanBeside 145 (.goto 31) 3 := by decide +kernel
theorem dX6_meanBeside_148 : cod mX6_meanBeside 148 (.iload 14) 2 := by decide +kernel
theorem dX6_meanBeside_150 : cod mX6_meanBeside 150 (.iconst 2) 1 := by decide +kernel
theorem dX6_meanBeside_151 : cod mX6_meanBeside 151 (.if_icmp .ne 25) 3 := by decide +kernel
theorem dX6_meanBeside_154 : cod mX6_meanBeside 154 (.iload 7) 2 := by decide +kernel
theorem dX6_meanBeside_156 : cod mX6_meanBeside 156 (.ifCond .eq 20) 3 := by decide +kernel
theorem dX6_meanBeside_159 : cod mX6_meanBeside 159 (.aload_n 0) 1 := by decide +kernel
theorem dX6_meanBeside_160 : cod mX6_meanBeside 160 (.getfield 15) 3 := by decide +kernel
theorem dX6_meanBeside_163 : cod mX6_meanBeside 163 (.iload 13) 2 := by decide +kernel
theorem dX6_meanBeside_165 : cod mX6_meanBeside 165 (.iaload) 1 := by decide +kernel
theorem dX6_meanBeside_166 : cod mX6_meanBeside 166 (.iload 9) 2 := by decide +kernel
theorem dX6_meanBeside_168 : cod mX6_meanBeside 168 (.isub) 1 := by decide +kernel
theorem dX6_meanBeside_169 : cod mX6_meanBeside 169 (.aload_n 0) 1 := by decide +kernel
theorem dX6_meanBeside_170 : cod mX6_meanBeside 170 (.getfield 46) 3 := by decide +kernel
theorem dX6_meanBeside_173 : cod mX6_meanBeside 173 (.isub) 1 := by decide +kernel
theorem dX6_meanBeside_174 : cod mX6_meanBeside 174 (.istore 15) 2 := by decide +kernel
theorem dX6_meanBeside_176 : cod mX6_meanBeside 176 (.lload 10) 2 := by decide +kernel
theorem dX6_meanBeside_178 : cod mX6_meanBeside 178 (.iload 15) 2 := by decide +kernel
theorem dX6_meanBeside_180 : cod mX6_meanBeside 180 (.i2l) 1 := by decide +kernel
theorem dX6_meanBeside_181 : cod mX6_meanBeside 181 (.aload_n 0) 1 := by decide +kernel
theorem dX6_meanBeside_182 : cod mX6_meanBeside 182 (.getfield 9) 3 := by decide +kernel
theorem dX6_meanBeside_185 : cod mX6_meanBeside 185 (.iload 13) 2 := by decide +kernel
theorem dX6_meanBeside_187 : cod mX6_meanBeside 187 (.iaload) 1 := by decide +kernel
theorem dX6_meanBeside_188 : cod mX6_meanBeside 188 (.i2l) 1 := by decide +kernel
theorem dX6_meanBeside_189 : cod mX6_meanBeside 189 (.lmul) 1 := by decide +kernel
theorem dX6_meanBeside_190 : cod mX6_meanBeside 190 (.aload_n 0) 1 := by decide +kernel
theorem dX6_meanBeside_191 : cod mX6_meanBeside 191 (.getfield 21) 3 := by decide +kernel
theorem dX6_meanBeside_194 : cod mX6_meanBeside 194 (.iload 12) 2 := by decide +kernel
theorem dX6_meanBeside_196 : cod mX6_meanBeside 196 (.iaload) 1 := by decide +kernel
theorem dX6_meanBeside_197 : cod mX6_meanBeside 197 (.i2l) 1 := by decide +kernel
theorem dX6_meanBeside_198 : cod mX6_meanBeside 198 (.lmul) 1 := by decide +kernel
theorem dX6_meanBeside_199 : cod mX6_meanBeside 199 (.ladd) 1 := by decide +kernel
theorem dX6_meanBeside_200 : cod mX6_meanBeside 200 (.lstore 10) 2 := by decide +kernel
theorem dX6_meanBeside_202 : cod mX6_meanBeside 202 (.iinc 13 1) 3 := by decide +kernel
theorem dX6_meanBeside_205 : cod mX6_meanBeside 205 (.goto (-119)) 3 := by decide +kernel
theorem dX6_meanBeside_208 : cod mX6_meanBeside 208 (.iinc 12 1) 3 := by decide +kernel
theorem dX6_meanBeside_211 : cod mX6_meanBeside 211 (.goto (-144)) 3 := by decide +kernel
theorem dX6_meanBeside_214 : cod mX6_meanBeside 214 (.lload 10) 2 := by decide +kernel
theorem dX6_meanBeside_216 : cod mX6_meanBeside 216 (.lreturn) 1 := by decide +kernel
def jn_X6_meanBeside_176 (K67 : Nat → Int32 → Int32 → Int32 → Int32 → Int64 → Int32 → Mem → Prop) (K86 : Nat → Int32 → Int32 → Int32 → Int32 → Int64 → Int32 → Int32 → Mem → Prop) (Q : Int64 → Mem → Prop) (x0 : Nat) (x6 : Int32) (x7 : Int32) (x8 : Int32) (x9 : Int32) (x10 : Int64) (x12 : Int32) (x13 : Int32) (x15 : Int32) (M : Mem) : Prop := mK M x0 = 7 ∧ mK M (mR M x0 1) = 20 ∧ vp_in x13 (mN M (mR M x0 1)) ∧ mK M (mR M x0 5) = 20 ∧ vp_in x12 (mN M (mR M x0 5)) ∧ ∀ y38 : Int64, y38 = x10 + ((x15.toInt64 * ((mI M (mR M x0 1) x13.toNatClampNeg).toInt64)) * ((mI M (mR M x0 5) x12.toNatClampNeg).toInt64)) → K86 x0 x6 x7 x8 x9 y38 x12 (x13 + 1) M
theorem P_jn_X6_meanBeside_176 {G : GG} {K67 : Nat → Int32 → Int32 → Int32 → Int32 → Int64 → Int32 → Mem → Prop} {K86 : Nat → Int32 → Int32 → Int32 → Int32 → Int64 → Int32 → Int32 → Mem → Prop} {Q : Int64 → Mem → Prop} (hK67 : ∀ (x0 : Nat) (x6 : Int32) (x7 : Int32) (x8 : Int32) (x9 : Int32) (x10 : Int64) (x12 : Int32) (M : Mem), K67 x0 x6 x7 x8 x9 x10 x12 M → PW G mX6_meanBeside (rmD 2 0 0) (QJ Q) 67 [some (.ref x0), none, none, none, none, none, some (.int x6), some (.int x7), some (.int x8), some (.int x9), some (.long x10), none, some (.int x12), none, none, none] [] M 0 0) (hK86 : ∀ (x0 : Nat) (x6 : Int32) (x7 : Int32) (x8 : Int32) (x9 : Int32) (x10 : Int64) (x12 : Int32) (x13 : Int32) (M : Mem), K86 x0 x6 x7 x8 x9 x10 x12 x13 M → PW G mX6_meanBeside (rmD 2 0 0) (QJ Q) 86 [some (.ref x0), none, none, none, none, none, some (.int x6), some (.int x7), some (.int x8), some (.int x9), some (.long x10), none, some (.int x12), some (.int x13), none, none] [] M 0 0) (x0 : Nat) (x6 : Int32) (x7 : Int32) (x8 : Int32) (x9 : Int32) (x10 : Int64) (x12 : Int32) (x13 : Int32) (x15 : Int32) (M : Mem) (h : jn_X6_meanBeside_176 K67 K86 Q x0 x6 x7 x8 x9 x10 x12 x13 x15 M) : PW G mX6_meanBeside (rmD 2 0 0) (QJ Q) 176 [some (.ref x0), none, none, none, none, none, some (.int x6), some (.int x7), some (.int x8), some (.int x9), some (.long x10), none, some (.int x12), some (.int x13), none, some (.int x15)] [] M 0 0 := (s_lload (pc := 176) dX6_meanBeside_176 rfl (s_iload (pc := 178) dX6_meanBeside_178 rfl (s_i2l (pc := 180) dX6_meanBeside_180 (s_aload_n (pc := 181) dX6_meanBeside_181 rfl (s_getR (pc := 182) dX6_meanBeside_182 f_X6_9 rfl h.1 (s_iload (pc := 185) dX6_meanBeside_185 rfl (s_ial (pc := 187) dX6_meanBeside_187 h.2.1 h.2.2.1 (s_i2l (pc := 188) dX6_meanBeside_188 (s_lmul (pc := 189) dX6_meanBeside_189 (s_aload_n (pc := 190) dX6_meanBeside_190 rfl (s_getR (pc := 191) dX6_meanBeside_191 f_X6_21 rfl h.1 (s_iload (pc := 194) dX6_meanBeside_194 rfl (s_ial (pc := 196) dX6_meanBeside_196 h.2.2.2.1 h.2.2.2.2.1 (s_i2l (pc := 197) dX6_meanBeside_197 (s_lmul (pc := 198) dX6_meanBeside_198 (s_ladd (pc := 199) dX6_meanBeside_199 (nmJ (fun y38 e39 => have h40 := h.2.2.2.2.2 y38 e39; s_lstore (pc := 200) (L1 := [some (.ref x0), none, none, none, none, none, some (.int x6), some (.int x7), some (.int x8), some (.int x9), some (.long y38), none, some (.int x12), some (.int x13), none, some (.int x15)]) dX6_meanBeside_200 (Nat.le_of_ble_eq_true rfl) rfl (s_iinc (pc := 202) (L1 := [some (.ref x0), none, none, none, none, none, some (.int x6), some (.int x7), some (.int x8), some (.int x9), some (.long y38), none, some (.int x12), some (.int (x13 + 1)), none, some (.int x15)]) dX6_meanBeside_202 rfl ci_1 (Nat.le_of_ble_eq_true rfl) rfl (s_goto (pc := 205) (tgt := 86) dX6_meanBeside_205 rfl (s_sel (L1 := [some (.ref x0), none, none, none, none, none, some (.int x6), some (.int x7), some (.int x8), some (.int x9), some (.long y38), none, some (.int x12), some (.int (x13 + 1)), none, none]) [true, false, false, false, false, false, true, true, true, true, true, false, true, true, false, false] rfl (hK86 x0 x6 x7 x8 x9 y38 x12 (x13 + 1) M h40))))))))))))))))))))))
def jn_X6_meanBeside_148 (K67 : Nat → Int32 → Int32 → Int32 → Int32 → Int64 → Int32 → Mem → Prop) (K86 : Nat → Int32 → Int32 → Int32 → Int32 → Int64 → Int32 → Int32 → Mem → Prop) (Q : Int64 → Mem → Prop) (x0 : Nat) (x6 : Int32) (x7 : Int32) (x8 : Int32) (x9 : Int32) (x10 : Int64) (x12 : Int32) (x13 : Int32) (x14 : Int32) (x15 : Int32) (M : Mem) : Prop := (¬ x14 = (2 : Int32) → jn_X6_meanBeside_176 K67 K86 Q x0 x6 x7 x8 x9 x10 x12 x13 x15 M) ∧ (x14 = (2 : Int32) → (x7 = (0 : Int32) → jn_X6_meanBeside_176 K67 K86 Q x0 x6 x7 x8 x9 x10 x12 x13 x15 M) ∧ (¬ x7 = (0 : Int32) → mK M x0 = 7 ∧ mK M (mR M x0 2) = 20 ∧ vp_in x13 (mN M (mR M x0 2)) ∧ ∀ y45 : Int32, y45 = ((mI M (mR M x0 2) x13.toNatClampNeg) - x9) - (mI M x0 8) → jn_X6_meanBeside_176 K67 K86 Q x0 x6 x7 x8 x9 x10 x12 x13 y45 M))
theorem P_jn_X6_meanBeside_148 {G : GG} {K67 : Nat → Int32 → Int32 → Int32 → Int32 → Int64 → Int32 → Mem → Prop} {K86 : Nat → Int32 → Int32 → Int32 → Int32 → Int64 → Int32 → Int32 → Mem → Prop} {Q : Int64 → Mem → Prop} (hK67 : ∀ (x0 : Nat) (x6 : Int32) (x7 : Int32) (x8 : Int32) (x9 : Int32) (x10 : Int64) (x12 : Int32) (M : Mem), K67 x0 x6 x7 x8 x9 x10 x12 M → PW G mX6_meanBeside (rmD 2 0 0) (QJ Q) 67 [some (.ref x0), none, none, none, none, none, some (.int x6), some (.int x7), some (.int x8), some (.int x9), some (.long x10), none, some (.int x12), none, none, none] [] M 0 0) (hK86 : ∀ (x0 : Nat) (x6 : Int32) (x7 : Int32) (x8 : Int32) (x9 : Int32) (x10 : Int64) (x12 : Int32) (x13 : Int32) (M : Mem), K86 x0 x6 x7 x8 x9 x10 x12 x13 M → PW G mX6_meanBeside (rmD 2 0 0) (QJ Q) 86 [some (.ref x0), none, none, none, none, none, some (.int x6), some (.int x7), some (.int x8), some (.int x9), some (.long x10), none, some (.int x12), some (.int x13), none, none] [] M 0 0) (x0 : Nat) (x6 : Int32) (x7 : Int32) (x8 : Int32) (x9 : Int32) (x10 : Int64) (x12 : Int32) (x13 : Int32) (x14 : Int32) (x15 : Int32) (M : Mem) (h : jn_X6_meanBeside_148 K67 K86 Q x0 x6 x7 x8 x9 x10 x12 x13 x14 x15 M) : PW G mX6_meanBeside (rmD 2 0 0) (QJ Q) 148 [some (.ref x0), none, none, none, none, none, some (.int x6), some (.int x7), some (.int x8), some (.int x9), some (.long x10), none, some (.int x12), some (.int x13), some (.int x14), some (.int x15)] [] M 0 0 := (s_iload (pc := 148) dX6_meanBeside_148 rfl (s_iconst (pc := 150) dX6_meanBeside_150 ci_2 (s_icmp_ne (pc := 151) (tgt := 176) dX6_meanBeside_151 rfl (fun c34 => have h35 := h.1 c34; s_sel (L1 := [some (.ref x0), none, none, none, none, none, some (.int x6), some (.int x7), some (.int x8), some (.int x9), some (.long x10), none, some (.int x12), some (.int x13), none, some (.int x15)]) [true, false, false, false, false, false, true, true, true, true, true, false, true, true, false, true] rfl (P_jn_X6_meanBeside_176 hK67 hK86 x0 x6 x7 x8 x9 x10 x12 x13 x15 M h35)) (fun c36 => have h37 := h.2 c36; s_iload (pc := 154) dX6_meanBeside_154 rfl (s_if_eq (pc := 156) (tgt := 176) dX6_meanBeside_156 rfl (fun c41 => have h42 := h37.1 c41; s_sel (L1 := [some (.ref x0), none, none, none, none, none, some (.int x6), some (.int x7), some (.int x8), some (.int x9), some (.long x10), none, some (.int x12), some (.int x13), none, some (.int x15)]) [true, false, false, false, false, false, true, true, true, true, true, false, true, true, false, true] rfl (P_jn_X6_meanBeside_176 hK67 hK86 x0 x6 x7 x8 x9 x10 x12 x13 x15 M h42)) (fun c43 => have h44 := h37.2 c43; s_aload_n (pc := 159) dX6_meanBeside_159 rfl (s_getR (pc := 160) dX6_meanBeside_160 f_X6_15 rfl h44.1 (s_iload (pc := 163) dX6_meanBeside_163 rfl (s_ial (pc := 165) dX6_meanBeside_165 h44.2.1 h44.2.2.1 (s_iload (pc := 166) dX6_meanBeside_166 rfl (s_isub (pc := 168) dX6_meanBeside_168 (s_aload_n (pc := 169) dX6_meanBeside_169 rfl (s_getI (pc := 170) dX6_meanBeside_170 f_X6_46 rfl h44.1 (s_isub (pc := 173) dX6_meanBeside_173 (nmI (fun y45 e46 => have h47 := h44.2.2.2 y45 e46; s_istore (pc := 174) (L1 := [some (.ref x0), none, none, none, none, none, some (.int x6), some (.int x7), some (.int x8), some (.int x9), some (.long x10), none, some (.int x12), some (.int x13), some (.int x14), some (.int y45)]) dX6_meanBeside_174 (Nat.le_of_ble_eq_true rfl) rfl (s_sel (L1 := [some (.ref x0), none, none, none, none, none, some (.int x6), some (.int x7), some (.int x8), some (.int x9), some (.long x10), none, some (.int x12), some (.int x13), none, some (.int y45)]) [true, false, false, false, false, false, true, true, true, true, true, false, true, true, false, true] rfl (P_jn_X6_meanBeside_176 hK67 hK86 x0 x6 x7 x8 x9 x10 x12 x13 y45 M h47))))))))))))))))))
def lp_X6_meanBeside_86 (K67 : Nat → Int32 → Int32 → Int32 → Int32 → Int64 → Int32 → Mem → Prop) (Q : Int64 → Mem → Prop) : Nat → Nat → Int32 → Int32 → Int32 → Int32 → Int64 → Int32 → Int32 → Mem → Prop
  | 0 => fun _ _ _ _ _ _ _ _ _ => False
  | n + 1 => fun x0 x6 x7 x8 x9 x10 x12 x13 M => mK M x0 = 7 ∧ ((mI M x0 0) ≤ x13 → K67 x0 x6 x7 x8 x9 x10 (x12 + 1) M) ∧ (¬ (mI M x0 0) ≤ x13 → mK M (mR M x0 2) = 20 ∧ vp_in x13 (mN M (mR M x0 2)) ∧ wp_X6_dealOf x0 x12 (mI M (mR M x0 2) x13.toNatClampNeg) x9 x8 M (fun r29 M28 => (¬ r29 = (1 : Int32) → jn_X6_meanBeside_148 K67 (fun fx0 fx6 fx7 fx8 fx9 fx10 fx12 fx13 fM => lp_X6_meanBeside_86 K67 Q n fx0 fx6 fx7 fx8 fx9 fx10 fx12 fx13 fM) Q x0 x6 x7 x8 x9 x10 x12 x13 r29 0 M28) ∧ (r29 = (1 : Int32) → (x6 = (0 : Int32) → jn_X6_meanBeside_148 K67 (fun fx0 fx6 fx7 fx8 fx9 fx10 fx12 fx13 fM => lp_X6_meanBeside_86 K67 Q n fx0 fx6 fx7 fx8 fx9 fx10 fx12 fx13 fM) Q x0 x6 x7 x8 x9 x10 x12 x13 r29 0 M28) ∧ (¬ x6 = (0 : Int32) → mK M28 x0 = 7 ∧ mK M28 (mR M28 x0 2) = 20 ∧ vp_in x13 (mN M28 (mR M28 x0 2)) ∧ ∀ y52 : Int32, y52 = (x8 - (mI M28 (mR M28 x0 2) x13.toNatClampNeg)) - (mI M28 x0 8) → jn_X6_meanBeside_176 K67 (fun fx0 fx6 fx7 fx8 fx9 fx10 fx12 fx13 fM => lp_X6_meanBeside_86 K67 Q n fx0 fx6 fx7 fx8 fx9 fx10 fx12 fx13 fM) Q x0 x6 x7 x8 x9 x10 x12 x13 y52 M28))))
theorem P_lp_X6_meanBeside_86 {G : GG} {K67 : Nat → Int32 → Int32 → Int32 → Int32 → Int64 → Int32 → Mem → Prop} {Q : Int64 → Mem → Prop} (hK67 : ∀ (x0 : Nat) (x6 : Int32) (x7 : Int32) (x8 : Int32) (x9 : Int32) (x10 : Int64) (x12 : Int32) (M : Mem), K67 x0 x6 x7 x8 x9 x10 x12 M → PW G mX6_meanBeside (rmD 2 0 0) (QJ Q) 67 [some (.ref x0), none, none, none, none, none, some (.int x6), some (.int x7), some (.int x8), some (.int x9), some (.long x10), none, some (.int x12), none, none, none] [] M 0 0) : ∀ (n : Nat) (x0 : Nat) (x6 : Int32) (x7 : Int32) (x8 : Int32) (x9 : Int32) (x10 : Int64) (x12 : Int32) (x13 : Int32) (M : Mem), lp_X6_meanBeside_86 K67 Q n x0 x6 x7 x8 x9 x10 x12 x13 M → PW G mX6_meanBeside (rmD 2 0 0) (QJ Q) 86 [some (.ref x0), none, none, none, none, none, some (.int x6), some (.int x7), some (.int x8), some (.int x9), some (.long x10), none, some (.int x12), some (.int x13), none, none] [] M 0 0 := by
  intro n
  induction n with
  | zero => intro x0 x6 x7 x8 x9 x10 x12 x13 M h; exact h.elim
  | succ n ih =>
    intro x0 x6 x7 x8 x9 x10 x12 x13 M h
    exact (s_iload (pc := 86) dX6_meanBeside_86 rfl (s_aload_n (pc := 88) dX6_meanBeside_88 rfl (s_getI (pc := 89) dX6_meanBeside_89 f_X6_40 rfl h.1 (s_icmp_ge (pc := 92) (tgt := 208) dX6_meanBeside_92 rfl (fun c23 => have h24 := h.2.1 c23; s_iinc (pc := 208) (L1 := [some (.ref x0), none, none, none, none, none, some (.int x6), some (.int x7), some (.int x8), some (.int x9), some (.long x10), none, some (.int (x12 + 1)), some (.int x13), none, none]) dX6_meanBeside_208 rfl ci_1 (Nat.le_of_ble_eq_true rfl) rfl (s_goto (pc := 211) (tgt := 67) dX6_meanBeside_211 rfl (s_sel (L1 := [some (.ref x0), none, none, none, none, none, some (.int x6), some (.int x7), some (.int x8), some (.int x9), some (.long x10), none, some (.int (x12 + 1)), none, none, none]) [true, false, false, false, false, false, true, true, true, true, true, false, true, false, false, false] rfl (hK67 x0 x6 x7 x8 x9 x10 (x12 + 1) M h24)))) (fun c25 => have h26 := h.2.2 c25; s_aload_n (pc := 95) dX6_meanBeside_95 rfl (s_iload (pc := 96) dX6_meanBeside_96 rfl (s_aload_n (pc := 98) dX6_meanBeside_98 rfl (s_getR (pc := 99) dX6_meanBeside_99 f_X6_15 rfl h.1 (s_iload (pc := 102) dX6_meanBeside_102 rfl (s_ial (pc := 104) dX6_meanBeside_104 h26.1 h26.2.1 (s_iload (pc := 105) dX6_meanBeside_105 rfl (s_iload (pc := 107) dX6_meanBeside_107 rfl (s_callV (pc := 109) (As := [.int x12, .int (mI M (mR M x0 2) x13.toNatClampNeg), .int x9, .int x8]) (rest := []) (d' := 1) (mc' := 0) (ms' := 0) dX6_meanBeside_109 c_X6_69 (Nat.le_of_ble_eq_true rfl) rfl h.1 rfl rfl (Nat.le_of_ble_eq_true rfl) (rm_ok rfl rfl) ⟨Nat.le_refl 0, Nat.le_refl 0⟩ (T_X6_dealOf h26.2.2) (kkI (fun r29 M28 h27 => s_istore (pc := 112) (L1 := [some (.ref x0), none, none, none, none, none, some (.int x6), some (.int x7), some (.int x8), some (.int x9), some (.long x10), none, some (.int x12), some (.int x13), some (.int r29), none]) dX6_meanBeside_112 (Nat.le_of_ble_eq_true rfl) rfl (s_iconst (pc := 114) dX6_meanBeside_114 ci_0 (s_istore (pc := 115) (L1 := [some (.ref x0), none, none, none, none, none, some (.int x6), some (.int x7), some (.int x8), some (.int x9), some (.long x10), none, some (.int x12), some (.int x13), some (.int r29), some (.int 0)]) dX6_meanBeside_115 (Nat.le_of_ble_eq_true rfl) rfl (s_iload (pc := 117) dX6_meanBeside_117 rfl (s_iconst (pc := 119) dX6_meanBeside_119 ci_1 (s_icmp_ne (pc := 120) (tgt := 148) dX6_meanBeside_120 rfl (fun c30 => have h31 := h27.1 c30; s_sel (L1 := [some (.ref x0), none, none, none, none, none, some (.int x6), some (.int x7), some (.int x8), some (.int x9), some (.long x10), none, some (.int x12), some (.int x13), some (.int r29), some (.int 0)]) [true, false, false, false, false, false, true, true, true, true, true, false, true, true, true, true] rfl (P_jn_X6_meanBeside_148 hK67 ih x0 x6 x7 x8 x9 x10 x12 x13 r29 0 M28 h31)) (fun c32 => have h33 := h27.2 c32; s_iload (pc := 123) dX6_meanBeside_123 rfl (s_if_eq (pc := 125) (tgt := 148) dX6_meanBeside_125 rfl (fun c48 => have h49 := h33.1 c48; s_sel (L1 := [some (.ref x0), none, none, none, none, none, some (.int x6), some (.int x7), some (.int x8), some (.int x9), some (.long x10), none, some (.int x12), some (.int x13), some (.int r29), some (.int 0)]) [true, false, false, false, false, false, true, true, true, true, true, false, true, true, true, true] rfl (P_jn_X6_meanBeside_148 hK67 ih x0 x6 x7 x8 x9 x10 x12 x13 r29 0 M28 h49)) (fun c50 => have h51 := h33.2 c50; s_iload (pc := 128) dX6_meanBeside_128 rfl (s_aload_n (pc := 130) dX6_meanBeside_130 rfl (s_getR (pc := 131) dX6_meanBeside_131 f_X6_15 rfl h51.1 (s_iload (pc := 134) dX6_meanBeside_134 rfl (s_ial (pc := 136) dX6_meanBeside_136 h51.2.1 h51.2.2.1 (s_isub (pc := 137) dX6_meanBeside_137 (s_aload_n (pc := 138) dX6_meanBeside_138 rfl (s_getI (pc := 139) dX6_meanBeside_139 f_X6_46 rfl h51.1 (s_isub (pc := 142) dX6_meanBeside_142 (nmI (fun y52 e53 => have h54 := h51.2.2.2 y52 e53; s_istore (pc := 143) (L1 := [some (.ref x0), none, none, none, none, none, some (.int x6), some (.int x7), some (.int x8), some (.int x9), some (.long x10), none, some (.int x12), some (.int x13), some (.int r29), some (.int y52)]) dX6_meanBeside_143 (Nat.le_of_ble_eq_true rfl) rfl (s_goto (pc := 145) (tgt := 176) dX6_meanBeside_145 rfl (s_sel (L1 := [some (.ref x0), none, none, none, none, none, some (.int x6), some (.int x7), some (.int x8), some (.int x9), some (.long x10), none, some (.int x12), some (.int x13), none, some (.int y52)]) [true, false, false, false, false, false, true, true, true, true, true, false, true, true, false, true] rfl (P_jn_X6_meanBeside_176 hK67 ih x0 x6 x7 x8 x9 x10 x12 x13 y52 M28 h54))))))))))))))))))))))))))))))))))))
def lp_X6_meanBeside_67 (Q : Int64 → Mem → Prop) : Nat → Nat → Int32 → Int32 → Int32 → Int32 → Int64 → Int32 → Mem → Prop
  | 0 => fun _ _ _ _ _ _ _ _ => False
  | n + 1 => fun x0 x6 x7 x8 x9 x10 x12 M => mK M x0 = 7 ∧ ((mI M x0 3) ≤ x12 → Q x10 M) ∧ (¬ (mI M x0 3) ≤ x12 → ((mI M x0 7) ≤ (0 : Int32) → Q x10 M) ∧ (¬ (mI M x0 7) ≤ (0 : Int32) → ∃ n55 : Nat, lp_X6_meanBeside_86 (fun fx0 fx6 fx7 fx8 fx9 fx10 fx12 fM => lp_X6_meanBeside_67 Q n fx0 fx6 fx7 fx8 fx9 fx10 fx12 fM) Q n55 x0 x6 x7 x8 x9 x10 x12 0 M))
theorem P_lp_X6_meanBeside_67 {G : GG} {Q : Int64 → Mem → Prop} : ∀ (n : Nat) (x0 : Nat) (x6 : Int32) (x7 : Int32) (x8 : Int32) (x9 : Int32) (x10 : Int64) (x12 : Int32) (M : Mem), lp_X6_meanBeside_67 Q n x0 x6 x7 x8 x9 x10 x12 M → PW G mX6_meanBeside (rmD 2 0 0) (QJ Q) 67 [some (.ref x0), none, none, none, none, none, some (.int x6), some (.int x7), some (.int x8), some (.int x9), some (.long x10), none, some (.int x12), none, none, none] [] M 0 0 := by
  intro n
  induction n with
  | zero => intro x0 x6 x7 x8 x9 x10 x12 M h; exact h.elim
  | succ n ih =>
    intro x0 x6 x7 x8 x9 x10 x12 M h
    exact (s_iload (pc := 67) dX6_meanBeside_67 rfl (s_aload_n (pc := 69) dX6_meanBeside_69 rfl (s_getI (pc := 70) dX6_meanBeside_70 f_X6_43 rfl h.1 (s_icmp_ge (pc := 73) (tgt := 214) dX6_meanBeside_73 rfl (fun c15 => have h16 := h.2.1 c15; s_lload (pc := 214) dX6_meanBeside_214 rfl (s_lreturn (pc := 216) dX6_meanBeside_216 rfl (Nat.zero_le _) (Nat.zero_le _) ⟨_, rfl, h16⟩)) (fun c17 => have h18 := h.2.2 c17; s_aload_n (pc := 76) dX6_meanBeside_76 rfl (s_getI (pc := 77) dX6_meanBeside_77 f_X6_27 rfl h.1 (s_if_le (pc := 80) (tgt := 214) dX6_meanBeside_80 rfl (fun c19 => have h20 := h18.1 c19; s_lload (pc := 214) dX6_meanBeside_214 rfl (s_lreturn (pc := 216) dX6_meanBeside_216 rfl (Nat.zero_le _) (Nat.zero_le _) ⟨_, rfl, h20⟩)) (fun c21 => have h22 := h18.2 c21; s_iconst (pc := 83) dX6_meanBeside_83 ci_0 (s_istore (pc := 84) (L1 := [some (.ref x0), none, none, none, none, none, some (.int x6), some (.int x7), some (.int x8), some (.int x9), some (.long x10), none, some (.int x12), some (.int 0), none, none]) dX6_meanBeside_84 (Nat.le_of_ble_eq_true rfl) rfl (Exists.elim h22 (fun n55 hn => s_sel (L1 := [some (.ref x0), none, none, none, none, none, some (.int x6), some (.int x7), some (.int x8), some (.int x9), some (.long x10), none, some (.int x12), some (.int 0), none, none]) [true, false, false, false, false, false, true, true, true, true, true, false, true, true, false, false] rfl (P_lp_X6_meanBeside_86 ih n55 x0 x6 x7 x8 x9 x10 x12 0 M hn))))))))))))
def jn_X6_meanBeside_44 (Q : Int64 → Mem → Prop) (x0 : Nat) (x1 : Int32) (x2 : Int32) (x3 : Int32) (x4 : Int32) (x6 : Int32) (s0 : Int32) (M : Mem) : Prop := ∀ y9 : Int32, y9 = iMin x2 x4 → ∀ y12 : Int32, y12 = iMax x1 x3 → ∃ n56 : Nat, lp_X6_meanBeside_67 Q n56 x0 x6 s0 y9 y12 0 0 M
theorem P_jn_X6_meanBeside_44 {G : GG} {Q : Int64 → Mem → Prop} (x0 : Nat) (x1 : Int32) (x2 : Int32) (x3 : Int32) (x4 : Int32) (x6 : Int32) (s0 : Int32) (M : Mem) (h : jn_X6_meanBeside_44 Q x0 x1 x2 x3 x4 x6 s0 M) : PW G mX6_meanBeside (rmD 2 0 0) (QJ Q) 44 [some (.ref x0), some (.int x1), some (.int x2), some (.int x3), some (.int x4), none, some (.int x6), none, none, none, none, none, none, none, none, none] [.int s0] M 0 0 := (s_istore (pc := 44) (L1 := [some (.ref x0), some (.int x1), some (.int x2), some (.int x3), some (.int x4), none, some (.int x6), some (.int s0), none, none, none, none, none, none, none, none]) dX6_meanBeside_44 (Nat.le_of_ble_eq_true rfl) rfl (s_iload_n (pc := 46) dX6_meanBeside_46 rfl (s_iload (pc := 47) dX6_meanBeside_47 rfl (s_mmin (pc := 49) dX6_meanBeside_49 c_X6_79 (Nat.le_of_ble_eq_true rfl) (Nat.le_of_ble_eq_true rfl) (Nat.le_refl 0) (Nat.le_refl 0) (nmI (fun y9 e10 => have h11 := h y9 e10; s_istore (pc := 52) (L1 := [some (.ref x0), some (.int x1), some (.int x2), some (.int x3), some (.int x4), none, some (.int x6), some (.int s0), some (.int y9), none, none, none, none, none, none, none]) dX6_meanBeside_52 (Nat.le_of_ble_eq_true rfl) rfl (s_iload_n (pc := 54) dX6_meanBeside_54 rfl (s_iload_n (pc := 55) dX6_meanBeside_55 rfl (s_mmax (pc := 56) dX6_meanBeside_56 c_X6_83 (Nat.le_of_ble_eq_true rfl) (Nat.le_of_ble_eq_true rfl) (Nat.le_refl 0) (Nat.le_refl 0) (nmI (fun y12 e13 => have h14 := h11 y12 e13; s_istore (pc := 59) (L1 := [some (.ref x0), some (.int x1), some (.int x2), some (.int x3), some (.int x4), none, some (.int x6), some (.int s0), some (.int y9), some (.int y12), none, none, none, none, none, none]) dX6_meanBeside_59 (Nat.le_of_ble_eq_true rfl) rfl (s_lconst (pc := 61) (v := 0) dX6_meanBeside_61 rfl (s_lstore (pc := 62) (L1 := [some (.ref x0), some (.int x1), some (.int x2), some (.int x3), some (.int x4), none, some (.int x6), some (.int s0), some (.int y9), some (.int y12), some (.long 0), none, none, none, none, none]) dX6_meanBeside_62 (Nat.le_of_ble_eq_true rfl) rfl (s_iconst (pc := 64) dX6_meanBeside_64 ci_0 (s_istore (pc := 65) (L1 := [some (.ref x0), some (.int x1), some (.int x2), some (.int x3), some (.int x4), none, some (.int x6), some (.int s0), some (.int y9), some (.int y12), some (.long 0), none, some (.int 0), none, none, none]) dX6_meanBeside_65 (Nat.le_of_ble_eq_true rfl) rfl (Exists.elim h14 (fun n56 hn => s_sel (L1 := [some (.ref x0), none, none, none, none, none, some (.int x6), some (.int s0), some (.int y9), some (.int y12), some (.long 0), none, some (.int 0), none, none, none]) [true, false, false, false, false, false, true, true, true, true, true, false, true, false, false, false] rfl (P_lp_X6_meanBeside_67 n56 x0 x6 s0 y9 y12 0 0 M hn))))))))))))))))))
def jn_X6_meanBeside_39 (Q : Int64 → Mem → Prop) (x0 : Nat) (x1 : Int32) (x2 : Int32) (x3 : Int32) (x4 : Int32) (x6 : Int32) (M : Mem) : Prop := jn_X6_meanBeside_44 Q x0 x1 x2 x3 x4 x6 1 M
theorem P_jn_X6_meanBeside_39 {G : GG} {Q : Int64 → Mem → Prop} (x0 : Nat) (x1 : Int32) (x2 : Int32) (x3 : Int32) (x4 : Int32) (x6 : Int32) (M : Mem) (h : jn_X6_meanBeside_39 Q x0 x1 x2 x3 x4 x6 M) : PW G mX6_meanBeside (rmD 2 0 0) (QJ Q) 39 [some (.ref x0), some (.int x1), some (.int x2), some (.int x3), some (.int x4), none, some (.int x6), none, none, none, none, none, none, none, none, none] [] M 0 0 := (s_iconst (pc := 39) dX6_meanBeside_39 ci_1 (s_goto (pc := 40) (tgt := 44) dX6_meanBeside_40 rfl (s_sel (L1 := [some (.ref x0), some (.int x1), some (.int x2), some (.int x3), some (.int x4), none, some (.int x6), none, none, none, none, none, none, none, none, none]) [true, true, true, true, true, false, true, false, false, false, false, false, false, false, false, false] rfl (P_jn_X6_meanBeside_44 x0 x1 x2 x3 x4 x6 1 M h))))
def jn_X6_meanBeside_43 (Q : Int64 → Mem → Prop) (x0 : Nat) (x1 : Int32) (x2 : Int32) (x3 : Int32) (x4 : Int32) (x6 : Int32) (M : Mem) : Prop := jn_X6_meanBeside_44 Q x0 x1 x2 x3 x4 x6 0 M
theorem P_jn_X6_meanBeside_43 {G : GG} {Q : Int64 → Mem → Prop} (x0 : Nat) (x1 : Int32) (x2 : Int32) (x3 : Int32) (x4 : Int32) (x6 : Int32) (M : Mem) (h : jn_X6_meanBeside_43 Q x0 x1 x2 x3 x4 x6 M) : PW G mX6_meanBeside (rmD 2 0 0) (QJ Q) 43 [some (.ref x0), some (.int x1), some (.int x2), some (.int x3), some (.int x4), none, some (.int x6), none, none, none, none, none, none, none, none, none] [] M 0 0 := (s_iconst (pc := 43) dX6_meanBeside_43 ci_0 (s_sel (L1 := [some (.ref x0), some (.int x1), some (.int x2), some (.int x3), some (.int x4), none, some (.int x6), none, none, none, none, none, none, none, none, none]) [true, true, true, true, true, false, true, false, false, false, false, false, false, false, false, false] rfl (P_jn_X6_meanBeside_44 x0 x1 x2 x3 x4 x6 0 M h)))
def jn_X6_meanBeside_22 (Q : Int64 → Mem → Prop) (x0 : Nat) (x1 : Int32) (x2 : Int32) (x3 : Int32) (x4 : Int32) (x5 : Int32) (s0 : Int32) (M : Mem) : Prop := (x3 < x1 → jn_X6_meanBeside_39 Q x0 x1 x2 x3 x4 s0 M) ∧ (¬ x3 < x1 → (x5 = (0 : Int32) → jn_X6_meanBeside_43 Q x0 x1 x2 x3 x4 s0 M) ∧ (¬ x5 = (0 : Int32) → (¬ x1 = x3 → jn_X6_meanBeside_43 Q x0 x1 x2 x3 x4 s0 M) ∧ (x1 = x3 → jn_X6_meanBeside_39 Q x0 x1 x2 x3 x4 s0 M)))
theorem P_jn_X6_meanBeside_22 {G : GG} {Q : Int64 → Mem → Prop} (x0 : Nat) (x1 : Int32) (x2 : Int32) (x3 : Int32) (x4 : Int32) (x5 : Int32) (s0 : Int32) (M : Mem) (h : jn_X6_meanBeside_22 Q x0 x1 x2 x3 x4 x5 s0 M) : PW G mX6_meanBeside (rmD 2 0 0) (QJ Q) 22 [some (.ref x0), some (.int x1), some (.int x2), some (.int x3), some (.int x4), some (.int x5), none, none, none, none, none, none, none, none, none, none] [.int s0] M 0 0 := (s_istore (pc := 22) (L1 := [some (.ref x0), some (.int x1), some (.int x2), some (.int x3), some (.int x4), some (.int x5), some (.int s0), none, none, none, none, none, none, none, none, none]) dX6_meanBeside_22 (Nat.le_of_ble_eq_true rfl) rfl (s_iload_n (pc := 24) dX6_meanBeside_24 rfl (s_iload_n (pc := 25) dX6_meanBeside_25 rfl (s_icmp_gt (pc := 26) (tgt := 39) dX6_meanBeside_26 rfl (fun c5 => have h6 := h.1 c5; s_sel (L1 := [some (.ref x0), some (.int x1), some (.int x2), some (.int x3), some (.int x4), none, some (.int s0), none, none, none, none, none, none, none, none, none]) [true, true, true, true, true, false, true, false, false, false, false, false, false, false, false, false] rfl (P_jn_X6_meanBeside_39 x0 x1 x2 x3 x4 s0 M h6)) (fun c7 => have h8 := h.2 c7; s_iload (pc := 29) dX6_meanBeside_29 rfl (s_if_eq (pc := 31) (tgt := 43) dX6_meanBeside_31 rfl (fun c57 => have h58 := h8.1 c57; s_sel (L1 := [some (.ref x0), some (.int x1), some (.int x2), some (.int x3), some (.int x4), none, some (.int s0), none, none, none, none, none, none, none, none, none]) [true, true, true, true, true, false, true, false, false, false, false, false, false, false, false, false] rfl (P_jn_X6_meanBeside_43 x0 x1 x2 x3 x4 s0 M h58)) (fun c59 => have h60 := h8.2 c59; s_iload_n (pc := 34) dX6_meanBeside_34 rfl (s_iload_n (pc := 35) dX6_meanBeside_35 rfl (s_icmp_ne (pc := 36) (tgt := 43) dX6_meanBeside_36 rfl (fun c61 => have h62 := h60.1 c61; s_sel (L1 := [some (.ref x0), some (.int x1), some (.int x2), some (.int x3), some (.int x4), none, some (.int s0), none, none, none, none, none, none, none, none, none]) [true, true, true, true, true, false, true, false, false, false, false, false, false, false, false, false] rfl (P_jn_X6_meanBeside_43 x0 x1 x2 x3 x4 s0 M h62)) (fun c63 => have h64 := h60.2 c63; s_sel (L1 := [some (.ref x0), some (.int x1), some (.int x2), some (.int x3), some (.int x4), none, some (.int s0), none, none, none, none, none, none, none, none, none]) [true, true, true, true, true, false, true, false, false, false, false, false, false, false, false, false] rfl (P_jn_X6_meanBeside_39 x0 x1 x2 x3 x4 s0 M h64)))))))))))
def jn_X6_meanBeside_17 (Q : Int64 → Mem → Prop) (x0 : Nat) (x1 : Int32) (x2 : Int32) (x3 : Int32) (x4 : Int32) (x5 : Int32) (M : Mem) : Prop := jn_X6_meanBeside_22 Q x0 x1 x2 x3 x4 x5 1 M
theorem P_jn_X6_meanBeside_17 {G : GG} {Q : Int64 → Mem → Prop} (x0 : Nat) (x1 : Int32) (x2 : Int32) (x3 : Int32) (x4 : Int32) (x5 : Int32) (M : Mem) (h : jn_X6_meanBeside_17 Q x0 x1 x2 x3 x4 x5 M) : PW G mX6_meanBeside (rmD 2 0 0) (QJ Q) 17 [some (.ref x0), some (.int x1), some (.int x2), some (.int x3), some (.int x4), some (.int x5), none, none, none, none, none, none, none, none, none, none] [] M 0 0 := (s_iconst (pc := 17) dX6_meanBeside_17 ci_1 (s_goto (pc := 18) (tgt := 22) dX6_meanBeside_18 rfl (s_sel (L1 := [some (.ref x0), some (.int x1), some (.int x2), some (.int x3), some (.int x4), some (.int x5), none, none, none, none, none, none, none, none, none, none]) [true, true, true, true, true, true, false, false, false, false, false, false, false, false, false, false] rfl (P_jn_X6_meanBeside_22 x0 x1 x2 x3 x4 x5 1 M h))))
def jn_X6_meanBeside_21 (Q : Int64 → Mem → Prop) (x0 : Nat) (x1 : Int32) (x2 : Int32) (x3 : Int32) (x4 : Int32) (x5 : Int32) (M : Mem) : Prop := jn_X6_meanBeside_22 Q x0 x1 x2 x3 x4 x5 0 M
theorem P_jn_X6_meanBeside_21 {G : GG} {Q : Int64 → Mem → Prop} (x0 : Nat) (x1 : Int32) (x2 : Int32) (x3 : Int32) (x4 : Int32) (x5 : Int32) (M : Mem) (h : jn_X6_meanBeside_21 Q x0 x1 x2 x3 x4 x5 M) : PW G mX6_meanBeside (rmD 2 0 0) (QJ Q) 21 [some (.ref x0), some (.int x1), some (.int x2), some (.int x3), some (.int x4), some (.int x5), none, none, none, none, none, none, none, none, none, none] [] M 0 0 := (s_iconst (pc := 21) dX6_meanBeside_21 ci_0 (s_sel (L1 := [some (.ref x0), some (.int x1), some (.int x2), some (.int x3), some (.int x4), some (.int x5), none, none, none, none, none, none, none, none, none, none]) [true, true, true, true, true, true, false, false, false, false, false, false, false, false, false, false] rfl (P_jn_X6_meanBeside_22 x0 x1 x2 x3 x4 x5 0 M h)))
def wp_X6_meanBeside (p0 : Nat) (p1 : Int32) (p2 : Int32) (p3 : Int32) (p4 : Int32) (p5 : Int32) (M : Mem) (Q : Int64 → Mem → Prop) : Prop := (p2 < p4 → jn_X6_meanBeside_17 Q p0 p1 p2 p3 p4 p5 M) ∧ (¬ p2 < p4 → (p5 = (0 : Int32) → jn_X6_meanBeside_21 Q p0 p1 p2 p3 p4 p5 M) ∧ (¬ p5 = (0 : Int32) → (¬ p2 = p4 → jn_X6_meanBeside_21 Q p0 p1 p2 p3 p4 p5 M) ∧ (p2 = p4 → jn_X6_meanBeside_17 Q p0 p1 p2 p3 p4 p5 M)))
theorem T_X6_meanBeside {G : GG} {Q : Int64 → Mem → Prop} {M : Mem} {p0 : Nat} {p1 : Int32} {p2 : Int32} {p3 : Int32} {p4 : Int32} {p5 : Int32} (h : wp_X6_meanBeside p0 p1 p2 p3 p4 p5 M Q) : PMet G mX6_meanBeside 2 0 0 [.ref p0, .int p1, .int p2, .int p3, .int p4, .int p5] M (QJ Q) :=
  mk_met (by decide) rfl rfl (by
    intro w hw x9 e9
    subst e9
    simp at hw) (Nat.le_of_ble_eq_true rfl) (s_pad (L1 := [some (.ref p0), some (.int p1), some (.int p2), some (.int p3), some (.int p4), some (.int p5), none, none, none, none, none, none, none, none, none, none]) 16 rfl (s_iload_n (pc := 0) dX6_meanBeside_0 rfl (s_iload (pc := 1) dX6_meanBeside_1 rfl (s_icmp_lt (pc := 3) (tgt := 17) dX6_meanBeside_3 rfl (fun c1 => have h2 := h.1 c1; s_sel (L1 := [some (.ref p0), some (.int p1), some (.int p2), some (.int p3), some (.int p4), some (.int p5), none, none, none, none, none, none, none, none, none, none]) [true, true, true, true, true, true, false, false, false, false, false, false, false, false, false, false] rfl (P_jn_X6_meanBeside_17 p0 p1 p2 p3 p4 p5 M h2)) (fun c3 => have h4 := h.2 c3; s_iload (pc := 6) dX6_meanBeside_6 rfl (s_if_eq (pc := 8) (tgt := 21) dX6_meanBeside_8 rfl (fun c65 => have h66 := h4.1 c65; s_sel (L1 := [some (.ref p0), some (.int p1), some (.int p2), some (.int p3), some (.int p4), some (.int p5), none, none, none, none, none, none, none, none, none, none]) [true, true, true, true, true, true, false, false, false, false, false, false, false, false, false, false] rfl (P_jn_X6_meanBeside_21 p0 p1 p2 p3 p4 p5 M h66)) (fun c67 => have h68 := h4.2 c67; s_iload_n (pc := 11) dX6_meanBeside_11 rfl (s_iload (pc := 12) dX6_meanBeside_12 rfl (s_icmp_ne (pc := 14) (tgt := 21) dX6_meanBeside_14 rfl (fun c69 => have h70 := h68.1 c69; s_sel (L1 := [some (.ref p0), some (.int p1), some (.int p2), some (.int p3), some (.int p4), some (.int p5), none, none, none, none, none, none, none, none, none, none]) [true, true, true, true, true, true, false, false, false, false, false, false, false, false, false, false] rfl (P_jn_X6_meanBeside_21 p0 p1 p2 p3 p4 p5 M h70)) (fun c71 => have h72 := h68.2 c71; s_sel (L1 := [some (.ref p0), some (.int p1), some (.int p2), some (.int p3), some (.int p4), some (.int p5), none, none, none, none, none, none, none, none, none, none]) [true, true, true, true, true, true, false, false, false, false, false, false, false, false, false, false] rfl (P_jn_X6_meanBeside_17 p0 p1 p2 p3 p4 p5 M h72)))))))))))
/-! X12_beside -/
theorem dX12_beside_0 : cod mX12_beside 0 (.iload_n 1) 1 := by decide +kernel
theorem dX12_beside_1 : cod mX12_beside 1 (.iload_n 2) 1 := by decide +kernel
theorem dX12_beside_2 : cod mX12_beside 2 (.invokestatic 118) 3 := by decide +kernel
theorem dX12_beside_5 : cod mX12_beside 5 (.ifCond .eq 12) 3 := by decide +kernel
theorem dX12_beside_8 : cod mX12_beside 8 (.iload_n 3) 1 := by decide +kernel
theorem dX12_beside_9 : cod mX12_beside 9 (.iload 4) 2 := by decide +kernel
theorem dX12_beside_11 : cod mX12_beside 11 (.invokestatic 118) 3 := by decide +kernel
theorem dX12_beside_14 : cod mX12_beside 14 (.ifCond .ne 7) 3 := by decide +kernel
theorem dX12_beside_17 : cod mX12_beside 17 (.ldc2_w 147) 3 := by decide +kernel
theorem dX12_beside_20 : cod mX12_beside 20 (.lreturn) 1 := by decide +kernel
theorem dX12_beside_21 : cod mX12_beside 21 (.aload_n 0) 1 := by decide +kernel
theorem dX12_beside_22 : cod mX12_beside 22 (.getfield 10) 3 := by decide +kernel
theorem dX12_beside_25 : cod mX12_beside 25 (.invokevirtual 132) 3 := by decide +kernel
theorem dX12_beside_28 : cod mX12_beside 28 (.ifCond .ne 7) 3 := by decide +kernel
theorem dX12_beside_31 : cod mX12_beside 31 (.ldc2_w 149) 3 := by decide +kernel
theorem dX12_beside_34 : cod mX12_beside 34 (.lreturn) 1 := by decide +kernel
theorem dX12_beside_35 : cod mX12_beside 35 (.aload_n 0) 1 := by decide +kernel
theorem dX12_beside_36 : cod mX12_beside 36 (.getfield 10) 3 := by decide +kernel
theorem dX12_beside_39 : cod mX12_beside 39 (.iload_n 1) 1 := by decide +kernel
theorem dX12_beside_40 : cod mX12_beside 40 (.iload_n 2) 1 := by decide +kernel
theorem dX12_beside_41 : cod mX12_beside 41 (.iload_n 3) 1 := by decide +kernel
theorem dX12_beside_42 : cod mX12_beside 42 (.iload 4) 2 := by decide +kernel
theorem dX12_beside_44 : cod mX12_beside 44 (.iconst 0) 1 := by decide +kernel
theorem dX12_beside_45 : cod mX12_beside 45 (.invokevirtual 249) 3 := by decide +kernel
theorem dX12_beside_48 : cod mX12_beside 48 (.lreturn) 1 := by decide +kernel
def wp_X12_beside (p0 : Nat) (p1 : Int32) (p2 : Int32) (p3 : Int32) (p4 : Int32) (M : Mem) (Q : Int64 → Mem → Prop) : Prop := wp_X12_isSlate p1 p2 M (fun r3 M2 => (r3 = (0 : Int32) → Q (-4000000000000000001) M2) ∧ (¬ r3 = (0 : Int32) → wp_X12_isSlate p3 p4 M2 (fun r10 M9 => (¬ r10 = (0 : Int32) → mK M9 p0 = 13 ∧ mK M9 (mR M9 p0 0) = 7 ∧ wp_X6_isReady (mR M9 p0 0) M9 (fun r17 M16 => (¬ r17 = (0 : Int32) → mK M16 p0 = 13 ∧ mK M16 (mR M16 p0 0) = 7 ∧ wp_X6_meanBeside (mR M16 p0 0) p1 p2 p3 p4 0 M16 (fun r24 M23 => Q r24 M23)) ∧ (r17 = (0 : Int32) → Q (-4000000000000000003) M16))) ∧ (r10 = (0 : Int32) → Q (-4000000000000000001) M9))))
theorem T_X12_beside {G : GG} {Q : Int64 → Mem → Prop} {M : Mem} {p0 : Nat} {p1 : Int32} {p2 : Int32} {p3 : Int32} {p4 : Int32} (h : wp_X12_beside p0 p1 p2 p3 p4 M Q) : PMet G mX12_beside 3 0 0 [.ref p0, .int p1, .int p2, .int p3, .int p4] M (QJ Q) :=
  mk_met (by decide) rfl rfl (by
    intro w hw x9 e9
    subst e9
    simp at hw) (Nat.le_of_ble_eq_true rfl) (s_pad (L1 := [some (.ref p0), some (.int p1), some (.int p2), some (.int p3), some (.int p4)]) 5 rfl (s_iload_n (pc := 0) dX12_beside_0 rfl (s_iload_n (pc := 1) dX12_beside_1 rfl (s_callS (pc := 2) (As := [.int p1, .int p2]) (rest := []) (d' := 0) (mc' := 0) (ms' := 0) dX12_beside_2 c_X12_118 rfl rfl (Nat.le_of_ble_eq_true rfl) (rm_ok rfl rfl) ⟨Nat.le_refl 0, Nat.le_refl 0⟩ (T_X12_isSlate h) (kkI (fun r3 M2 h1 => s_if_eq (pc := 5) (tgt := 17) dX12_beside_5 rfl (fun c4 => have h5 := h1.1 c4; s_ldc2 (pc := 17) dX12_beside_17 k_X12_147 (s_lreturn (pc := 20) dX12_beside_20 rfl (Nat.zero_le _) (Nat.zero_le _) ⟨_, rfl, h5⟩)) (fun c6 => have h7 := h1.2 c6; s_iload_n (pc := 8) dX12_beside_8 rfl (s_iload (pc := 9) dX12_beside_9 rfl (s_callS (pc := 11) (As := [.int p3, .int p4]) (rest := []) (d' := 0) (mc' := 0) (ms' := 0) dX12_beside_11 c_X12_118 rfl rfl (Nat.le_of_ble_eq_true rfl) (rm_ok rfl rfl) ⟨Nat.le_refl 0, Nat.le_refl 0⟩ (T_X12_isSlate h7) (kkI (fun r10 M9 h8 => s_if_ne (pc := 14) (tgt := 21) dX12_beside_14 rfl (fun c11 => have h12 := h8.1 c11; s_aload_n (pc := 21) dX12_beside_21 rfl (s_getR (pc := 22) dX12_beside_22 f_X12_10 rfl h12.1 (s_callV (pc := 25) (As := []) (rest := []) (d' := 1) (mc' := 0) (ms' := 0) dX12_beside_25 c_X12_132 (Nat.le_of_ble_eq_true rfl) rfl h12.2.1 rfl rfl (Nat.le_of_ble_eq_true rfl) (rm_ok rfl rfl) ⟨Nat.le_refl 0, Nat.le_refl 0⟩ (T_X6_isReady h12.2.2) (kkI (fun r17 M16 h15 => s_if_ne (pc := 28) (tgt := 35) dX12_beside_28 rfl (fun c18 => have h19 := h15.1 c18; s_aload_n (pc := 35) dX12_beside_35 rfl (s_getR (pc := 36) dX12_beside_36 f_X12_10 rfl h19.1 (s_iload_n (pc := 39) dX12_beside_39 rfl (s_iload_n (pc := 40) dX12_beside_40 rfl (s_iload_n (pc := 41) dX12_beside_41 rfl (s_iload (pc := 42) dX12_beside_42 rfl (s_iconst (pc := 44) dX12_beside_44 ci_0 (s_callV (pc := 45) (As := [.int p1, .int p2, .int p3, .int p4, .int 0]) (rest := []) (d' := 2) (mc' := 0) (ms' := 0) dX12_beside_45 c_X12_249 (Nat.le_of_ble_eq_true rfl) rfl h19.2.1 rfl rfl (Nat.le_of_ble_eq_true rfl) (rm_ok rfl rfl) ⟨Nat.le_refl 0, Nat.le_refl 0⟩ (T_X6_meanBeside h19.2.2) (kkJ (fun r24 M23 h22 => s_lreturn (pc := 48) dX12_beside_48 rfl (Nat.zero_le _) (Nat.zero_le _) ⟨_, rfl, h22⟩)))))))))) (fun c20 => have h21 := h15.2 c20; s_ldc2 (pc := 31) dX12_beside_31 k_X12_149 (s_lreturn (pc := 34) dX12_beside_34 rfl (Nat.zero_le _) (Nat.zero_le _) ⟨_, rfl, h21⟩))))))) (fun c13 => have h14 := h8.2 c13; s_ldc2 (pc := 17) dX12_beside_17 k_X12_147 (s_lreturn (pc := 20) dX12_beside_20 rfl (Nat.zero_le _) (Nat.zero_le _) ⟨_, rfl, h14⟩)))))))))))))
/-! X5_list -/
theorem dX5_list_0 : cod mX5_list 0 (.iload_n 1) 1 := by decide +kernel
theorem dX5_list_1 : cod mX5_list 1 (.ifCond .le 15) 3 := by decide +kernel
theorem dX5_list_4 : cod mX5_list 4 (.bipush 10) 2 := by decide +kernel
theorem dX5_list_6 : cod mX5_list 6 (.bipush 100) 2 := by decide +kernel
theorem dX5_list_8 : cod mX5_list 8 (.iload_n 1) 1 := by decide +kernel
theorem dX5_list_9 : cod mX5_list 9 (.idiv) 1 := by decide +kernel
theorem dX5_list_10 : cod mX5_list 10 (.invokestatic 41) 3 := by decide +kernel
theorem dX5_list_13 : cod mX5_list 13 (.goto 4) 3 := by decide +kernel
theorem dX5_list_16 : cod mX5_list 16 (.iconst 0) 1 := by decide +kernel
theorem dX5_list_17 : cod mX5_list 17 (.istore_n 2) 1 := by decide +kernel
theorem dX5_list_18 : cod mX5_list 18 (.aload_n 0) 1 := by decide +kernel
theorem dX5_list_19 : cod mX5_list 19 (.iconst 0) 1 := by decide +kernel
theorem dX5_list_20 : cod mX5_list 20 (.putfield 47) 3 := by decide +kernel
theorem dX5_list_23 : cod mX5_list 23 (.iconst 0) 1 := by decide +kernel
theorem dX5_list_24 : cod mX5_list 24 (.istore_n 3) 1 := by decide +kernel
theorem dX5_list_25 : cod mX5_list 25 (.iload_n 3) 1 := by decide +kernel
theorem dX5_list_26 : cod mX5_list 26 (.iload_n 2) 1 := by decide +kernel
theorem dX5_list_27 : cod mX5_list 27 (.if_icmp .ge 66) 3 := by decide +kernel
theorem dX5_list_30 : cod mX5_list 30 (.iload_n 3) 1 := by decide +kernel
theorem dX5_list_31 : cod mX5_list 31 (.iconst 1) 1 := by decide +kernel
theorem dX5_list_32 : cod mX5_list 32 (.iadd) 1 := by decide +kernel
theorem dX5_list_33 : cod mX5_list 33 (.istore 4) 2 := by decide +kernel
theorem dX5_list_35 : cod mX5_list 35 (.iload 4) 2 := by decide +kernel
theorem dX5_list_37 : cod mX5_list 37 (.iload_n 2) 1 := by decide +kernel
theorem dX5_list_38 : cod mX5_list 38 (.if_icmp .gt 49) 3 := by decide +kernel
theorem dX5_list_41 : cod mX5_list 41 (.aload_n 0) 1 := by decide +kernel
theorem dX5_list_42 : cod mX5_list 42 (.getfield 47) 3 := by decide +kernel
theorem dX5_list_45 : cod mX5_list 45 (.bipush 55) 2 := by decide +kernel
theorem dX5_list_47 : cod mX5_list 47 (.if_icmp .ge 40) 3 := by decide +kernel
theorem dX5_list_50 : cod mX5_list 50 (.aload_n 0) 1 := by decide +kernel
theorem dX5_list_51 : cod mX5_list 51 (.getfield 11) 3 := by decide +kernel
theorem dX5_list_54 : cod mX5_list 54 (.aload_n 0) 1 := by decide +kernel
theorem dX5_list_55 : cod mX5_list 55 (.getfield 47) 3 := by decide +kernel
theorem dX5_list_58 : cod mX5_list 58 (.iload_n 3) 1 := by decide +kernel
theorem dX5_list_59 : cod mX5_list 59 (.iastore) 1 := by decide +kernel
theorem dX5_list_60 : cod mX5_list 60 (.aload_n 0) 1 := by decide +kernel
theorem dX5_list_61 : cod mX5_list 61 (.getfield 15) 3 := by decide +kernel
theorem dX5_list_64 : cod mX5_list 64 (.aload_n 0) 1 := by decide +kernel
theorem dX5_list_65 : cod mX5_list 65 (.getfield 47) 3 := by decide +kernel
theorem dX5_list_68 : cod mX5_list 68 (.iload 4) 2 := by decide +kernel
theorem dX5_list_70 : cod mX5_list 70 (.iastore) 1 := by decide +kernel
theorem dX5_list_71 : cod mX5_list 71 (.aload_n 0) 1 := by decide +kernel
theorem dX5_list_72 : cod mX5_list 72 (.dup) 1 := by decide +kernel
theorem dX5_list_73 : cod mX5_list 73 (.getfield 47) 3 := by decide +kernel
theorem dX5_list_76 : cod mX5_list 76 (.iconst 1) 1 := by decide +kernel
theorem dX5_list_77 : cod mX5_list 77 (.iadd) 1 := by decide +kernel
theorem dX5_list_78 : cod mX5_list 78 (.putfield 47) 3 := by decide +kernel
theorem dX5_list_81 : cod mX5_list 81 (.iinc 4 1) 3 := by decide +kernel
theorem dX5_list_84 : cod mX5_list 84 (.goto (-49)) 3 := by decide +kernel
theorem dX5_list_87 : cod mX5_list 87 (.iinc 3 1) 3 := by decide +kernel
theorem dX5_list_90 : cod mX5_list 90 (.goto (-65)) 3 := by decide +kernel
theorem dX5_list_93 : cod mX5_list 93 (.return_) 1 := by decide +kernel
def jn_X5_list_87 (K25 : Nat → Int32 → Int32 → Mem → Prop) (Q : Mem → Prop) (x0 : Nat) (x2 : Int32) (x3 : Int32) (M : Mem) : Prop := K25 x0 x2 (x3 + 1) M
theorem P_jn_X5_list_87 {G : GG} {K25 : Nat → Int32 → Int32 → Mem → Prop} {Q : Mem → Prop} (hK25 : ∀ (x0 : Nat) (x2 : Int32) (x3 : Int32) (M : Mem), K25 x0 x2 x3 M → PW G mX5_list (rmD 1 0 0) (QV Q) 25 [some (.ref x0), none, some (.int x2), some (.int x3), none] [] M 0 0) (x0 : Nat) (x2 : Int32) (x3 : Int32) (M : Mem) (h : jn_X5_list_87 K25 Q x0 x2 x3 M) : PW G mX5_list (rmD 1 0 0) (QV Q) 87 [some (.ref x0), none, some (.int x2), some (.int x3), none] [] M 0 0 := (s_iinc (pc := 87) (L1 := [some (.ref x0), none, some (.int x2), some (.int (x3 + 1)), none]) dX5_list_87 rfl ci_1 (Nat.le_of_ble_eq_true rfl) rfl (s_goto (pc := 90) (tgt := 25) dX5_list_90 rfl (s_sel (L1 := [some (.ref x0), none, some (.int x2), some (.int (x3 + 1)), none]) [true, false, true, true, false] rfl (hK25 x0 x2 (x3 + 1) M h))))
def lp_X5_list_35 (K25 : Nat → Int32 → Int32 → Mem → Prop) (Q : Mem → Prop) : Nat → Nat → Int32 → Int32 → Int32 → Mem → Prop
  | 0 => fun _ _ _ _ _ => False
  | n + 1 => fun x0 x2 x3 x4 M => (x2 < x4 → jn_X5_list_87 K25 Q x0 x2 x3 M) ∧ (¬ x2 < x4 → mK M x0 = 6 ∧ ((55 : Int32) ≤ (mI M x0 3) → jn_X5_list_87 K25 Q x0 x2 x3 M) ∧ (¬ (55 : Int32) ≤ (mI M x0 3) → mK M (mR M x0 4) = 20 ∧ vp_in (mI M x0 3) (mN M (mR M x0 4)) ∧ ∀ M23 : Mem, M23 = uI M (mR M x0 4) (mI M x0 3).toNatClampNeg x3 → mK M23 (mR M23 x0 5) = 20 ∧ vp_in (mI M23 x0 3) (mN M23 (mR M23 x0 5)) ∧ ∀ M26 : Mem, M26 = uI M23 (mR M23 x0 5) (mI M23 x0 3).toNatClampNeg x4 → ∀ M29 : Mem, M29 = uI M26 x0 3 ((mI M26 x0 3) + 1) → (lp_X5_list_35 K25 Q n) x0 x2 x3 (x4 + 1) M29))
theorem P_lp_X5_list_35 {G : GG} {K25 : Nat → Int32 → Int32 → Mem → Prop} {Q : Mem → Prop} (hK25 : ∀ (x0 : Nat) (x2 : Int32) (x3 : Int32) (M : Mem), K25 x0 x2 x3 M → PW G mX5_list (rmD 1 0 0) (QV Q) 25 [some (.ref x0), none, some (.int x2), some (.int x3), none] [] M 0 0) : ∀ (n : Nat) (x0 : Nat) (x2 : Int32) (x3 : Int32) (x4 : Int32) (M : Mem), lp_X5_list_35 K25 Q n x0 x2 x3 x4 M → PW G mX5_list (rmD 1 0 0) (QV Q) 35 [some (.ref x0), none, some (.int x2), some (.int x3), some (.int x4)] [] M 0 0 := by
  intro n
  induction n with
  | zero => intro x0 x2 x3 x4 M h; exact h.elim
  | succ n ih =>
    intro x0 x2 x3 x4 M h
    exact (s_iload (pc := 35) dX5_list_35 rfl (s_iload_n (pc := 37) dX5_list_37 rfl (s_icmp_gt (pc := 38) (tgt := 87) dX5_list_38 rfl (fun c15 => have h16 := h.1 c15; s_sel (L1 := [some (.ref x0), none, some (.int x2), some (.int x3), none]) [true, false, true, true, false] rfl (P_jn_X5_list_87 hK25 x0 x2 x3 M h16)) (fun c17 => have h18 := h.2 c17; s_aload_n (pc := 41) dX5_list_41 rfl (s_getI (pc := 42) dX5_list_42 f_X5_47 rfl h18.1 (s_bipush (pc := 45) dX5_list_45 cb_55 (s_icmp_ge (pc := 47) (tgt := 87) dX5_list_47 rfl (fun c19 => have h20 := h18.2.1 c19; s_sel (L1 := [some (.ref x0), none, some (.int x2), some (.int x3), none]) [true, false, true, true, false] rfl (P_jn_X5_list_87 hK25 x0 x2 x3 M h20)) (fun c21 => have h22 := h18.2.2 c21; s_aload_n (pc := 50) dX5_list_50 rfl (s_getR (pc := 51) dX5_list_51 f_X5_11 rfl h18.1 (s_aload_n (pc := 54) dX5_list_54 rfl (s_getI (pc := 55) dX5_list_55 f_X5_47 rfl h18.1 (s_iload_n (pc := 58) dX5_list_58 rfl (s_ias (pc := 59) dX5_list_59 h22.1 h22.2.1 (nmM (fun M23 e24 => have h25 := (h22.2.2) M23 e24; s_aload_n (pc := 60) dX5_list_60 rfl (s_getR (pc := 61) dX5_list_61 f_X5_15 rfl ((congrFun (congrArg mK e24) x0).trans h18.1) (s_aload_n (pc := 64) dX5_list_64 rfl (s_getI (pc := 65) dX5_list_65 f_X5_47 rfl ((congrFun (congrArg mK e24) x0).trans h18.1) (s_iload (pc := 68) dX5_list_68 rfl (s_ias (pc := 70) dX5_list_70 h25.1 h25.2.1 (nmM (fun M26 e27 => have h28 := (h25.2.2) M26 e27; s_aload_n (pc := 71) dX5_list_71 rfl (s_dup (pc := 72) dX5_list_72 rfl (s_getI (pc := 73) dX5_list_73 f_X5_47 rfl ((congrFun (congrArg mK e27) x0).trans ((congrFun (congrArg mK e24) x0).trans h18.1)) (s_iconst (pc := 76) dX5_list_76 ci_1 (s_iadd (pc := 77) dX5_list_77 (s_putI (pc := 78) dX5_list_78 f_X5_47 (Or.inl rfl) (Or.inl rfl) ((congrFun (congrArg mK e27) x0).trans ((congrFun (congrArg mK e24) x0).trans h18.1)) (nmM (fun M29 e30 => have h31 := h28 M29 e30; s_iinc (pc := 81) (L1 := [some (.ref x0), none, some (.int x2), some (.int x3), some (.int (x4 + 1))]) dX5_list_81 rfl ci_1 (Nat.le_of_ble_eq_true rfl) rfl (s_goto (pc := 84) (tgt := 35) dX5_list_84 rfl (s_sel (L1 := [some (.ref x0), none, some (.int x2), some (.int x3), some (.int (x4 + 1))]) [true, false, true, true, true] rfl (ih x0 x2 x3 (x4 + 1) M29 h31))))))))))))))))))))))))))))))))
def lp_X5_list_25 (Q : Mem → Prop) : Nat → Nat → Int32 → Int32 → Mem → Prop
  | 0 => fun _ _ _ _ => False
  | n + 1 => fun x0 x2 x3 M => (x2 ≤ x3 → Q M) ∧ (¬ x2 ≤ x3 → ∀ y12 : Int32, y12 = x3 + 1 → ∃ n32 : Nat, lp_X5_list_35 (fun fx0 fx2 fx3 fM => lp_X5_list_25 Q n fx0 fx2 fx3 fM) Q n32 x0 x2 x3 y12 M)
theorem P_lp_X5_list_25 {G : GG} {Q : Mem → Prop} : ∀ (n : Nat) (x0 : Nat) (x2 : Int32) (x3 : Int32) (M : Mem), lp_X5_list_25 Q n x0 x2 x3 M → PW G mX5_list (rmD 1 0 0) (QV Q) 25 [some (.ref x0), none, some (.int x2), some (.int x3), none] [] M 0 0 := by
  intro n
  induction n with
  | zero => intro x0 x2 x3 M h; exact h.elim
  | succ n ih =>
    intro x0 x2 x3 M h
    exact (s_iload_n (pc := 25) dX5_list_25 rfl (s_iload_n (pc := 26) dX5_list_26 rfl (s_icmp_ge (pc := 27) (tgt := 93) dX5_list_27 rfl (fun c8 => have h9 := h.1 c8; s_return (pc := 93) dX5_list_93 rfl (Nat.zero_le _) (Nat.zero_le _) ⟨rfl, h9⟩) (fun c10 => have h11 := h.2 c10; s_iload_n (pc := 30) dX5_list_30 rfl (s_iconst (pc := 31) dX5_list_31 ci_1 (s_iadd (pc := 32) dX5_list_32 (nmI (fun y12 e13 => have h14 := h11 y12 e13; s_istore (pc := 33) (L1 := [some (.ref x0), none, some (.int x2), some (.int x3), some (.int y12)]) dX5_list_33 (Nat.le_of_ble_eq_true rfl) rfl (Exists.elim h14 (fun n32 hn => s_sel (L1 := [some (.ref x0), none, some (.int x2), some (.int x3), some (.int y12)]) [true, false, true, true, true] rfl (P_lp_X5_list_35 ih n32 x0 x2 x3 y12 M hn)))))))))))
def jn_X5_list_17 (Q : Mem → Prop) (x0 : Nat) (s0 : Int32) (M : Mem) : Prop := mK M x0 = 6 ∧ ∀ M5 : Mem, M5 = uI M x0 3 0 → ∃ n33 : Nat, lp_X5_list_25 Q n33 x0 s0 0 M5
theorem P_jn_X5_list_17 {G : GG} {Q : Mem → Prop} (x0 : Nat) (s0 : Int32) (M : Mem) (h : jn_X5_list_17 Q x0 s0 M) : PW G mX5_list (rmD 1 0 0) (QV Q) 17 [some (.ref x0), none, none, none, none] [.int s0] M 0 0 := (s_istore_n (pc := 17) (L1 := [some (.ref x0), none, some (.int s0), none, none]) dX5_list_17 (Nat.le_of_ble_eq_true rfl) rfl (s_aload_n (pc := 18) dX5_list_18 rfl (s_iconst (pc := 19) dX5_list_19 ci_0 (s_putI (pc := 20) dX5_list_20 f_X5_47 (Or.inl rfl) (Or.inl rfl) h.1 (nmM (fun M5 e6 => have h7 := h.2 M5 e6; s_iconst (pc := 23) dX5_list_23 ci_0 (s_istore_n (pc := 24) (L1 := [some (.ref x0), none, some (.int s0), some (.int 0), none]) dX5_list_24 (Nat.le_of_ble_eq_true rfl) rfl (Exists.elim h7 (fun n33 hn => s_sel (L1 := [some (.ref x0), none, some (.int s0), some (.int 0), none]) [true, false, true, true, false] rfl (P_lp_X5_list_25 n33 x0 s0 0 M5 hn))))))))))
def wp_X5_list (p0 : Nat) (p1 : Int32) (M : Mem) (Q : Mem → Prop) : Prop := (p1 ≤ (0 : Int32) → jn_X5_list_17 Q p0 0 M) ∧ (¬ p1 ≤ (0 : Int32) → ¬ p1 = 0 ∧ jn_X5_list_17 Q p0 (iMin 10 (100 / p1)) M)
theorem T_X5_list {G : GG} {Q : Mem → Prop} {M : Mem} {p0 : Nat} {p1 : Int32} (h : wp_X5_list p0 p1 M Q) : PMet G mX5_list 1 0 0 [.ref p0, .int p1] M (QV Q) :=
  mk_met (by decide) rfl rfl (by
    intro w hw x9 e9
    subst e9
    simp at hw) (Nat.le_of_ble_eq_true rfl) (s_pad (L1 := [some (.ref p0), some (.int p1), none, none, none]) 5 rfl (s_iload_n (pc := 0) dX5_list_0 rfl (s_if_le (pc := 1) (tgt := 16) dX5_list_1 rfl (fun c1 => have h2 := h.1 c1; s_iconst (pc := 16) dX5_list_16 ci_0 (s_sel (L1 := [some (.ref p0), none, none, none, none]) [true, false, false, false, false] rfl (P_jn_X5_list_17 p0 0 M h2))) (fun c3 => have h4 := h.2 c3; s_bipush (pc := 4) dX5_list_4 cb_10 (s_bipush (pc := 6) dX5_list_6 cb_100 (s_iload_n (pc := 8) dX5_list_8 rfl (s_idiv (pc := 9) dX5_list_9 h4.1 (s_mmin (pc := 10) dX5_list_10 c_X5_41 (Nat.le_of_ble_eq_true rfl) (Nat.le_of_ble_eq_true rfl) (Nat.le_refl 0) (Nat.le_refl 0) (s_goto (pc := 13) (tgt := 17) dX5_list_13 rfl (s_sel (L1 := [some (.ref p0), none, none, none, none]) [true, false, false, false, false] rfl (P_jn_X5_list_17 p0 (iMin 10 (100 / p1)) M h4.2)))))))))))
/-! X5_moreBy -/
theorem dX5_moreBy_0 : cod mX5_moreBy 0 (.aload_n 2) 1 := by decide +kernel
theorem dX5_moreBy_1 : cod mX5_moreBy 1 (.iload_n 0) 1 := by decide +kernel
theorem dX5_moreBy_2 : cod mX5_moreBy 2 (.invokevirtual 115) 3 := by decide +kernel
theorem dX5_moreBy_5 : cod mX5_moreBy 5 (.istore 4) 2 := by decide +kernel
theorem dX5_moreBy_7 : cod mX5_moreBy 7 (.iload_n 0) 1 := by decide +kernel
theorem dX5_moreBy_8 : cod mX5_moreBy 8 (.iload_n 3) 1 := by decide +kernel
theorem dX5_moreBy_9 : cod mX5_moreBy 9 (.iload_n 3) 1 := by decide +kernel
theorem dX5_moreBy_10 : cod mX5_moreBy 10 (.invokestatic 87) 3 := by decide +kernel
theorem dX5_moreBy_13 : cod mX5_moreBy 13 (.aload_n 1) 1 := by decide +kernel
theorem dX5_moreBy_14 : cod mX5_moreBy 14 (.iload 4) 2 := by decide +kernel
theorem dX5_moreBy_16 : cod mX5_moreBy 16 (.invokevirtual 94) 3 := by decide +kernel
theorem dX5_moreBy_19 : cod mX5_moreBy 19 (.isub) 1 := by decide +kernel
theorem dX5_moreBy_20 : cod mX5_moreBy 20 (.aload_n 1) 1 := by decide +kernel
theorem dX5_moreBy_21 : cod mX5_moreBy 21 (.aload_n 2) 1 := by decide +kernel
theorem dX5_moreBy_22 : cod mX5_moreBy 22 (.getfield 91) 3 := by decide +kernel
theorem dX5_moreBy_25 : cod mX5_moreBy 25 (.invokevirtual 94) 3 := by decide +kernel
theorem dX5_moreBy_28 : cod mX5_moreBy 28 (.iadd) 1 := by decide +kernel
theorem dX5_moreBy_29 : cod mX5_moreBy 29 (.istore 5) 2 := by decide +kernel
theorem dX5_moreBy_31 : cod mX5_moreBy 31 (.lconst 0) 1 := by decide +kernel
theorem dX5_moreBy_32 : cod mX5_moreBy 32 (.lstore 6) 2 := by decide +kernel
theorem dX5_moreBy_34 : cod mX5_moreBy 34 (.iconst 0) 1 := by decide +kernel
theorem dX5_moreBy_35 : cod mX5_moreBy 35 (.istore 8) 2 := by decide +kernel
theorem dX5_moreBy_37 : cod mX5_moreBy 37 (.iload 8) 2 := by decide +kernel
theorem dX5_moreBy_39 : cod mX5_moreBy 39 (.aload_n 1) 1 := by decide +kernel
theorem dX5_moreBy_40 : cod mX5_moreBy 40 (.getfield 100) 3 := by decide +kernel
theorem dX5_moreBy_43 : cod mX5_moreBy 43 (.if_icmp .ge 57) 3 := by decide +kernel
theorem dX5_moreBy_46 : cod mX5_moreBy 46 (.aload_n 2) 1 := by decide +kernel
theorem dX5_moreBy_47 : cod mX5_moreBy 47 (.getfield 105) 3 := by decide +kernel
theorem dX5_moreBy_50 : cod mX5_moreBy 50 (.iload 8) 2 := by decide +kernel
theorem dX5_moreBy_52 : cod mX5_moreBy 52 (.laload) 1 := by decide +kernel
theorem dX5_moreBy_53 : cod mX5_moreBy 53 (.aload_n 2) 1 := by decide +kernel
theorem dX5_moreBy_54 : cod mX5_moreBy 54 (.aload_n 1) 1 := by decide +kernel
theorem dX5_moreBy_55 : cod mX5_moreBy 55 (.iload_n 0) 1 := by decide +kernel
theorem dX5_moreBy_56 : cod mX5_moreBy 56 (.iload 8) 2 := by decide +kernel
theorem dX5_moreBy_58 : cod mX5_moreBy 58 (.iload_n 3) 1 := by decide +kernel
theorem dX5_moreBy_59 : cod mX5_moreBy 59 (.iload_n 3) 1 := by decide +kernel
theorem dX5_moreBy_60 : cod mX5_moreBy 60 (.invokevirtual 118) 3 := by decide +kernel
theorem dX5_moreBy_63 : cod mX5_moreBy 63 (.i2l) 1 := by decide +kernel
theorem dX5_moreBy_64 : cod mX5_moreBy 64 (.lmul) 1 := by decide +kernel
theorem dX5_moreBy_65 : cod mX5_moreBy 65 (.lstore 9) 2 := by decide +kernel
theorem dX5_moreBy_67 : cod mX5_moreBy 67 (.lload 6) 2 := by decide +kernel
theorem dX5_moreBy_69 : cod mX5_moreBy 69 (.lload 9) 2 := by decide +kernel
theorem dX5_moreBy_71 : cod mX5_moreBy 71 (.iload 5) 2 := by decide +kernel
theorem dX5_moreBy_73 : cod mX5_moreBy 73 (.iload 4) 2 := by decide +kernel
theorem dX5_moreBy_75 : cod mX5_moreBy 75 (.aload_n 2) 1 := by decide +kernel
theorem dX5_moreBy_76 : cod mX5_moreBy 76 (.getfield 91) 3 := by decide +kernel
theorem dX5_moreBy_79 : cod mX5_moreBy 79 (.isub) 1 := by decide +kernel
theorem dX5_moreBy_80 : cod mX5_moreBy 80 (.aload_n 1) 1 := by decide +kernel
theorem dX5_moreBy_81 : cod mX5_moreBy 81 (.getfield 108) 3 := by decide +kernel
theorem dX5_moreBy_84 : cod mX5_moreBy 84 (.iload 8) 2 := by decide +kernel
theorem dX5_moreBy_86 : cod mX5_moreBy 86 (.iaload) 1 := by decide +kernel
theorem dX5_moreBy_87 : cod mX5_moreBy 87 (.imul) 1 := by decide +kernel
theorem dX5_moreBy_88 : cod mX5_moreBy 88 (.iadd) 1 := by decide +kernel
theorem dX5_moreBy_89 : cod mX5_moreBy 89 (.i2l) 1 := by decide +kernel
theorem dX5_moreBy_90 : cod mX5_moreBy 90 (.lmul) 1 := by decide +kernel
theorem dX5_moreBy_91 : cod mX5_moreBy 91 (.ladd) 1 := by decide +kernel
theorem dX5_moreBy_92 : cod mX5_moreBy 92 (.lstore 6) 2 := by decide +kernel
theorem dX5_moreBy_94 : cod mX5_moreBy 94 (.iinc 8 1) 3 := by decide +kernel
theorem dX5_moreBy_97 : cod mX5_moreBy 97 (.goto (-60)) 3 := by decide +kernel
theorem dX5_moreBy_100 : cod mX5_moreBy 100 (.lload 6) 2 := by decide +kernel
theorem dX5_moreBy_102 : cod mX5_moreBy 102 (.lreturn) 1 := by decide +kernel
def lp_X5_moreBy_37 (Q : Int64 → Mem → Prop) : Nat → Int32 → Nat → Nat → Int32 → Int32 → Int32 → Int64 → Int32 → Mem → Prop
  | 0 => fun _ _ _ _ _ _ _ _ _ => False
  | n + 1 => fun x0 x1 x2 x3 x4 x5 x6 x8 M => mK M x1 = 7 ∧ ((mI M x1 0) ≤ x8 → Q x6 M) ∧ (¬ (mI M x1 0) ≤ x8 → mK M x2 = 10 ∧ mK M (mR M x2 0) = 21 ∧ vp_in x8 (mN M (mR M x2 0)) ∧ wp_X9_oddsOf x2 x1 x0 x8 x3 x3 M (fun r22 M21 => ∀ y23 : Int64, y23 = (mJ M (mR M x2 0) x8.toNatClampNeg) * r22.toInt64 → mK M21 x2 = 10 ∧ mK M21 x1 = 7 ∧ mK M21 (mR M21 x1 2) = 20 ∧ vp_in x8 (mN M21 (mR M21 x1 2)) ∧ ∀ y26 : Int64, y26 = x6 + (y23 * ((x5 + ((x4 - (mI M21 x2 1)) * (mI M21 (mR M21 x1 2) x8.toNatClampNeg))).toInt64)) → (lp_X5_moreBy_37 Q n) x0 x1 x2 x3 x4 x5 y26 (x8 + 1) M21))
theorem P_lp_X5_moreBy_37 {G : GG} {Q : Int64 → Mem → Prop} : ∀ (n : Nat) (x0 : Int32) (x1 : Nat) (x2 : Nat) (x3 : Int32) (x4 : Int32) (x5 : Int32) (x6 : Int64) (x8 : Int32) (M : Mem), lp_X5_moreBy_37 Q n x0 x1 x2 x3 x4 x5 x6 x8 M → PW G mX5_moreBy (rmD 2 0 0) (QJ Q) 37 [some (.int x0), some (.ref x1), some (.ref x2), some (.int x3), some (.int x4), some (.int x5), some (.long x6), none, some (.int x8), none, none] [] M 0 0 := by
  intro n
  induction n with
  | zero => intro x0 x1 x2 x3 x4 x5 x6 x8 M h; exact h.elim
  | succ n ih =>
    intro x0 x1 x2 x3 x4 x5 x6 x8 M h
    exact (s_iload (pc := 37) dX5_moreBy_37 rfl (s_aload_n (pc := 39) dX5_moreBy_39 rfl (s_getI (pc := 40) dX5_moreBy_40 f_X5_100 rfl h.1 (s_icmp_ge (pc := 43) (tgt := 100) dX5_moreBy_43 rfl (fun c16 => have h17 := h.2.1 c16; s_lload (pc := 100) dX5_moreBy_100 rfl (s_lreturn (pc := 102) dX5_moreBy_102 rfl (Nat.zero_le _) (Nat.zero_le _) ⟨_, rfl, h17⟩)) (fun c18 => have h19 := h.2.2 c18; s_aload_n (pc := 46) dX5_moreBy_46 rfl (s_getR (pc := 47) dX5_moreBy_47 f_X5_105 rfl h19.1 (s_iload (pc := 50) dX5_moreBy_50 rfl (s_lal (pc := 52) dX5_moreBy_52 h19.2.1 h19.2.2.1 (s_aload_n (pc := 53) dX5_moreBy_53 rfl (s_aload_n (pc := 54) dX5_moreBy_54 rfl (s_iload_n (pc := 55) dX5_moreBy_55 rfl (s_iload (pc := 56) dX5_moreBy_56 rfl (s_iload_n (pc := 58) dX5_moreBy_58 rfl (s_iload_n (pc := 59) dX5_moreBy_59 rfl (s_callV (pc := 60) (As := [.ref x1, .int x0, .int x8, .int x3, .int x3]) (rest := [.long (mJ M (mR M x2 0) x8.toNatClampNeg)]) (d' := 0) (mc' := 0) (ms' := 0) dX5_moreBy_60 c_X5_118 (Nat.le_of_ble_eq_true rfl) rfl h19.1 rfl rfl (Nat.le_of_ble_eq_true rfl) (rm_ok rfl rfl) ⟨Nat.le_refl 0, Nat.le_refl 0⟩ (T_X9_oddsOf h19.2.2.2) (kkI (fun r22 M21 h20 => s_i2l (pc := 63) dX5_moreBy_63 (s_lmul (pc := 64) dX5_moreBy_64 (nmJ (fun y23 e24 => have h25 := h20 y23 e24; s_lstore (pc := 65) (L1 := [some (.int x0), some (.ref x1), some (.ref x2), some (.int x3), some (.int x4), some (.int x5), some (.long x6), none, some (.int x8), some (.long y23), none]) dX5_moreBy_65 (Nat.le_of_ble_eq_true rfl) rfl (s_lload (pc := 67) dX5_moreBy_67 rfl (s_lload (pc := 69) dX5_moreBy_69 rfl (s_iload (pc := 71) dX5_moreBy_71 rfl (s_iload (pc := 73) dX5_moreBy_73 rfl (s_aload_n (pc := 75) dX5_moreBy_75 rfl (s_getI (pc := 76) dX5_moreBy_76 f_X5_91 rfl h25.1 (s_isub (pc := 79) dX5_moreBy_79 (s_aload_n (pc := 80) dX5_moreBy_80 rfl (s_getR (pc := 81) dX5_moreBy_81 f_X5_108 rfl h25.2.1 (s_iload (pc := 84) dX5_moreBy_84 rfl (s_ial (pc := 86) dX5_moreBy_86 h25.2.2.1 h25.2.2.2.1 (s_imul (pc := 87) dX5_moreBy_87 (s_iadd (pc := 88) dX5_moreBy_88 (s_i2l (pc := 89) dX5_moreBy_89 (s_lmul (pc := 90) dX5_moreBy_90 (s_ladd (pc := 91) dX5_moreBy_91 (nmJ (fun y26 e27 => have h28 := h25.2.2.2.2 y26 e27; s_lstore (pc := 92) (L1 := [some (.int x0), some (.ref x1), some (.ref x2), some (.int x3), some (.int x4), some (.int x5), some (.long y26), none, some (.int x8), some (.long y23), none]) dX5_moreBy_92 (Nat.le_of_ble_eq_true rfl) rfl (s_iinc (pc := 94) (L1 := [some (.int x0), some (.ref x1), some (.ref x2), some (.int x3), some (.int x4), some (.int x5), some (.long y26), none, some (.int (x8 + 1)), some (.long y23), none]) dX5_moreBy_94 rfl ci_1 (Nat.le_of_ble_eq_true rfl) rfl (s_goto (pc := 97) (tgt := 37) dX5_moreBy_97 rfl (s_sel (L1 := [some (.int x0), some (.ref x1), some (.ref x2), some (.int x3), some (.int x4), some (.int x5), some (.long y26), none, some (.int (x8 + 1)), none, none]) [true, true, true, true, true, true, true, false, true, false, false] rfl (ih x0 x1 x2 x3 x4 x5 y26 (x8 + 1) M21 h28))))))))))))))))))))))))))))))))))))))))))
def wp_X5_moreBy (p0 : Int32) (p1 : Nat) (p2 : Nat) (p3 : Int32) (M : Mem) (Q : Int64 → Mem → Prop) : Prop := mK M p2 = 10 ∧ wp_X9_heldAfter p2 p0 M (fun r3 M2 => wp_X12_takings p0 p3 p3 M2 (fun r6 M5 => mK M5 p1 = 7 ∧ wp_X6_costOf p1 r3 M5 (fun r9 M8 => mK M8 p2 = 10 ∧ mK M8 p1 = 7 ∧ wp_X6_costOf p1 (mI M8 p2 1) M8 (fun r12 M11 => ∀ y13 : Int32, y13 = (r6 - r9) + r12 → ∃ n29 : Nat, lp_X5_moreBy_37 Q n29 p0 p1 p2 p3 r3 y13 0 0 M11))))
theorem T_X5_moreBy {G : GG} {Q : Int64 → Mem → Prop} {M : Mem} {p0 : Int32} {p1 : Nat} {p2 : Nat} {p3 : Int32} (h : wp_X5_moreBy p0 p1 p2 p3 M Q) : PMet G mX5_moreBy 2 0 0 [.int p0, .ref p1, .ref p2, .int p3] M (QJ Q) :=
  mk_met (by decide) rfl rfl (by
    intro w hw x9 e9
    subst e9
    simp at hw) (Nat.le_of_ble_eq_true rfl) (s_pad (L1 := [some (.int p0), some (.ref p1), some (.ref p2), some (.int p3), none, none, none, none, none, none, none]) 11 rfl (s_aload_n (pc := 0) dX5_moreBy_0 rfl (s_iload_n (pc := 1) dX5_moreBy_1 rfl (s_callV (pc := 2) (As := [.int p0]) (rest := []) (d' := 0) (mc' := 0) (ms' := 0) dX5_moreBy_2 c_X5_115 (Nat.le_of_ble_eq_true rfl) rfl h.1 rfl rfl (Nat.le_of_ble_eq_true rfl) (rm_ok rfl rfl) ⟨Nat.le_refl 0, Nat.le_refl 0⟩ (T_X9_heldAfter h.2) (kkI (fun r3 M2 h1 => s_istore (pc := 5) (L1 := [some (.int p0), some (.ref p1), some (.ref p2), some (.int p3), some (.int r3), none, none, none, none, none, none]) dX5_moreBy_5 (Nat.le_of_ble_eq_true rfl) rfl (s_iload_n (pc := 7) dX5_moreBy_7 rfl (s_iload_n (pc := 8) dX5_moreBy_8 rfl (s_iload_n (pc := 9) dX5_moreBy_9 rfl (s_callSN (pc := 10) (As := [.int p0, .int p3, .int p3]) (rest := []) (d' := 0) (mc' := 0) (ms' := 0) dX5_moreBy_10 c_X5_87 rfl rfl (Nat.le_of_ble_eq_true rfl) (rm_ok rfl rfl) ⟨Nat.le_refl 0, Nat.le_refl 0⟩ (T_X12_takings h1) (kkI (fun r6 M5 h4 => s_aload_n (pc := 13) dX5_moreBy_13 rfl (s_iload (pc := 14) dX5_moreBy_14 rfl (s_callV (pc := 16) (As := [.int r3]) (rest := [.int r6]) (d' := 1) (mc' := 0) (ms' := 0) dX5_moreBy_16 c_X5_94 (Nat.le_of_ble_eq_true rfl) rfl h4.1 rfl rfl (Nat.le_of_ble_eq_true rfl) (rm_ok rfl rfl) ⟨Nat.le_refl 0, Nat.le_refl 0⟩ (T_X6_costOf h4.2) (kkI (fun r9 M8 h7 => s_isub (pc := 19) dX5_moreBy_19 (s_aload_n (pc := 20) dX5_moreBy_20 rfl (s_aload_n (pc := 21) dX5_moreBy_21 rfl (s_getI (pc := 22) dX5_moreBy_22 f_X5_91 rfl h7.1 (s_callV (pc := 25) (As := [.int (mI M8 p2 1)]) (rest := [.int (r6 - r9)]) (d' := 1) (mc' := 0) (ms' := 0) dX5_moreBy_25 c_X5_94 (Nat.le_of_ble_eq_true rfl) rfl h7.2.1 rfl rfl (Nat.le_of_ble_eq_true rfl) (rm_ok rfl rfl) ⟨Nat.le_refl 0, Nat.le_refl 0⟩ (T_X6_costOf h7.2.2) (kkI (fun r12 M11 h10 => s_iadd (pc := 28) dX5_moreBy_28 (nmI (fun y13 e14 => have h15 := h10 y13 e14; s_istore (pc := 29) (L1 := [some (.int p0), some (.ref p1), some (.ref p2), some (.int p3), some (.int r3), some (.int y13), none, none, none, none, none]) dX5_moreBy_29 (Nat.le_of_ble_eq_true rfl) rfl (s_lconst (pc := 31) (v := 0) dX5_moreBy_31 rfl (s_lstore (pc := 32) (L1 := [some (.int p0), some (.ref p1), some (.ref p2), some (.int p3), some (.int r3), some (.int y13), some (.long 0), none, none, none, none]) dX5_moreBy_32 (Nat.le_of_ble_eq_true rfl) rfl (s_iconst (pc := 34) dX5_moreBy_34 ci_0 (s_istore (pc := 35) (L1 := [some (.int p0), some (.ref p1), some (.ref p2), some (.int p3), some (.int r3), some (.int y13), some (.long 0), none, some (.int 0), none, none]) dX5_moreBy_35 (Nat.le_of_ble_eq_true rfl) rfl (Exists.elim h15 (fun n29 hn => s_sel (L1 := [some (.int p0), some (.ref p1), some (.ref p2), some (.int p3), some (.int r3), some (.int y13), some (.long 0), none, some (.int 0), none, none]) [true, true, true, true, true, true, true, false, true, false, false] rfl (P_lp_X5_moreBy_37 n29 p0 p1 p2 p3 r3 y13 0 0 M11 hn)))))))))))))))))))))))))))))))
/-! X5_pick -/
theorem dX5_pick_0 : cod mX5_pick 0 (.lconst 0) 1 := by decide +kernel
theorem dX5_pick_1 : cod mX5_pick 1 (.lstore 5) 2 := by decide +kernel
theorem dX5_pick_3 : cod mX5_pick 3 (.iload 4) 2 := by decide +kernel
theorem dX5_pick_5 : cod mX5_pick 5 (.aload_n 1) 1 := by decide +kernel
theorem dX5_pick_6 : cod mX5_pick 6 (.aload_n 3) 1 := by decide +kernel
theorem dX5_pick_7 : cod mX5_pick 7 (.getfield 91) 3 := by decide +kernel
theorem dX5_pick_10 : cod mX5_pick 10 (.invokevirtual 94) 3 := by decide +kernel
theorem dX5_pick_13 : cod mX5_pick 13 (.isub) 1 := by decide +kernel
theorem dX5_pick_14 : cod mX5_pick 14 (.istore 7) 2 := by decide +kernel
theorem dX5_pick_16 : cod mX5_pick 16 (.iconst 0) 1 := by decide +kernel
theorem dX5_pick_17 : cod mX5_pick 17 (.istore 8) 2 := by decide +kernel
theorem dX5_pick_19 : cod mX5_pick 19 (.iload 8) 2 := by decide +kernel
theorem dX5_pick_21 : cod mX5_pick 21 (.aload_n 1) 1 := by decide +kernel
theorem dX5_pick_22 : cod mX5_pick 22 (.getfield 100) 3 := by decide +kernel
theorem dX5_pick_25 : cod mX5_pick 25 (.if_icmp .ge 42) 3 := by decide +kernel
theorem dX5_pick_28 : cod mX5_pick 28 (.lload 5) 2 := by decide +kernel
theorem dX5_pick_30 : cod mX5_pick 30 (.ldc2_w 103) 3 := by decide +kernel
theorem dX5_pick_33 : cod mX5_pick 33 (.aload_n 3) 1 := by decide +kernel
theorem dX5_pick_34 : cod mX5_pick 34 (.getfield 105) 3 := by decide +kernel
theorem dX5_pick_37 : cod mX5_pick 37 (.iload 8) 2 := by decide +kernel
theorem dX5_pick_39 : cod mX5_pick 39 (.laload) 1 := by decide +kernel
theorem dX5_pick_40 : cod mX5_pick 40 (.lmul) 1 := by decide +kernel
theorem dX5_pick_41 : cod mX5_pick 41 (.iload 7) 2 := by decide +kernel
theorem dX5_pick_43 : cod mX5_pick 43 (.aload_n 3) 1 := by decide +kernel
theorem dX5_pick_44 : cod mX5_pick 44 (.getfield 91) 3 := by decide +kernel
theorem dX5_pick_47 : cod mX5_pick 47 (.aload_n 1) 1 := by decide +kernel
theorem dX5_pick_48 : cod mX5_pick 48 (.getfield 108) 3 := by decide +kernel
theorem dX5_pick_51 : cod mX5_pick 51 (.iload 8) 2 := by decide +kernel
theorem dX5_pick_53 : cod mX5_pick 53 (.iaload) 1 := by decide +kernel
theorem dX5_pick_54 : cod mX5_pick 54 (.imul) 1 := by decide +kernel
theorem dX5_pick_55 : cod mX5_pick 55 (.iadd) 1 := by decide +kernel
theorem dX5_pick_56 : cod mX5_pick 56 (.i2l) 1 := by decide +kernel
theorem dX5_pick_57 : cod mX5_pick 57 (.lmul) 1 := by decide +kernel
theorem dX5_pick_58 : cod mX5_pick 58 (.ladd) 1 := by decide +kernel
theorem dX5_pick_59 : cod mX5_pick 59 (.lstore 5) 2 := by decide +kernel
theorem dX5_pick_61 : cod mX5_pick 61 (.iinc 8 1) 3 := by decide +kernel
theorem dX5_pick_64 : cod mX5_pick 64 (.goto (-45)) 3 := by decide +kernel
theorem dX5_pick_67 : cod mX5_pick 67 (.iconst 0) 1 := by decide +kernel
theorem dX5_pick_68 : cod mX5_pick 68 (.istore 8) 2 := by decide +kernel
theorem dX5_pick_70 : cod mX5_pick 70 (.iload 8) 2 := by decide +kernel
theorem dX5_pick_72 : cod mX5_pick 72 (.bipush 11) 2 := by decide +kernel
theorem dX5_pick_74 : cod mX5_pick 74 (.if_icmp .ge 50) 3 := by decide +kernel
theorem dX5_pick_77 : cod mX5_pick 77 (.bipush 100) 2 := by decide +kernel
theorem dX5_pick_79 : cod mX5_pick 79 (.iload 8) 2 := by decide +kernel
theorem dX5_pick_81 : cod mX5_pick 81 (.iload_n 2) 1 := by decide +kernel
theorem dX5_pick_82 : cod mX5_pick 82 (.imul) 1 := by decide +kernel
theorem dX5_pick_83 : cod mX5_pick 83 (.invokestatic 41) 3 := by decide +kernel
theorem dX5_pick_86 : cod mX5_pick 86 (.istore 9) 2 := by decide +kernel
theorem dX5_pick_88 : cod mX5_pick 88 (.aload_n 0) 1 := by decide +kernel
theorem dX5_pick_89 : cod mX5_pick 89 (.getfield 28) 3 := by decide +kernel
theorem dX5_pick_92 : cod mX5_pick 92 (.iload 8) 2 := by decide +kernel
theorem dX5_pick_94 : cod mX5_pick 94 (.iconst 1) 1 := by decide +kernel
theorem dX5_pick_95 : cod mX5_pick 95 (.aload_n 1) 1 := by decide +kernel
theorem dX5_pick_96 : cod mX5_pick 96 (.aload_n 3) 1 := by decide +kernel
theorem dX5_pick_97 : cod mX5_pick 97 (.iload 9) 2 := by decide +kernel
theorem dX5_pick_99 : cod mX5_pick 99 (.invokestatic 111) 3 := by decide +kernel
theorem dX5_pick_102 : cod mX5_pick 102 (.lastore) 1 := by decide +kernel
theorem dX5_pick_103 : cod mX5_pick 103 (.aload_n 0) 1 := by decide +kernel
theorem dX5_pick_104 : cod mX5_pick 104 (.getfield 32) 3 := by decide +kernel
theorem dX5_pick_107 : cod mX5_pick 107 (.iload 8) 2 := by decide +kernel
theorem dX5_pick_109 : cod mX5_pick 109 (.iconst 2) 1 := by decide +kernel
theorem dX5_pick_110 : cod mX5_pick 110 (.aload_n 1) 1 := by decide +kernel
theorem dX5_pick_111 : cod mX5_pick 111 (.aload_n 3) 1 := by decide +kernel
theorem dX5_pick_112 : cod mX5_pick 112 (.iload 9) 2 := by decide +kernel
theorem dX5_pick_114 : cod mX5_pick 114 (.invokestatic 111) 3 := by decide +kernel
theorem dX5_pick_117 : cod mX5_pick 117 (.lastore) 1 := by decide +kernel
theorem dX5_pick_118 : cod mX5_pick 118 (.iinc 8 1) 3 := by decide +kernel
theorem dX5_pick_121 : cod mX5_pick 121 (.goto (-51)) 3 := by decide +kernel
theorem dX5_pick_124 : cod mX5_pick 124 (.iconst 0) 1 := by decide +kernel
theorem dX5_pick_125 : cod mX5_pick 125 (.istore 8) 2 := by decide +kernel
theorem dX5_pick_127 : cod mX5_pick 127 (.iload 8) 2 := by decide +kernel
theorem dX5_pick_129 : cod mX5_pick 129 (.aload_n 0) 1 := by decide +kernel
theorem dX5_pick_130 : cod mX5_pick 130 (.getfield 47) 3 := by decide +kernel
theorem dX5_pick_133 : cod mX5_pick 133 (.if_icmp .ge 66) 3 := by decide +kernel
theorem dX5_pick_136 : cod mX5_pick 136 (.lload 5) 2 := by decide +kernel
theorem dX5_pick_138 : cod mX5_pick 138 (.aload_n 0) 1 := by decide +kernel
theorem dX5_pick_139 : cod mX5_pick 139 (.getfield 32) 3 := by decide +kernel
theorem dX5_pick_142 : cod mX5_pick 142 (.aload_n 0) 1 := by decide +kernel
theorem dX5_pick_143 : cod mX5_pick 143 (.getfield 11) 3 := by decide +kernel
theorem dX5_pick_146 : cod mX5_pick 146 (.iload 8) 2 := by decide +kernel
theorem dX5_pick_148 : cod mX5_pick 148 (.iaload) 1 := by decide +kernel
theorem dX5_pick_149 : cod mX5_pick 149 (.laload) 1 := by decide +kernel
theorem dX5_pick_150 : cod mX5_pick 150 (.ladd) 1 := by decide +kernel
theorem dX5_pick_151 : cod mX5_pick 151 (.aload_n 0) 1 := by decide +kernel
theorem dX5_pick_152 : cod mX5_pick 152 (.getfield 28) 3 := by decide +kernel
theorem dX5_pick_155 : cod mX5_pick 155 (.aload_n 0) 1 := by decide +kernel
theorem dX5_pick_156 : cod mX5_pick 156 (.getfield 15) 3 := by decide +kernel
theorem dX5_pick_159 : cod mX5_pick 159 (.iload 8) 2 := by decide +kernel
theorem dX5_pick_161 : cod mX5_pick 161 (.iaload) 1 := by decide +kernel
theorem dX5_pick_162 : cod mX5_pick 162 (.laload) 1 := by decide +kernel
theorem dX5_pick_163 : cod mX5_pick 163 (.ladd) 1 := by decide +kernel
theorem dX5_pick_164 : cod mX5_pick 164 (.lstore 9) 2 := by decide +kernel
theorem dX5_pick_166 : cod mX5_pick 166 (.iload 8) 2 := by decide +kernel
theorem dX5_pick_168 : cod mX5_pick 168 (.ifCond .eq 13) 3 := by decide +kernel
theorem dX5_pick_171 : cod mX5_pick 171 (.lload 9) 2 := by decide +kernel
theorem dX5_pick_173 : cod mX5_pick 173 (.aload_n 0) 1 := by decide +kernel
theorem dX5_pick_174 : cod mX5_pick 174 (.getfield 72) 3 := by decide +kernel
theorem dX5_pick_177 : cod mX5_pick 177 (.lcmp) 1 := by decide +kernel
theorem dX5_pick_178 : cod mX5_pick 178 (.ifCond .le 15) 3 := by decide +kernel
theorem dX5_pick_181 : cod mX5_pick 181 (.aload_n 0) 1 := by decide +kernel
theorem dX5_pick_182 : cod mX5_pick 182 (.iload 8) 2 := by decide +kernel
theorem dX5_pick_184 : cod mX5_pick 184 (.putfield 63) 3 := by decide +kernel
theorem dX5_pick_187 : cod mX5_pick 187 (.aload_n 0) 1 := by decide +kernel
theorem dX5_pick_188 : cod mX5_pick 188 (.lload 9) 2 := by decide +kernel
theorem dX5_pick_190 : cod mX5_pick 190 (.putfield 72) 3 := by decide +kernel
theorem dX5_pick_193 : cod mX5_pick 193 (.iinc 8 1) 3 := by decide +kernel
theorem dX5_pick_196 : cod mX5_pick 196 (.goto (-69)) 3 := by decide +kernel
theorem dX5_pick_199 : cod mX5_pick 199 (.return_) 1 := by decide +kernel
def jn_X5_pick_193 (K127 : Nat → Int64 → Int32 → Mem → Prop) (Q : Mem → Prop) (x0 : Nat) (x5 : Int64) (x8 : Int32) (M : Mem) : Prop := K127 x0 x5 (x8 + 1) M
theorem P_jn_X5_pick_193 {G : GG} {K127 : Nat → Int64 → Int32 → Mem → Prop} {Q : Mem → Prop} (hK127 : ∀ (x0 : Nat) (x5 : Int64) (x8 : Int32) (M : Mem), K127 x0 x5 x8 M → PW G mX5_pick (rmD 3 0 0) (QV Q) 127 [some (.ref x0), none, none, none, none, some (.long x5), none, none, some (.int x8), none, none] [] M 0 0) (x0 : Nat) (x5 : Int64) (x8 : Int32) (M : Mem) (h : jn_X5_pick_193 K127 Q x0 x5 x8 M) : PW G mX5_pick (rmD 3 0 0) (QV Q) 193 [some (.ref x0), none, none, none, none, some (.long x5), none, none, some (.int x8), none, none] [] M 0 0 := (s_iinc (pc := 193) (L1 := [some (.ref x0), none, none, none, none, some (.long x5), none, none, some (.int (x8 + 1)), none, none]) dX5_pick_193 rfl ci_1 (Nat.le_of_ble_eq_true rfl) rfl (s_goto (pc := 196) (tgt := 127) dX5_pick_196 rfl (s_sel (L1 := [some (.ref x0), none, none, none, none, some (.long x5), none, none, some (.int (x8 + 1)), none, none]) [true, false, false, false, false, true, false, false, true, false, false] rfl (hK127 x0 x5 (x8 + 1) M h))))
def jn_X5_pick_181 (K127 : Nat → Int64 → Int32 → Mem → Prop) (Q : Mem → Prop) (x0 : Nat) (x5 : Int64) (x8 : Int32) (x9 : Int64) (M : Mem) : Prop := mK M x0 = 6 ∧ ∀ M26 : Mem, M26 = uI M x0 10 x8 → ∀ M29 : Mem, M29 = uJ M26 x0 11 x9 → jn_X5_pick_193 K127 Q x0 x5 x8 M29
theorem P_jn_X5_pick_181 {G : GG} {K127 : Nat → Int64 → Int32 → Mem → Prop} {Q : Mem → Prop} (hK127 : ∀ (x0 : Nat) (x5 : Int64) (x8 : Int32) (M : Mem), K127 x0 x5 x8 M → PW G mX5_pick (rmD 3 0 0) (QV Q) 127 [some (.ref x0), none, none, none, none, some (.long x5), none, none, some (.int x8), none, none] [] M 0 0) (x0 : Nat) (x5 : Int64) (x8 : Int32) (x9 : Int64) (M : Mem) (h : jn_X5_pick_181 K127 Q x0 x5 x8 x9 M) : PW G mX5_pick (rmD 3 0 0) (QV Q) 181 [some (.ref x0), none, none, none, none, some (.long x5), none, none, some (.int x8), some (.long x9), none] [] M 0 0 := (s_aload_n (pc := 181) dX5_pick_181 rfl (s_iload (pc := 182) dX5_pick_182 rfl (s_putI (pc := 184) dX5_pick_184 f_X5_63 (Or.inl rfl) (Or.inl rfl) h.1 (nmM (fun M26 e27 => have h28 := h.2 M26 e27; s_aload_n (pc := 187) dX5_pick_187 rfl (s_lload (pc := 188) dX5_pick_188 rfl (s_putJ (pc := 190) dX5_pick_190 f_X5_72 (Or.inl rfl) rfl ((congrFun (congrArg mK e27) x0).trans h.1) (nmM (fun M29 e30 => have h31 := h28 M29 e30; s_sel (L1 := [some (.ref x0), none, none, none, none, some (.long x5), none, none, some (.int x8), none, none]) [true, false, false, false, false, true, false, false, true, false, false] rfl (P_jn_X5_pick_193 hK127 x0 x5 x8 M29 h31))))))))))
def lp_X5_pick_127 (Q : Mem → Prop) : Nat → Nat → Int64 → Int32 → Mem → Prop
  | 0 => fun _ _ _ _ => False
  | n + 1 => fun x0 x5 x8 M => mK M x0 = 6 ∧ ((mI M x0 3) ≤ x8 → Q M) ∧ (¬ (mI M x0 3) ≤ x8 → mK M (mR M x0 4) = 20 ∧ vp_in x8 (mN M (mR M x0 4)) ∧ mK M (mR M x0 9) = 21 ∧ vp_in (mI M (mR M x0 4) x8.toNatClampNeg) (mN M (mR M x0 9)) ∧ mK M (mR M x0 5) = 20 ∧ vp_in x8 (mN M (mR M x0 5)) ∧ mK M (mR M x0 8) = 21 ∧ vp_in (mI M (mR M x0 5) x8.toNatClampNeg) (mN M (mR M x0 8)) ∧ ∀ y19 : Int64, y19 = (x5 + (mJ M (mR M x0 9) (mI M (mR M x0 4) x8.toNatClampNeg).toNatClampNeg)) + (mJ M (mR M x0 8) (mI M (mR M x0 5) x8.toNatClampNeg).toNatClampNeg) → (x8 = (0 : Int32) → jn_X5_pick_181 (fun fx0 fx5 fx8 fM => lp_X5_pick_127 Q n fx0 fx5 fx8 fM) Q x0 x5 x8 y19 M) ∧ (¬ x8 = (0 : Int32) → (y19 ≤ (mJ M x0 11) → jn_X5_pick_193 (fun fx0 fx5 fx8 fM => lp_X5_pick_127 Q n fx0 fx5 fx8 fM) Q x0 x5 x8 M) ∧ (¬ y19 ≤ (mJ M x0 11) → jn_X5_pick_181 (fun fx0 fx5 fx8 fM => lp_X5_pick_127 Q n fx0 fx5 fx8 fM) Q x0 x5 x8 y19 M)))
theorem P_lp_X5_pick_127 {G : GG} {Q : Mem → Prop} : ∀ (n : Nat) (x0 : Nat) (x5 : Int64) (x8 : Int32) (M : Mem), lp_X5_pick_127 Q n x0 x5 x8 M → PW G mX5_pick (rmD 3 0 0) (QV Q) 127 [some (.ref x0), none, none, none, none, some (.long x5), none, none, some (.int x8), none, none] [] M 0 0 := by
  intro n
  induction n with
  | zero => intro x0 x5 x8 M h; exact h.elim
  | succ n ih =>
    intro x0 x5 x8 M h
    exact (s_iload (pc := 127) dX5_pick_127 rfl (s_aload_n (pc := 129) dX5_pick_129 rfl (s_getI (pc := 130) dX5_pick_130 f_X5_47 rfl h.1 (s_icmp_ge (pc := 133) (tgt := 199) dX5_pick_133 rfl (fun c15 => have h16 := h.2.1 c15; s_return (pc := 199) dX5_pick_199 rfl (Nat.zero_le _) (Nat.zero_le _) ⟨rfl, h16⟩) (fun c17 => have h18 := h.2.2 c17; s_lload (pc := 136) dX5_pick_136 rfl (s_aload_n (pc := 138) dX5_pick_138 rfl (s_getR (pc := 139) dX5_pick_139 f_X5_32 rfl h.1 (s_aload_n (pc := 142) dX5_pick_142 rfl (s_getR (pc := 143) dX5_pick_143 f_X5_11 rfl h.1 (s_iload (pc := 146) dX5_pick_146 rfl (s_ial (pc := 148) dX5_pick_148 h18.1 h18.2.1 (s_lal (pc := 149) dX5_pick_149 h18.2.2.1 h18.2.2.2.1 (s_ladd (pc := 150) dX5_pick_150 (s_aload_n (pc := 151) dX5_pick_151 rfl (s_getR (pc := 152) dX5_pick_152 f_X5_28 rfl h.1 (s_aload_n (pc := 155) dX5_pick_155 rfl (s_getR (pc := 156) dX5_pick_156 f_X5_15 rfl h.1 (s_iload (pc := 159) dX5_pick_159 rfl (s_ial (pc := 161) dX5_pick_161 h18.2.2.2.2.1 h18.2.2.2.2.2.1 (s_lal (pc := 162) dX5_pick_162 h18.2.2.2.2.2.2.1 h18.2.2.2.2.2.2.2.1 (s_ladd (pc := 163) dX5_pick_163 (nmJ (fun y19 e20 => have h21 := h18.2.2.2.2.2.2.2.2 y19 e20; s_lstore (pc := 164) (L1 := [some (.ref x0), none, none, none, none, some (.long x5), none, none, some (.int x8), some (.long y19), none]) dX5_pick_164 (Nat.le_of_ble_eq_true rfl) rfl (s_iload (pc := 166) dX5_pick_166 rfl (s_if_eq (pc := 168) (tgt := 181) dX5_pick_168 rfl (fun c22 => have h23 := h21.1 c22; s_sel (L1 := [some (.ref x0), none, none, none, none, some (.long x5), none, none, some (.int x8), some (.long y19), none]) [true, false, false, false, false, true, false, false, true, true, false] rfl (P_jn_X5_pick_181 ih x0 x5 x8 y19 M h23)) (fun c24 => have h25 := h21.2 c24; s_lload (pc := 171) dX5_pick_171 rfl (s_aload_n (pc := 173) dX5_pick_173 rfl (s_getJ (pc := 174) dX5_pick_174 f_X5_72 rfl h.1 (s_lif_le (pc := 177) (tgt := 193) dX5_pick_177 dX5_pick_178 rfl (fun c32 => have h33 := h25.1 c32; s_sel (L1 := [some (.ref x0), none, none, none, none, some (.long x5), none, none, some (.int x8), none, none]) [true, false, false, false, false, true, false, false, true, false, false] rfl (P_jn_X5_pick_193 ih x0 x5 x8 M h33)) (fun c34 => have h35 := h25.2 c34; s_sel (L1 := [some (.ref x0), none, none, none, none, some (.long x5), none, none, some (.int x8), some (.long y19), none]) [true, false, false, false, false, true, false, false, true, true, false] rfl (P_jn_X5_pick_181 ih x0 x5 x8 y19 M h35)))))))))))))))))))))))))))))))
def lp_X5_pick_70 (Q : Mem → Prop) : Nat → Nat → Nat → Int32 → Nat → Int64 → Int32 → Mem → Prop
  | 0 => fun _ _ _ _ _ _ _ => False
  | n + 1 => fun x0 x1 x2 x3 x5 x8 M => ((11 : Int32) ≤ x8 → ∃ n36 : Nat, lp_X5_pick_127 Q n36 x0 x5 0 M) ∧ (¬ (11 : Int32) ≤ x8 → ∀ y37 : Int32, y37 = iMin 100 (x8 * x2) → mK M x0 = 6 ∧ wp_X5_moreBy 1 x1 x3 y37 M (fun r42 M41 => mK M41 (mR M x0 8) = 21 ∧ vp_in x8 (mN M41 (mR M x0 8)) ∧ ∀ M43 : Mem, M43 = uJ M41 (mR M x0 8) x8.toNatClampNeg r42 → mK M43 x0 = 6 ∧ wp_X5_moreBy 2 x1 x3 y37 M43 (fun r48 M47 => mK M47 (mR M43 x0 9) = 21 ∧ vp_in x8 (mN M47 (mR M43 x0 9)) ∧ ∀ M49 : Mem, M49 = uJ M47 (mR M43 x0 9) x8.toNatClampNeg r48 → (lp_X5_pick_70 Q n) x0 x1 x2 x3 x5 (x8 + 1) M49)))
theorem P_lp_X5_pick_70 {G : GG} {Q : Mem → Prop} : ∀ (n : Nat) (x0 : Nat) (x1 : Nat) (x2 : Int32) (x3 : Nat) (x5 : Int64) (x8 : Int32) (M : Mem), lp_X5_pick_70 Q n x0 x1 x2 x3 x5 x8 M → PW G mX5_pick (rmD 3 0 0) (QV Q) 70 [some (.ref x0), some (.ref x1), some (.int x2), some (.ref x3), none, some (.long x5), none, none, some (.int x8), none, none] [] M 0 0 := by
  intro n
  induction n with
  | zero => intro x0 x1 x2 x3 x5 x8 M h; exact h.elim
  | succ n ih =>
    intro x0 x1 x2 x3 x5 x8 M h
    exact (s_iload (pc := 70) dX5_pick_70 rfl (s_bipush (pc := 72) dX5_pick_72 cb_11 (s_icmp_ge (pc := 74) (tgt := 124) dX5_pick_74 rfl (fun c11 => have h12 := h.1 c11; s_iconst (pc := 124) dX5_pick_124 ci_0 (s_istore (pc := 125) (L1 := [some (.ref x0), some (.ref x1), some (.int x2), some (.ref x3), none, some (.long x5), none, none, some (.int 0), none, none]) dX5_pick_125 (Nat.le_of_ble_eq_true rfl) rfl (Exists.elim h12 (fun n36 hn => s_sel (L1 := [some (.ref x0), none, none, none, none, some (.long x5), none, none, some (.int 0), none, none]) [true, false, false, false, false, true, false, false, true, false, false] rfl (P_lp_X5_pick_127 n36 x0 x5 0 M hn))))) (fun c13 => have h14 := h.2 c13; s_bipush (pc := 77) dX5_pick_77 cb_100 (s_iload (pc := 79) dX5_pick_79 rfl (s_iload_n (pc := 81) dX5_pick_81 rfl (s_imul (pc := 82) dX5_pick_82 (s_mmin (pc := 83) dX5_pick_83 c_X5_41 (Nat.le_of_ble_eq_true rfl) (Nat.le_of_ble_eq_true rfl) (Nat.le_refl 0) (Nat.le_refl 0) (nmI (fun y37 e38 => have h39 := h14 y37 e38; s_istore (pc := 86) (L1 := [some (.ref x0), some (.ref x1), some (.int x2), some (.ref x3), none, some (.long x5), none, none, some (.int x8), some (.int y37), none]) dX5_pick_86 (Nat.le_of_ble_eq_true rfl) rfl (s_aload_n (pc := 88) dX5_pick_88 rfl (s_getR (pc := 89) dX5_pick_89 f_X5_28 rfl h39.1 (s_iload (pc := 92) dX5_pick_92 rfl (s_iconst (pc := 94) dX5_pick_94 ci_1 (s_aload_n (pc := 95) dX5_pick_95 rfl (s_aload_n (pc := 96) dX5_pick_96 rfl (s_iload (pc := 97) dX5_pick_97 rfl (s_callS (pc := 99) (As := [.int 1, .ref x1, .ref x3, .int y37]) (rest := [.int x8, .ref (mR M x0 8)]) (d' := 2) (mc' := 0) (ms' := 0) dX5_pick_99 c_X5_111 rfl rfl (Nat.le_of_ble_eq_true rfl) (rm_ok rfl rfl) ⟨Nat.le_refl 0, Nat.le_refl 0⟩ (T_X5_moreBy h39.2) (kkJ (fun r42 M41 h40 => s_las (pc := 102) dX5_pick_102 h40.1 h40.2.1 (nmM (fun M43 e44 => have h45 := (h40.2.2) M43 e44; s_aload_n (pc := 103) dX5_pick_103 rfl (s_getR (pc := 104) dX5_pick_104 f_X5_32 rfl h45.1 (s_iload (pc := 107) dX5_pick_107 rfl (s_iconst (pc := 109) dX5_pick_109 ci_2 (s_aload_n (pc := 110) dX5_pick_110 rfl (s_aload_n (pc := 111) dX5_pick_111 rfl (s_iload (pc := 112) dX5_pick_112 rfl (s_callS (pc := 114) (As := [.int 2, .ref x1, .ref x3, .int y37]) (rest := [.int x8, .ref (mR M43 x0 9)]) (d' := 2) (mc' := 0) (ms' := 0) dX5_pick_114 c_X5_111 rfl rfl (Nat.le_of_ble_eq_true rfl) (rm_ok rfl rfl) ⟨Nat.le_refl 0, Nat.le_refl 0⟩ (T_X5_moreBy h45.2) (kkJ (fun r48 M47 h46 => s_las (pc := 117) dX5_pick_117 h46.1 h46.2.1 (nmM (fun M49 e50 => have h51 := (h46.2.2) M49 e50; s_iinc (pc := 118) (L1 := [some (.ref x0), some (.ref x1), some (.int x2), some (.ref x3), none, some (.long x5), none, none, some (.int (x8 + 1)), some (.int y37), none]) dX5_pick_118 rfl ci_1 (Nat.le_of_ble_eq_true rfl) rfl (s_goto (pc := 121) (tgt := 70) dX5_pick_121 rfl (s_sel (L1 := [some (.ref x0), some (.ref x1), some (.int x2), some (.ref x3), none, some (.long x5), none, none, some (.int (x8 + 1)), none, none]) [true, true, true, true, false, true, false, false, true, false, false] rfl (ih x0 x1 x2 x3 x5 (x8 + 1) M49 h51))))))))))))))))))))))))))))))))))))
def lp_X5_pick_19 (Q : Mem → Prop) : Nat → Nat → Nat → Int32 → Nat → Int64 → Int32 → Int32 → Mem → Prop
  | 0 => fun _ _ _ _ _ _ _ _ => False
  | n + 1 => fun x0 x1 x2 x3 x5 x7 x8 M => mK M x1 = 7 ∧ ((mI M x1 0) ≤ x8 → ∃ n52 : Nat, lp_X5_pick_70 Q n52 x0 x1 x2 x3 x5 0 M) ∧ (¬ (mI M x1 0) ≤ x8 → mK M x3 = 10 ∧ mK M (mR M x3 0) = 21 ∧ vp_in x8 (mN M (mR M x3 0)) ∧ mK M (mR M x1 2) = 20 ∧ vp_in x8 (mN M (mR M x1 2)) ∧ ∀ y53 : Int64, y53 = x5 + ((100 * (mJ M (mR M x3 0) x8.toNatClampNeg)) * ((x7 + ((mI M x3 1) * (mI M (mR M x1 2) x8.toNatClampNeg))).toInt64)) → (lp_X5_pick_19 Q n) x0 x1 x2 x3 y53 x7 (x8 + 1) M)
theorem P_lp_X5_pick_19 {G : GG} {Q : Mem → Prop} : ∀ (n : Nat) (x0 : Nat) (x1 : Nat) (x2 : Int32) (x3 : Nat) (x5 : Int64) (x7 : Int32) (x8 : Int32) (M : Mem), lp_X5_pick_19 Q n x0 x1 x2 x3 x5 x7 x8 M → PW G mX5_pick (rmD 3 0 0) (QV Q) 19 [some (.ref x0), some (.ref x1), some (.int x2), some (.ref x3), none, some (.long x5), none, some (.int x7), some (.int x8), none, none] [] M 0 0 := by
  intro n
  induction n with
  | zero => intro x0 x1 x2 x3 x5 x7 x8 M h; exact h.elim
  | succ n ih =>
    intro x0 x1 x2 x3 x5 x7 x8 M h
    exact (s_iload (pc := 19) dX5_pick_19 rfl (s_aload_n (pc := 21) dX5_pick_21 rfl (s_getI (pc := 22) dX5_pick_22 f_X5_100 rfl h.1 (s_icmp_ge (pc := 25) (tgt := 67) dX5_pick_25 rfl (fun c7 => have h8 := h.2.1 c7; s_iconst (pc := 67) dX5_pick_67 ci_0 (s_istore (pc := 68) (L1 := [some (.ref x0), some (.ref x1), some (.int x2), some (.ref x3), none, some (.long x5), none, some (.int x7), some (.int 0), none, none]) dX5_pick_68 (Nat.le_of_ble_eq_true rfl) rfl (Exists.elim h8 (fun n52 hn => s_sel (L1 := [some (.ref x0), some (.ref x1), some (.int x2), some (.ref x3), none, some (.long x5), none, none, some (.int 0), none, none]) [true, true, true, true, false, true, false, false, true, false, false] rfl (P_lp_X5_pick_70 n52 x0 x1 x2 x3 x5 0 M hn))))) (fun c9 => have h10 := h.2.2 c9; s_lload (pc := 28) dX5_pick_28 rfl (s_ldc2 (pc := 30) dX5_pick_30 k_X5_103 (s_aload_n (pc := 33) dX5_pick_33 rfl (s_getR (pc := 34) dX5_pick_34 f_X5_105 rfl h10.1 (s_iload (pc := 37) dX5_pick_37 rfl (s_lal (pc := 39) dX5_pick_39 h10.2.1 h10.2.2.1 (s_lmul (pc := 40) dX5_pick_40 (s_iload (pc := 41) dX5_pick_41 rfl (s_aload_n (pc := 43) dX5_pick_43 rfl (s_getI (pc := 44) dX5_pick_44 f_X5_91 rfl h10.1 (s_aload_n (pc := 47) dX5_pick_47 rfl (s_getR (pc := 48) dX5_pick_48 f_X5_108 rfl h.1 (s_iload (pc := 51) dX5_pick_51 rfl (s_ial (pc := 53) dX5_pick_53 h10.2.2.2.1 h10.2.2.2.2.1 (s_imul (pc := 54) dX5_pick_54 (s_iadd (pc := 55) dX5_pick_55 (s_i2l (pc := 56) dX5_pick_56 (s_lmul (pc := 57) dX5_pick_57 (s_ladd (pc := 58) dX5_pick_58 (nmJ (fun y53 e54 => have h55 := h10.2.2.2.2.2 y53 e54; s_lstore (pc := 59) (L1 := [some (.ref x0), some (.ref x1), some (.int x2), some (.ref x3), none, some (.long y53), none, some (.int x7), some (.int x8), none, none]) dX5_pick_59 (Nat.le_of_ble_eq_true rfl) rfl (s_iinc (pc := 61) (L1 := [some (.ref x0), some (.ref x1), some (.int x2), some (.ref x3), none, some (.long y53), none, some (.int x7), some (.int (x8 + 1)), none, none]) dX5_pick_61 rfl ci_1 (Nat.le_of_ble_eq_true rfl) rfl (s_goto (pc := 64) (tgt := 19) dX5_pick_64 rfl (s_sel (L1 := [some (.ref x0), some (.ref x1), some (.int x2), some (.ref x3), none, some (.long y53), none, some (.int x7), some (.int (x8 + 1)), none, none]) [true, true, true, true, false, true, false, true, true, false, false] rfl (ih x0 x1 x2 x3 y53 x7 (x8 + 1) M h55)))))))))))))))))))))))))))))
def wp_X5_pick (p0 : Nat) (p1 : Nat) (p2 : Int32) (p3 : Nat) (p4 : Int32) (M : Mem) (Q : Mem → Prop) : Prop := mK M p3 = 10 ∧ mK M p1 = 7 ∧ wp_X6_costOf p1 (mI M p3 1) M (fun r3 M2 => ∀ y4 : Int32, y4 = p4 - r3 → ∃ n56 : Nat, lp_X5_pick_19 Q n56 p0 p1 p2 p3 0 y4 0 M2)
theorem T_X5_pick {G : GG} {Q : Mem → Prop} {M : Mem} {p0 : Nat} {p1 : Nat} {p2 : Int32} {p3 : Nat} {p4 : Int32} (h : wp_X5_pick p0 p1 p2 p3 p4 M Q) : PMet G mX5_pick 3 0 0 [.ref p0, .ref p1, .int p2, .ref p3, .int p4] M (QV Q) :=
  mk_met (by decide) rfl rfl (by
    intro w hw x9 e9
    subst e9
    simp at hw) (Nat.le_of_ble_eq_true rfl) (s_pad (L1 := [some (.ref p0), some (.ref p1), some (.int p2), some (.ref p3), some (.int p4), none, none, none, none, none, none]) 11 rfl (s_lconst (pc := 0) (v := 0) dX5_pick_0 rfl (s_lstore (pc := 1) (L1 := [some (.ref p0), some (.ref p1), some (.int p2), some (.ref p3), some (.int p4), some (.long 0), none, none, none, none, none]) dX5_pick_1 (Nat.le_of_ble_eq_true rfl) rfl (s_iload (pc := 3) dX5_pick_3 rfl (s_aload_n (pc := 5) dX5_pick_5 rfl (s_aload_n (pc := 6) dX5_pick_6 rfl (s_getI (pc := 7) dX5_pick_7 f_X5_91 rfl h.1 (s_callV (pc := 10) (As := [.int (mI M p3 1)]) (rest := [.int p4]) (d' := 1) (mc' := 0) (ms' := 0) dX5_pick_10 c_X5_94 (Nat.le_of_ble_eq_true rfl) rfl h.2.1 rfl rfl (Nat.le_of_ble_eq_true rfl) (rm_ok rfl rfl) ⟨Nat.le_refl 0, Nat.le_refl 0⟩ (T_X6_costOf h.2.2) (kkI (fun r3 M2 h1 => s_isub (pc := 13) dX5_pick_13 (nmI (fun y4 e5 => have h6 := h1 y4 e5; s_istore (pc := 14) (L1 := [some (.ref p0), some (.ref p1), some (.int p2), some (.ref p3), some (.int p4), some (.long 0), none, some (.int y4), none, none, none]) dX5_pick_14 (Nat.le_of_ble_eq_true rfl) rfl (s_iconst (pc := 16) dX5_pick_16 ci_0 (s_istore (pc := 17) (L1 := [some (.ref p0), some (.ref p1), some (.int p2), some (.ref p3), some (.int p4), some (.long 0), none, some (.int y4), some (.int 0), none, none]) dX5_pick_17 (Nat.le_of_ble_eq_true rfl) rfl (Exists.elim h6 (fun n56 hn => s_sel (L1 := [some (.ref p0), some (.ref p1), some (.int p2), some (.ref p3), none, some (.long 0), none, some (.int y4), some (.int 0), none, none]) [true, true, true, true, false, true, false, true, true, false, false] rfl (P_lp_X5_pick_19 n56 p0 p1 p2 p3 0 y4 0 M2 hn)))))))))))))))))
/-! X5_twoHours -/
theorem dX5_twoHours_0 : cod mX5_twoHours 0 (.lconst 0) 1 := by decide +kernel
theorem dX5_twoHours_1 : cod mX5_twoHours 1 (.lstore 5) 2 := by decide +kernel
theorem dX5_twoHours_3 : cod mX5_twoHours 3 (.iconst 0) 1 := by decide +kernel
theorem dX5_twoHours_4 : cod mX5_twoHours 4 (.istore 7) 2 := by decide +kernel
theorem dX5_twoHours_6 : cod mX5_twoHours 6 (.iload 7) 2 := by decide +kernel
theorem dX5_twoHours_8 : cod mX5_twoHours 8 (.iconst 2) 1 := by decide +kernel
theorem dX5_twoHours_9 : cod mX5_twoHours 9 (.if_icmp .gt 72) 3 := by decide +kernel
theorem dX5_twoHours_12 : cod mX5_twoHours 12 (.aload_n 0) 1 := by decide +kernel
theorem dX5_twoHours_13 : cod mX5_twoHours 13 (.getfield 25) 3 := by decide +kernel
theorem dX5_twoHours_16 : cod mX5_twoHours 16 (.aload_n 0) 1 := by decide +kernel
theorem dX5_twoHours_17 : cod mX5_twoHours 17 (.getfield 21) 3 := by decide +kernel
theorem dX5_twoHours_20 : cod mX5_twoHours 20 (.aload_n 1) 1 := by decide +kernel
theorem dX5_twoHours_21 : cod mX5_twoHours 21 (.iload 7) 2 := by decide +kernel
theorem dX5_twoHours_23 : cod mX5_twoHours 23 (.iload_n 3) 1 := by decide +kernel
theorem dX5_twoHours_24 : cod mX5_twoHours 24 (.iload 4) 2 := by decide +kernel
theorem dX5_twoHours_26 : cod mX5_twoHours 26 (.invokevirtual 83) 3 := by decide +kernel
theorem dX5_twoHours_29 : cod mX5_twoHours 29 (.ifCond .eq 46) 3 := by decide +kernel
theorem dX5_twoHours_32 : cod mX5_twoHours 32 (.iload 7) 2 := by decide +kernel
theorem dX5_twoHours_34 : cod mX5_twoHours 34 (.iload_n 3) 1 := by decide +kernel
theorem dX5_twoHours_35 : cod mX5_twoHours 35 (.iload 4) 2 := by decide +kernel
theorem dX5_twoHours_37 : cod mX5_twoHours 37 (.invokestatic 87) 3 := by decide +kernel
theorem dX5_twoHours_40 : cod mX5_twoHours 40 (.aload_n 1) 1 := by decide +kernel
theorem dX5_twoHours_41 : cod mX5_twoHours 41 (.aload_n 0) 1 := by decide +kernel
theorem dX5_twoHours_42 : cod mX5_twoHours 42 (.getfield 25) 3 := by decide +kernel
theorem dX5_twoHours_45 : cod mX5_twoHours 45 (.getfield 91) 3 := by decide +kernel
theorem dX5_twoHours_48 : cod mX5_twoHours 48 (.invokevirtual 94) 3 := by decide +kernel
theorem dX5_twoHours_51 : cod mX5_twoHours 51 (.isub) 1 := by decide +kernel
theorem dX5_twoHours_52 : cod mX5_twoHours 52 (.istore 8) 2 := by decide +kernel
theorem dX5_twoHours_54 : cod mX5_twoHours 54 (.aload_n 0) 1 := by decide +kernel
theorem dX5_twoHours_55 : cod mX5_twoHours 55 (.aload_n 1) 1 := by decide +kernel
theorem dX5_twoHours_56 : cod mX5_twoHours 56 (.iload_n 2) 1 := by decide +kernel
theorem dX5_twoHours_57 : cod mX5_twoHours 57 (.aload_n 0) 1 := by decide +kernel
theorem dX5_twoHours_58 : cod mX5_twoHours 58 (.getfield 25) 3 := by decide +kernel
theorem dX5_twoHours_61 : cod mX5_twoHours 61 (.iload 8) 2 := by decide +kernel
theorem dX5_twoHours_63 : cod mX5_twoHours 63 (.invokevirtual 59) 3 := by decide +kernel
theorem dX5_twoHours_66 : cod mX5_twoHours 66 (.lload 5) 2 := by decide +kernel
theorem dX5_twoHours_68 : cod mX5_twoHours 68 (.aload_n 0) 1 := by decide +kernel
theorem dX5_twoHours_69 : cod mX5_twoHours 69 (.getfield 72) 3 := by decide +kernel
theorem dX5_twoHours_72 : cod mX5_twoHours 72 (.ladd) 1 := by decide +kernel
theorem dX5_twoHours_73 : cod mX5_twoHours 73 (.lstore 5) 2 := by decide +kernel
theorem dX5_twoHours_75 : cod mX5_twoHours 75 (.iinc 7 1) 3 := by decide +kernel
theorem dX5_twoHours_78 : cod mX5_twoHours 78 (.goto (-72)) 3 := by decide +kernel
theorem dX5_twoHours_81 : cod mX5_twoHours 81 (.lload 5) 2 := by decide +kernel
theorem dX5_twoHours_83 : cod mX5_twoHours 83 (.lreturn) 1 := by decide +kernel
def jn_X5_twoHours_75 (K6 : Nat → Nat → Int32 → Int32 → Int32 → Int64 → Int32 → Mem → Prop) (Q : Int64 → Mem → Prop) (x0 : Nat) (x1 : Nat) (x2 : Int32) (x3 : Int32) (x4 : Int32) (x5 : Int64) (x7 : Int32) (M : Mem) : Prop := K6 x0 x1 x2 x3 x4 x5 (x7 + 1) M
theorem P_jn_X5_twoHours_75 {G : GG} {K6 : Nat → Nat → Int32 → Int32 → Int32 → Int64 → Int32 → Mem → Prop} {Q : Int64 → Mem → Prop} (hK6 : ∀ (x0 : Nat) (x1 : Nat) (x2 : Int32) (x3 : Int32) (x4 : Int32) (x5 : Int64) (x7 : Int32) (M : Mem), K6 x0 x1 x2 x3 x4 x5 x7 M → PW G mX5_twoHours (rmD 4 0 0) (QJ Q) 6 [some (.ref x0), some (.ref x1), some (.int x2), some (.int x3), some (.int x4), some (.long x5), none, some (.int x7), none] [] M 0 0) (x0 : Nat) (x1 : Nat) (x2 : Int32) (x3 : Int32) (x4 : Int32) (x5 : Int64) (x7 : Int32) (M : Mem) (h : jn_X5_twoHours_75 K6 Q x0 x1 x2 x3 x4 x5 x7 M) : PW G mX5_twoHours (rmD 4 0 0) (QJ Q) 75 [some (.ref x0), some (.ref x1), some (.int x2), some (.int x3), some (.int x4), some (.long x5), none, some (.int x7), none] [] M 0 0 := (s_iinc (pc := 75) (L1 := [some (.ref x0), some (.ref x1), some (.int x2), some (.int x3), some (.int x4), some (.long x5), none, some (.int (x7 + 1)), none]) dX5_twoHours_75 rfl ci_1 (Nat.le_of_ble_eq_true rfl) rfl (s_goto (pc := 78) (tgt := 6) dX5_twoHours_78 rfl (s_sel (L1 := [some (.ref x0), some (.ref x1), some (.int x2), some (.int x3), some (.int x4), some (.long x5), none, some (.int (x7 + 1)), none]) [true, true, true, true, true, true, false, true, false] rfl (hK6 x0 x1 x2 x3 x4 x5 (x7 + 1) M h))))
def lp_X5_twoHours_6 (Q : Int64 → Mem → Prop) : Nat → Nat → Nat → Int32 → Int32 → Int32 → Int64 → Int32 → Mem → Prop
  | 0 => fun _ _ _ _ _ _ _ _ => False
  | n + 1 => fun x0 x1 x2 x3 x4 x5 x7 M => ((2 : Int32) < x7 → Q x5 M) ∧ (¬ (2 : Int32) < x7 → mK M x0 = 6 ∧ mK M (mR M x0 7) = 10 ∧ wp_X9_takeTimes (mR M x0 7) (mR M x0 6) x1 x7 x3 x4 M (fun r7 M6 => (r7 = (0 : Int32) → jn_X5_twoHours_75 (fun fx0 fx1 fx2 fx3 fx4 fx5 fx7 fM => lp_X5_twoHours_6 Q n fx0 fx1 fx2 fx3 fx4 fx5 fx7 fM) Q x0 x1 x2 x3 x4 x5 x7 M6) ∧ (¬ r7 = (0 : Int32) → wp_X12_takings x7 x3 x4 M6 (fun r14 M13 => mK M13 x0 = 6 ∧ mK M13 (mR M13 x0 7) = 10 ∧ mK M13 x1 = 7 ∧ wp_X6_costOf x1 (mI M13 (mR M13 x0 7) 1) M13 (fun r17 M16 => ∀ y18 : Int32, y18 = r14 - r17 → mK M16 x0 = 6 ∧ wp_X5_pick x0 x1 x2 (mR M16 x0 7) y18 M16 (fun M22 => mK M22 x0 = 6 ∧ ∀ y23 : Int64, y23 = x5 + (mJ M22 x0 11) → jn_X5_twoHours_75 (fun fx0 fx1 fx2 fx3 fx4 fx5 fx7 fM => lp_X5_twoHours_6 Q n fx0 fx1 fx2 fx3 fx4 fx5 fx7 fM) Q x0 x1 x2 x3 x4 y23 x7 M22))))))
theorem P_lp_X5_twoHours_6 {G : GG} {Q : Int64 → Mem → Prop} : ∀ (n : Nat) (x0 : Nat) (x1 : Nat) (x2 : Int32) (x3 : Int32) (x4 : Int32) (x5 : Int64) (x7 : Int32) (M : Mem), lp_X5_twoHours_6 Q n x0 x1 x2 x3 x4 x5 x7 M → PW G mX5_twoHours (rmD 4 0 0) (QJ Q) 6 [some (.ref x0), some (.ref x1), some (.int x2), some (.int x3), some (.int x4), some (.long x5), none, some (.int x7), none] [] M 0 0 := by
  intro n
  induction n with
  | zero => intro x0 x1 x2 x3 x4 x5 x7 M h; exact h.elim
  | succ n ih =>
    intro x0 x1 x2 x3 x4 x5 x7 M h
    exact (s_iload (pc := 6) dX5_twoHours_6 rfl (s_iconst (pc := 8) dX5_twoHours_8 ci_2 (s_icmp_gt (pc := 9) (tgt := 81) dX5_twoHours_9 rfl (fun c1 => have h2 := h.1 c1; s_lload (pc := 81) dX5_twoHours_81 rfl (s_lreturn (pc := 83) dX5_twoHours_83 rfl (Nat.zero_le _) (Nat.zero_le _) ⟨_, rfl, h2⟩)) (fun c3 => have h4 := h.2 c3; s_aload_n (pc := 12) dX5_twoHours_12 rfl (s_getR (pc := 13) dX5_twoHours_13 f_X5_25 rfl h4.1 (s_aload_n (pc := 16) dX5_twoHours_16 rfl (s_getR (pc := 17) dX5_twoHours_17 f_X5_21 rfl h4.1 (s_aload_n (pc := 20) dX5_twoHours_20 rfl (s_iload (pc := 21) dX5_twoHours_21 rfl (s_iload_n (pc := 23) dX5_twoHours_23 rfl (s_iload (pc := 24) dX5_twoHours_24 rfl (s_callV (pc := 26) (As := [.ref (mR M x0 6), .ref x1, .int x7, .int x3, .int x4]) (rest := []) (d' := 1) (mc' := 0) (ms' := 0) dX5_twoHours_26 c_X5_83 (Nat.le_of_ble_eq_true rfl) rfl h4.2.1 rfl rfl (Nat.le_of_ble_eq_true rfl) (rm_ok rfl rfl) ⟨Nat.le_refl 0, Nat.le_refl 0⟩ (T_X9_takeTimes h4.2.2) (kkI (fun r7 M6 h5 => s_if_eq (pc := 29) (tgt := 75) dX5_twoHours_29 rfl (fun c8 => have h9 := h5.1 c8; s_sel (L1 := [some (.ref x0), some (.ref x1), some (.int x2), some (.int x3), some (.int x4), some (.long x5), none, some (.int x7), none]) [true, true, true, true, true, true, false, true, false] rfl (P_jn_X5_twoHours_75 ih x0 x1 x2 x3 x4 x5 x7 M6 h9)) (fun c10 => have h11 := h5.2 c10; s_iload (pc := 32) dX5_twoHours_32 rfl (s_iload_n (pc := 34) dX5_twoHours_34 rfl (s_iload (pc := 35) dX5_twoHours_35 rfl (s_callSN (pc := 37) (As := [.int x7, .int x3, .int x4]) (rest := []) (d' := 0) (mc' := 0) (ms' := 0) dX5_twoHours_37 c_X5_87 rfl rfl (Nat.le_of_ble_eq_true rfl) (rm_ok rfl rfl) ⟨Nat.le_refl 0, Nat.le_refl 0⟩ (T_X12_takings h11) (kkI (fun r14 M13 h12 => s_aload_n (pc := 40) dX5_twoHours_40 rfl (s_aload_n (pc := 41) dX5_twoHours_41 rfl (s_getR (pc := 42) dX5_twoHours_42 f_X5_25 rfl h12.1 (s_getI (pc := 45) dX5_twoHours_45 f_X5_91 rfl h12.2.1 (s_callV (pc := 48) (As := [.int (mI M13 (mR M13 x0 7) 1)]) (rest := [.int r14]) (d' := 1) (mc' := 0) (ms' := 0) dX5_twoHours_48 c_X5_94 (Nat.le_of_ble_eq_true rfl) rfl h12.2.2.1 rfl rfl (Nat.le_of_ble_eq_true rfl) (rm_ok rfl rfl) ⟨Nat.le_refl 0, Nat.le_refl 0⟩ (T_X6_costOf h12.2.2.2) (kkI (fun r17 M16 h15 => s_isub (pc := 51) dX5_twoHours_51 (nmI (fun y18 e19 => have h20 := h15 y18 e19; s_istore (pc := 52) (L1 := [some (.ref x0), some (.ref x1), some (.int x2), some (.int x3), some (.int x4), some (.long x5), none, some (.int x7), some (.int y18)]) dX5_twoHours_52 (Nat.le_of_ble_eq_true rfl) rfl (s_aload_n (pc := 54) dX5_twoHours_54 rfl (s_aload_n (pc := 55) dX5_twoHours_55 rfl (s_iload_n (pc := 56) dX5_twoHours_56 rfl (s_aload_n (pc := 57) dX5_twoHours_57 rfl (s_getR (pc := 58) dX5_twoHours_58 f_X5_25 rfl h20.1 (s_iload (pc := 61) dX5_twoHours_61 rfl (s_callV (pc := 63) (As := [.ref x1, .int x2, .ref (mR M16 x0 7), .int y18]) (rest := []) (d' := 3) (mc' := 0) (ms' := 0) dX5_twoHours_63 c_X5_59 (Nat.le_of_ble_eq_true rfl) rfl h20.1 rfl rfl (Nat.le_of_ble_eq_true rfl) (rm_ok rfl rfl) ⟨Nat.le_refl 0, Nat.le_refl 0⟩ (T_X5_pick h20.2) (kkV (fun M22 h21 => s_lload (pc := 66) dX5_twoHours_66 rfl (s_aload_n (pc := 68) dX5_twoHours_68 rfl (s_getJ (pc := 69) dX5_twoHours_69 f_X5_72 rfl h21.1 (s_ladd (pc := 72) dX5_twoHours_72 (nmJ (fun y23 e24 => have h25 := h21.2 y23 e24; s_lstore (pc := 73) (L1 := [some (.ref x0), some (.ref x1), some (.int x2), some (.int x3), some (.int x4), some (.long y23), none, some (.int x7), some (.int y18)]) dX5_twoHours_73 (Nat.le_of_ble_eq_true rfl) rfl (s_sel (L1 := [some (.ref x0), some (.ref x1), some (.int x2), some (.int x3), some (.int x4), some (.long y23), none, some (.int x7), none]) [true, true, true, true, true, true, false, true, false] rfl (P_jn_X5_twoHours_75 ih x0 x1 x2 x3 x4 y23 x7 M22 h25))))))))))))))))))))))))))))))))))))))))))))
def wp_X5_twoHours (p0 : Nat) (p1 : Nat) (p2 : Int32) (p3 : Int32) (p4 : Int32) (M : Mem) (Q : Int64 → Mem → Prop) : Prop := ∃ n26 : Nat, lp_X5_twoHours_6 Q n26 p0 p1 p2 p3 p4 0 0 M
theorem T_X5_twoHours {G : GG} {Q : Int64 → Mem → Prop} {M : Mem} {p0 : Nat} {p1 : Nat} {p2 : Int32} {p3 : Int32} {p4 : Int32} (h : wp_X5_twoHours p0 p1 p2 p3 p4 M Q) : PMet G mX5_twoHours 4 0 0 [.ref p0, .ref p1, .int p2, .int p3, .int p4] M (QJ Q) :=
  mk_met (by decide) rfl rfl (by
    intro w hw x9 e9
    subst e9
    simp at hw) (Nat.le_of_ble_eq_true rfl) (s_pad (L1 := [some (.ref p0), some (.ref p1), some (.int p2), some (.int p3), some (.int p4), none, none, none, none]) 9 rfl (s_lconst (pc := 0) (v := 0) dX5_twoHours_0 rfl (s_lstore (pc := 1) (L1 := [some (.ref p0), some (.ref p1), some (.int p2), some (.int p3), some (.int p4), some (.long 0), none, none, none]) dX5_twoHours_1 (Nat.le_of_ble_eq_true rfl) rfl (s_iconst (pc := 3) dX5_twoHours_3 ci_0 (s_istore (pc := 4) (L1 := [some (.ref p0), some (.ref p1), some (.int p2), some (.int p3), some (.int p4), some (.long 0), none, some (.int 0), none]) dX5_twoHours_4 (Nat.le_of_ble_eq_true rfl) rfl (Exists.elim h (fun n26 hn => s_sel (L1 := [some (.ref p0), some (.ref p1), some (.int p2), some (.int p3), some (.int p4), some (.long 0), none, some (.int 0), none]) [true, true, true, true, true, true, false, true, false] rfl (P_lp_X5_twoHours_6 n26 p0 p1 p2 p3 p4 0 0 M hn))))))))
/-! X5_findBest -/
theorem dX5_findBest_0 : cod mX5_findBest 0 (.aload_n 0) 1 := by decide +kernel
theorem dX5_findBest_1 : cod mX5_findBest 1 (.iload_n 2) 1 := by decide +kernel
theorem dX5_findBest_2 : cod mX5_findBest 2 (.invokevirtual 51) 3 := by decide +kernel
theorem dX5_findBest_5 : cod mX5_findBest 5 (.aload_n 0) 1 := by decide +kernel
theorem dX5_findBest_6 : cod mX5_findBest 6 (.getfield 21) 3 := by decide +kernel
theorem dX5_findBest_9 : cod mX5_findBest 9 (.aload_n 1) 1 := by decide +kernel
theorem dX5_findBest_10 : cod mX5_findBest 10 (.invokevirtual 55) 3 := by decide +kernel
theorem dX5_findBest_13 : cod mX5_findBest 13 (.iload_n 3) 1 := by decide +kernel
theorem dX5_findBest_14 : cod mX5_findBest 14 (.iconst 1) 1 := by decide +kernel
theorem dX5_findBest_15 : cod mX5_findBest 15 (.if_icmp .ne 53) 3 := by decide +kernel
theorem dX5_findBest_18 : cod mX5_findBest 18 (.aload_n 0) 1 := by decide +kernel
theorem dX5_findBest_19 : cod mX5_findBest 19 (.aload_n 1) 1 := by decide +kernel
theorem dX5_findBest_20 : cod mX5_findBest 20 (.iload_n 2) 1 := by decide +kernel
theorem dX5_findBest_21 : cod mX5_findBest 21 (.aload_n 0) 1 := by decide +kernel
theorem dX5_findBest_22 : cod mX5_findBest 22 (.getfield 21) 3 := by decide +kernel
theorem dX5_findBest_25 : cod mX5_findBest 25 (.iconst 0) 1 := by decide +kernel
theorem dX5_findBest_26 : cod mX5_findBest 26 (.invokevirtual 59) 3 := by decide +kernel
theorem dX5_findBest_29 : cod mX5_findBest 29 (.aload_n 0) 1 := by decide +kernel
theorem dX5_findBest_30 : cod mX5_findBest 30 (.aload_n 0) 1 := by decide +kernel
theorem dX5_findBest_31 : cod mX5_findBest 31 (.getfield 11) 3 := by decide +kernel
theorem dX5_findBest_34 : cod mX5_findBest 34 (.aload_n 0) 1 := by decide +kernel
theorem dX5_findBest_35 : cod mX5_findBest 35 (.getfield 63) 3 := by decide +kernel
theorem dX5_findBest_38 : cod mX5_findBest 38 (.iaload) 1 := by decide +kernel
theorem dX5_findBest_39 : cod mX5_findBest 39 (.iload_n 2) 1 := by decide +kernel
theorem dX5_findBest_40 : cod mX5_findBest 40 (.imul) 1 := by decide +kernel
theorem dX5_findBest_41 : cod mX5_findBest 41 (.putfield 66) 3 := by decide +kernel
theorem dX5_findBest_44 : cod mX5_findBest 44 (.aload_n 0) 1 := by decide +kernel
theorem dX5_findBest_45 : cod mX5_findBest 45 (.aload_n 0) 1 := by decide +kernel
theorem dX5_findBest_46 : cod mX5_findBest 46 (.getfield 15) 3 := by decide +kernel
theorem dX5_findBest_49 : cod mX5_findBest 49 (.aload_n 0) 1 := by decide +kernel
theorem dX5_findBest_50 : cod mX5_findBest 50 (.getfield 63) 3 := by decide +kernel
theorem dX5_findBest_53 : cod mX5_findBest 53 (.iaload) 1 := by decide +kernel
theorem dX5_findBest_54 : cod mX5_findBest 54 (.iload_n 2) 1 := by decide +kernel
theorem dX5_findBest_55 : cod mX5_findBest 55 (.imul) 1 := by decide +kernel
theorem dX5_findBest_56 : cod mX5_findBest 56 (.putfield 69) 3 := by decide +kernel
theorem dX5_findBest_59 : cod mX5_findBest 59 (.aload_n 0) 1 := by decide +kernel
theorem dX5_findBest_60 : cod mX5_findBest 60 (.aload_n 0) 1 := by decide +kernel
theorem dX5_findBest_61 : cod mX5_findBest 61 (.getfield 72) 3 := by decide +kernel
theorem dX5_findBest_64 : cod mX5_findBest 64 (.putfield 76) 3 := by decide +kernel
theorem dX5_findBest_67 : cod mX5_findBest 67 (.return_) 1 := by decide +kernel
theorem dX5_findBest_68 : cod mX5_findBest 68 (.iconst 0) 1 := by decide +kernel
theorem dX5_findBest_69 : cod mX5_findBest 69 (.istore 4) 2 := by decide +kernel
theorem dX5_findBest_71 : cod mX5_findBest 71 (.iload 4) 2 := by decide +kernel
theorem dX5_findBest_73 : cod mX5_findBest 73 (.aload_n 0) 1 := by decide +kernel
theorem dX5_findBest_74 : cod mX5_findBest 74 (.getfield 47) 3 := by decide +kernel
theorem dX5_findBest_77 : cod mX5_findBest 77 (.if_icmp .ge 76) 3 := by decide +kernel
theorem dX5_findBest_80 : cod mX5_findBest 80 (.aload_n 0) 1 := by decide +kernel
theorem dX5_findBest_81 : cod mX5_findBest 81 (.getfield 11) 3 := by decide +kernel
theorem dX5_findBest_84 : cod mX5_findBest 84 (.iload 4) 2 := by decide +kernel
theorem dX5_findBest_86 : cod mX5_findBest 86 (.iaload) 1 := by decide +kernel
theorem dX5_findBest_87 : cod mX5_findBest 87 (.iload_n 2) 1 := by decide +kernel
theorem dX5_findBest_88 : cod mX5_findBest 88 (.imul) 1 := by decide +kernel
theorem dX5_findBest_89 : cod mX5_findBest 89 (.istore 5) 2 := by decide +kernel
theorem dX5_findBest_91 : cod mX5_findBest 91 (.aload_n 0) 1 := by decide +kernel
theorem dX5_findBest_92 : cod mX5_findBest 92 (.getfield 15) 3 := by decide +kernel
theorem dX5_findBest_95 : cod mX5_findBest 95 (.iload 4) 2 := by decide +kernel
theorem dX5_findBest_97 : cod mX5_findBest 97 (.iaload) 1 := by decide +kernel
theorem dX5_findBest_98 : cod mX5_findBest 98 (.iload_n 2) 1 := by decide +kernel
theorem dX5_findBest_99 : cod mX5_findBest 99 (.imul) 1 := by decide +kernel
theorem dX5_findBest_100 : cod mX5_findBest 100 (.istore 6) 2 := by decide +kernel
theorem dX5_findBest_102 : cod mX5_findBest 102 (.aload_n 0) 1 := by decide +kernel
theorem dX5_findBest_103 : cod mX5_findBest 103 (.aload_n 1) 1 := by decide +kernel
theorem dX5_findBest_104 : cod mX5_findBest 104 (.iload_n 2) 1 := by decide +kernel
theorem dX5_findBest_105 : cod mX5_findBest 105 (.iload 5) 2 := by decide +kernel
theorem dX5_findBest_107 : cod mX5_findBest 107 (.iload 6) 2 := by decide +kernel
theorem dX5_findBest_109 : cod mX5_findBest 109 (.invokevirtual 79) 3 := by decide +kernel
theorem dX5_findBest_112 : cod mX5_findBest 112 (.lstore 7) 2 := by decide +kernel
theorem dX5_findBest_114 : cod mX5_findBest 114 (.iload 4) 2 := by decide +kernel
theorem dX5_findBest_116 : cod mX5_findBest 116 (.ifCond .eq 13) 3 := by decide +kernel
theorem dX5_findBest_119 : cod mX5_findBest 119 (.lload 7) 2 := by decide +kernel
theorem dX5_findBest_121 : cod mX5_findBest 121 (.aload_n 0) 1 := by decide +kernel
theorem dX5_findBest_122 : cod mX5_findBest 122 (.getfield 76) 3 := by decide +kernel
theorem dX5_findBest_125 : cod mX5_findBest 125 (.lcmp) 1 := by decide +kernel
theorem dX5_findBest_126 : cod mX5_findBest 126 (.ifCond .le 21) 3 := by decide +kernel
theorem dX5_findBest_129 : cod mX5_findBest 129 (.aload_n 0) 1 := by decide +kernel
theorem dX5_findBest_130 : cod mX5_findBest 130 (.iload 5) 2 := by decide +kernel
theorem dX5_findBest_132 : cod mX5_findBest 132 (.putfield 66) 3 := by decide +kernel
theorem dX5_findBest_135 : cod mX5_findBest 135 (.aload_n 0) 1 := by decide +kernel
theorem dX5_findBest_136 : cod mX5_findBest 136 (.iload 6) 2 := by decide +kernel
theorem dX5_findBest_138 : cod mX5_findBest 138 (.putfield 69) 3 := by decide +kernel
theorem dX5_findBest_141 : cod mX5_findBest 141 (.aload_n 0) 1 := by decide +kernel
theorem dX5_findBest_142 : cod mX5_findBest 142 (.lload 7) 2 := by decide +kernel
theorem dX5_findBest_144 : cod mX5_findBest 144 (.putfield 76) 3 := by decide +kernel
theorem dX5_findBest_147 : cod mX5_findBest 147 (.iinc 4 1) 3 := by decide +kernel
theorem dX5_findBest_150 : cod mX5_findBest 150 (.goto (-79)) 3 := by decide +kernel
theorem dX5_findBest_153 : cod mX5_findBest 153 (.return_) 1 := by decide +kernel
def jn_X5_findBest_147 (K71 : Nat → Nat → Int32 → Int32 → Mem → Prop) (Q : Mem → Prop) (x0 : Nat) (x1 : Nat) (x2 : Int32) (x4 : Int32) (M : Mem) : Prop := K71 x0 x1 x2 (x4 + 1) M
theorem P_jn_X5_findBest_147 {G : GG} {K71 : Nat → Nat → Int32 → Int32 → Mem → Prop} {Q : Mem → Prop} (hK71 : ∀ (x0 : Nat) (x1 : Nat) (x2 : Int32) (x4 : Int32) (M : Mem), K71 x0 x1 x2 x4 M → PW G mX5_findBest (rmD 5 0 0) (QV Q) 71 [some (.ref x0), some (.ref x1), some (.int x2), none, some (.int x4), none, none, none, none] [] M 0 0) (x0 : Nat) (x1 : Nat) (x2 : Int32) (x4 : Int32) (M : Mem) (h : jn_X5_findBest_147 K71 Q x0 x1 x2 x4 M) : PW G mX5_findBest (rmD 5 0 0) (QV Q) 147 [some (.ref x0), some (.ref x1), some (.int x2), none, some (.int x4), none, none, none, none] [] M 0 0 := (s_iinc (pc := 147) (L1 := [some (.ref x0), some (.ref x1), some (.int x2), none, some (.int (x4 + 1)), none, none, none, none]) dX5_findBest_147 rfl ci_1 (Nat.le_of_ble_eq_true rfl) rfl (s_goto (pc := 150) (tgt := 71) dX5_findBest_150 rfl (s_sel (L1 := [some (.ref x0), some (.ref x1), some (.int x2), none, some (.int (x4 + 1)), none, none, none, none]) [true, true, true, false, true, false, false, false, false] rfl (hK71 x0 x1 x2 (x4 + 1) M h))))
def jn_X5_findBest_129 (K71 : Nat → Nat → Int32 → Int32 → Mem → Prop) (Q : Mem → Prop) (x0 : Nat) (x1 : Nat) (x2 : Int32) (x4 : Int32) (x5 : Int32) (x6 : Int32) (x7 : Int64) (M : Mem) : Prop := mK M x0 = 6 ∧ ∀ M26 : Mem, M26 = uI M x0 0 x5 → ∀ M29 : Mem, M29 = uI M26 x0 1 x6 → ∀ M32 : Mem, M32 = uJ M29 x0 2 x7 → jn_X5_findBest_147 K71 Q x0 x1 x2 x4 M32
theorem P_jn_X5_findBest_129 {G : GG} {K71 : Nat → Nat → Int32 → Int32 → Mem → Prop} {Q : Mem → Prop} (hK71 : ∀ (x0 : Nat) (x1 : Nat) (x2 : Int32) (x4 : Int32) (M : Mem), K71 x0 x1 x2 x4 M → PW G mX5_findBest (rmD 5 0 0) (QV Q) 71 [some (.ref x0), some (.ref x1), some (.int x2), none, some (.int x4), none, none, none, none] [] M 0 0) (x0 : Nat) (x1 : Nat) (x2 : Int32) (x4 : Int32) (x5 : Int32) (x6 : Int32) (x7 : Int64) (M : Mem) (h : jn_X5_findBest_129 K71 Q x0 x1 x2 x4 x5 x6 x7 M) : PW G mX5_findBest (rmD 5 0 0) (QV Q) 129 [some (.ref x0), some (.ref x1), some (.int x2), none, some (.int x4), some (.int x5), some (.int x6), some (.long x7), none] [] M 0 0 := (s_aload_n (pc := 129) dX5_findBest_129 rfl (s_iload (pc := 130) dX5_findBest_130 rfl (s_putI (pc := 132) dX5_findBest_132 f_X5_66 (Or.inl rfl) (Or.inl rfl) h.1 (nmM (fun M26 e27 => have h28 := h.2 M26 e27; s_aload_n (pc := 135) dX5_findBest_135 rfl (s_iload (pc := 136) dX5_findBest_136 rfl (s_putI (pc := 138) dX5_findBest_138 f_X5_69 (Or.inl rfl) (Or.inl rfl) ((congrFun (congrArg mK e27) x0).trans h.1) (nmM (fun M29 e30 => have h31 := h28 M29 e30; s_aload_n (pc := 141) dX5_findBest_141 rfl (s_lload (pc := 142) dX5_findBest_142 rfl (s_putJ (pc := 144) dX5_findBest_144 f_X5_76 (Or.inl rfl) rfl ((congrFun (congrArg mK e30) x0).trans ((congrFun (congrArg mK e27) x0).trans h.1)) (nmM (fun M32 e33 => have h34 := h31 M32 e33; s_sel (L1 := [some (.ref x0), some (.ref x1), some (.int x2), none, some (.int x4), none, none, none, none]) [true, true, true, false, true, false, false, false, false] rfl (P_jn_X5_findBest_147 hK71 x0 x1 x2 x4 M32 h34))))))))))))))
def lp_X5_findBest_71 (Q : Mem → Prop) : Nat → Nat → Nat → Int32 → Int32 → Mem → Prop
  | 0 => fun _ _ _ _ _ => False
  | n + 1 => fun x0 x1 x2 x4 M => mK M x0 = 6 ∧ ((mI M x0 3) ≤ x4 → Q M) ∧ (¬ (mI M x0 3) ≤ x4 → mK M (mR M x0 4) = 20 ∧ vp_in x4 (mN M (mR M x0 4)) ∧ ∀ y13 : Int32, y13 = (mI M (mR M x0 4) x4.toNatClampNeg) * x2 → mK M (mR M x0 5) = 20 ∧ vp_in x4 (mN M (mR M x0 5)) ∧ ∀ y16 : Int32, y16 = (mI M (mR M x0 5) x4.toNatClampNeg) * x2 → wp_X5_twoHours x0 x1 x2 y13 y16 M (fun r21 M20 => (x4 = (0 : Int32) → jn_X5_findBest_129 (fun fx0 fx1 fx2 fx4 fM => lp_X5_findBest_71 Q n fx0 fx1 fx2 fx4 fM) Q x0 x1 x2 x4 y13 y16 r21 M20) ∧ (¬ x4 = (0 : Int32) → mK M20 x0 = 6 ∧ (r21 ≤ (mJ M20 x0 2) → jn_X5_findBest_147 (fun fx0 fx1 fx2 fx4 fM => lp_X5_findBest_71 Q n fx0 fx1 fx2 fx4 fM) Q x0 x1 x2 x4 M20) ∧ (¬ r21 ≤ (mJ M20 x0 2) → jn_X5_findBest_129 (fun fx0 fx1 fx2 fx4 fM => lp_X5_findBest_71 Q n fx0 fx1 fx2 fx4 fM) Q x0 x1 x2 x4 y13 y16 r21 M20))))
theorem P_lp_X5_findBest_71 {G : GG} {Q : Mem → Prop} : ∀ (n : Nat) (x0 : Nat) (x1 : Nat) (x2 : Int32) (x4 : Int32) (M : Mem), lp_X5_findBest_71 Q n x0 x1 x2 x4 M → PW G mX5_findBest (rmD 5 0 0) (QV Q) 71 [some (.ref x0), some (.ref x1), some (.int x2), none, some (.int x4), none, none, none, none] [] M 0 0 := by
  intro n
  induction n with
  | zero => intro x0 x1 x2 x4 M h; exact h.elim
  | succ n ih =>
    intro x0 x1 x2 x4 M h
    exact (s_iload (pc := 71) dX5_findBest_71 rfl (s_aload_n (pc := 73) dX5_findBest_73 rfl (s_getI (pc := 74) dX5_findBest_74 f_X5_47 rfl h.1 (s_icmp_ge (pc := 77) (tgt := 153) dX5_findBest_77 rfl (fun c9 => have h10 := h.2.1 c9; s_return (pc := 153) dX5_findBest_153 rfl (Nat.zero_le _) (Nat.zero_le _) ⟨rfl, h10⟩) (fun c11 => have h12 := h.2.2 c11; s_aload_n (pc := 80) dX5_findBest_80 rfl (s_getR (pc := 81) dX5_findBest_81 f_X5_11 rfl h.1 (s_iload (pc := 84) dX5_findBest_84 rfl (s_ial (pc := 86) dX5_findBest_86 h12.1 h12.2.1 (s_iload_n (pc := 87) dX5_findBest_87 rfl (s_imul (pc := 88) dX5_findBest_88 (nmI (fun y13 e14 => have h15 := h12.2.2 y13 e14; s_istore (pc := 89) (L1 := [some (.ref x0), some (.ref x1), some (.int x2), none, some (.int x4), some (.int y13), none, none, none]) dX5_findBest_89 (Nat.le_of_ble_eq_true rfl) rfl (s_aload_n (pc := 91) dX5_findBest_91 rfl (s_getR (pc := 92) dX5_findBest_92 f_X5_15 rfl h.1 (s_iload (pc := 95) dX5_findBest_95 rfl (s_ial (pc := 97) dX5_findBest_97 h15.1 h15.2.1 (s_iload_n (pc := 98) dX5_findBest_98 rfl (s_imul (pc := 99) dX5_findBest_99 (nmI (fun y16 e17 => have h18 := h15.2.2 y16 e17; s_istore (pc := 100) (L1 := [some (.ref x0), some (.ref x1), some (.int x2), none, some (.int x4), some (.int y13), some (.int y16), none, none]) dX5_findBest_100 (Nat.le_of_ble_eq_true rfl) rfl (s_aload_n (pc := 102) dX5_findBest_102 rfl (s_aload_n (pc := 103) dX5_findBest_103 rfl (s_iload_n (pc := 104) dX5_findBest_104 rfl (s_iload (pc := 105) dX5_findBest_105 rfl (s_iload (pc := 107) dX5_findBest_107 rfl (s_callV (pc := 109) (As := [.ref x1, .int x2, .int y13, .int y16]) (rest := []) (d' := 4) (mc' := 0) (ms' := 0) dX5_findBest_109 c_X5_79 (Nat.le_of_ble_eq_true rfl) rfl h.1 rfl rfl (Nat.le_of_ble_eq_true rfl) (rm_ok rfl rfl) ⟨Nat.le_refl 0, Nat.le_refl 0⟩ (T_X5_twoHours h18) (kkJ (fun r21 M20 h19 => s_lstore (pc := 112) (L1 := [some (.ref x0), some (.ref x1), some (.int x2), none, some (.int x4), some (.int y13), some (.int y16), some (.long r21), none]) dX5_findBest_112 (Nat.le_of_ble_eq_true rfl) rfl (s_iload (pc := 114) dX5_findBest_114 rfl (s_if_eq (pc := 116) (tgt := 129) dX5_findBest_116 rfl (fun c22 => have h23 := h19.1 c22; s_sel (L1 := [some (.ref x0), some (.ref x1), some (.int x2), none, some (.int x4), some (.int y13), some (.int y16), some (.long r21), none]) [true, true, true, false, true, true, true, true, false] rfl (P_jn_X5_findBest_129 ih x0 x1 x2 x4 y13 y16 r21 M20 h23)) (fun c24 => have h25 := h19.2 c24; s_lload (pc := 119) dX5_findBest_119 rfl (s_aload_n (pc := 121) dX5_findBest_121 rfl (s_getJ (pc := 122) dX5_findBest_122 f_X5_76 rfl h25.1 (s_lif_le (pc := 125) (tgt := 147) dX5_findBest_125 dX5_findBest_126 rfl (fun c35 => have h36 := h25.2.1 c35; s_sel (L1 := [some (.ref x0), some (.ref x1), some (.int x2), none, some (.int x4), none, none, none, none]) [true, true, true, false, true, false, false, false, false] rfl (P_jn_X5_findBest_147 ih x0 x1 x2 x4 M20 h36)) (fun c37 => have h38 := h25.2.2 c37; s_sel (L1 := [some (.ref x0), some (.ref x1), some (.int x2), none, some (.int x4), some (.int y13), some (.int y16), some (.long r21), none]) [true, true, true, false, true, true, true, true, false] rfl (P_jn_X5_findBest_129 ih x0 x1 x2 x4 y13 y16 r21 M20 h38))))))))))))))))))))))))))))))))))))
def wp_X5_findBest (p0 : Nat) (p1 : Nat) (p2 : Int32) (p3 : Int32) (M : Mem) (Q : Mem → Prop) : Prop := mK M p0 = 6 ∧ wp_X5_list p0 p2 M (fun M2 => mK M2 p0 = 6 ∧ mK M2 (mR M2 p0 6) = 10 ∧ wp_X9_begin (mR M2 p0 6) p1 M2 (fun M4 => (¬ p3 = (1 : Int32) → ∃ n39 : Nat, lp_X5_findBest_71 Q n39 p0 p1 p2 0 M4) ∧ (p3 = (1 : Int32) → mK M4 p0 = 6 ∧ wp_X5_pick p0 p1 p2 (mR M4 p0 6) 0 M4 (fun M41 => mK M41 p0 = 6 ∧ mK M41 (mR M41 p0 4) = 20 ∧ vp_in (mI M41 p0 10) (mN M41 (mR M41 p0 4)) ∧ ∀ M42 : Mem, M42 = uI M41 p0 0 ((mI M41 (mR M41 p0 4) (mI M41 p0 10).toNatClampNeg) * p2) → mK M42 (mR M42 p0 5) = 20 ∧ vp_in (mI M42 p0 10) (mN M42 (mR M42 p0 5)) ∧ ∀ M45 : Mem, M45 = uI M42 p0 1 ((mI M42 (mR M42 p0 5) (mI M42 p0 10).toNatClampNeg) * p2) → ∀ M48 : Mem, M48 = uJ M45 p0 2 (mJ M45 p0 11) → Q M48))))
theorem T_X5_findBest {G : GG} {Q : Mem → Prop} {M : Mem} {p0 : Nat} {p1 : Nat} {p2 : Int32} {p3 : Int32} (h : wp_X5_findBest p0 p1 p2 p3 M Q) : PMet G mX5_findBest 5 0 0 [.ref p0, .ref p1, .int p2, .int p3] M (QV Q) :=
  mk_met (by decide) rfl rfl (by
    intro w hw x9 e9
    subst e9
    simp at hw) (Nat.le_of_ble_eq_true rfl) (s_pad (L1 := [some (.ref p0), some (.ref p1), some (.int p2), some (.int p3), none, none, none, none, none]) 9 rfl (s_aload_n (pc := 0) dX5_findBest_0 rfl (s_iload_n (pc := 1) dX5_findBest_1 rfl (s_callV (pc := 2) (As := [.int p2]) (rest := []) (d' := 1) (mc' := 0) (ms' := 0) dX5_findBest_2 c_X5_51 (Nat.le_of_ble_eq_true rfl) rfl h.1 rfl rfl (Nat.le_of_ble_eq_true rfl) (rm_ok rfl rfl) ⟨Nat.le_refl 0, Nat.le_refl 0⟩ (T_X5_list h.2) (kkV (fun M2 h1 => s_aload_n (pc := 5) dX5_findBest_5 rfl (s_getR (pc := 6) dX5_findBest_6 f_X5_21 rfl h1.1 (s_aload_n (pc := 9) dX5_findBest_9 rfl (s_callV (pc := 10) (As := [.ref p1]) (rest := []) (d' := 0) (mc' := 0) (ms' := 0) dX5_findBest_10 c_X5_55 (Nat.le_of_ble_eq_true rfl) rfl h1.2.1 rfl rfl (Nat.le_of_ble_eq_true rfl) (rm_ok rfl rfl) ⟨Nat.le_refl 0, Nat.le_refl 0⟩ (T_X9_begin h1.2.2) (kkV (fun M4 h3 => s_iload_n (pc := 13) dX5_findBest_13 rfl (s_iconst (pc := 14) dX5_findBest_14 ci_1 (s_icmp_ne (pc := 15) (tgt := 68) dX5_findBest_15 rfl (fun c5 => have h6 := h3.1 c5; s_iconst (pc := 68) dX5_findBest_68 ci_0 (s_istore (pc := 69) (L1 := [some (.ref p0), some (.ref p1), some (.int p2), some (.int p3), some (.int 0), none, none, none, none]) dX5_findBest_69 (Nat.le_of_ble_eq_true rfl) rfl (Exists.elim h6 (fun n39 hn => s_sel (L1 := [some (.ref p0), some (.ref p1), some (.int p2), none, some (.int 0), none, none, none, none]) [true, true, true, false, true, false, false, false, false] rfl (P_lp_X5_findBest_71 n39 p0 p1 p2 0 M4 hn))))) (fun c7 => have h8 := h3.2 c7; s_aload_n (pc := 18) dX5_findBest_18 rfl (s_aload_n (pc := 19) dX5_findBest_19 rfl (s_iload_n (pc := 20) dX5_findBest_20 rfl (s_aload_n (pc := 21) dX5_findBest_21 rfl (s_getR (pc := 22) dX5_findBest_22 f_X5_21 rfl h8.1 (s_iconst (pc := 25) dX5_findBest_25 ci_0 (s_callV (pc := 26) (As := [.ref p1, .int p2, .ref (mR M4 p0 6), .int 0]) (rest := []) (d' := 3) (mc' := 0) (ms' := 0) dX5_findBest_26 c_X5_59 (Nat.le_of_ble_eq_true rfl) rfl h8.1 rfl rfl (Nat.le_of_ble_eq_true rfl) (rm_ok rfl rfl) ⟨Nat.le_refl 0, Nat.le_refl 0⟩ (T_X5_pick h8.2) (kkV (fun M41 h40 => s_aload_n (pc := 29) dX5_findBest_29 rfl (s_aload_n (pc := 30) dX5_findBest_30 rfl (s_getR (pc := 31) dX5_findBest_31 f_X5_11 rfl h40.1 (s_aload_n (pc := 34) dX5_findBest_34 rfl (s_getI (pc := 35) dX5_findBest_35 f_X5_63 rfl h40.1 (s_ial (pc := 38) dX5_findBest_38 h40.2.1 h40.2.2.1 (s_iload_n (pc := 39) dX5_findBest_39 rfl (s_imul (pc := 40) dX5_findBest_40 (s_putI (pc := 41) dX5_findBest_41 f_X5_66 (Or.inl rfl) (Or.inl rfl) h40.1 (nmM (fun M42 e43 => have h44 := h40.2.2.2 M42 e43; s_aload_n (pc := 44) dX5_findBest_44 rfl (s_aload_n (pc := 45) dX5_findBest_45 rfl (s_getR (pc := 46) dX5_findBest_46 f_X5_15 rfl ((congrFun (congrArg mK e43) p0).trans h40.1) (s_aload_n (pc := 49) dX5_findBest_49 rfl (s_getI (pc := 50) dX5_findBest_50 f_X5_63 rfl ((congrFun (congrArg mK e43) p0).trans h40.1) (s_ial (pc := 53) dX5_findBest_53 h44.1 h44.2.1 (s_iload_n (pc := 54) dX5_findBest_54 rfl (s_imul (pc := 55) dX5_findBest_55 (s_putI (pc := 56) dX5_findBest_56 f_X5_69 (Or.inl rfl) (Or.inl rfl) ((congrFun (congrArg mK e43) p0).trans h40.1) (nmM (fun M45 e46 => have h47 := h44.2.2 M45 e46; s_aload_n (pc := 59) dX5_findBest_59 rfl (s_aload_n (pc := 60) dX5_findBest_60 rfl (s_getJ (pc := 61) dX5_findBest_61 f_X5_72 rfl ((congrFun (congrArg mK e46) p0).trans ((congrFun (congrArg mK e43) p0).trans h40.1)) (s_putJ (pc := 64) dX5_findBest_64 f_X5_76 (Or.inl rfl) rfl ((congrFun (congrArg mK e46) p0).trans ((congrFun (congrArg mK e43) p0).trans h40.1)) (nmM (fun M48 e49 => have h50 := h47 M48 e49; s_return (pc := 67) dX5_findBest_67 rfl (Nat.zero_le _) (Nat.zero_le _) ⟨rfl, h50⟩)))))))))))))))))))))))))))))))))))))))))))))))
/-! X12_best -/
theorem dX12_best_0 : cod mX12_best 0 (.iload_n 1) 1 := by decide +kernel
theorem dX12_best_1 : cod mX12_best 1 (.bipush 10) 2 := by decide +kernel
theorem dX12_best_3 : cod mX12_best 3 (.if_icmp .lt 28) 3 := by decide +kernel
theorem dX12_best_6 : cod mX12_best 6 (.iload_n 1) 1 := by decide +kernel
theorem dX12_best_7 : cod mX12_best 7 (.bipush 50) 2 := by decide +kernel
theorem dX12_best_9 : cod mX12_best 9 (.if_icmp .gt 22) 3 := by decide +kernel
theorem dX12_best_12 : cod mX12_best 12 (.iload_n 2) 1 := by decide +kernel
theorem dX12_best_13 : cod mX12_best 13 (.iconst 1) 1 := by decide +kernel
theorem dX12_best_14 : cod mX12_best 14 (.if_icmp .lt 17) 3 := by decide +kernel
theorem dX12_best_17 : cod mX12_best 17 (.iload_n 2) 1 := by decide +kernel
theorem dX12_best_18 : cod mX12_best 18 (.iconst 2) 1 := by decide +kernel
theorem dX12_best_19 : cod mX12_best 19 (.if_icmp .gt 12) 3 := by decide +kernel
theorem dX12_best_22 : cod mX12_best 22 (.iload_n 3) 1 := by decide +kernel
theorem dX12_best_23 : cod mX12_best 23 (.ifCond .lt 8) 3 := by decide +kernel
theorem dX12_best_26 : cod mX12_best 26 (.iload_n 3) 1 := by decide +kernel
theorem dX12_best_27 : cod mX12_best 27 (.iconst 2) 1 := by decide +kernel
theorem dX12_best_28 : cod mX12_best 28 (.if_icmp .le 7) 3 := by decide +kernel
theorem dX12_best_31 : cod mX12_best 31 (.ldc2_w 147) 3 := by decide +kernel
theorem dX12_best_34 : cod mX12_best 34 (.lreturn) 1 := by decide +kernel
theorem dX12_best_35 : cod mX12_best 35 (.aload_n 0) 1 := by decide +kernel
theorem dX12_best_36 : cod mX12_best 36 (.getfield 10) 3 := by decide +kernel
theorem dX12_best_39 : cod mX12_best 39 (.invokevirtual 132) 3 := by decide +kernel
theorem dX12_best_42 : cod mX12_best 42 (.ifCond .ne 7) 3 := by decide +kernel
theorem dX12_best_45 : cod mX12_best 45 (.ldc2_w 149) 3 := by decide +kernel
theorem dX12_best_48 : cod mX12_best 48 (.lreturn) 1 := by decide +kernel
theorem dX12_best_49 : cod mX12_best 49 (.aload_n 0) 1 := by decide +kernel
theorem dX12_best_50 : cod mX12_best 50 (.getfield 59) 3 := by decide +kernel
theorem dX12_best_53 : cod mX12_best 53 (.aload_n 0) 1 := by decide +kernel
theorem dX12_best_54 : cod mX12_best 54 (.getfield 10) 3 := by decide +kernel
theorem dX12_best_57 : cod mX12_best 57 (.iload_n 1) 1 := by decide +kernel
theorem dX12_best_58 : cod mX12_best 58 (.iload_n 2) 1 := by decide +kernel
theorem dX12_best_59 : cod mX12_best 59 (.invokevirtual 223) 3 := by decide +kernel
theorem dX12_best_62 : cod mX12_best 62 (.iload_n 3) 1 := by decide +kernel
theorem dX12_best_63 : cod mX12_best 63 (.ifCond .ne 14) 3 := by decide +kernel
theorem dX12_best_66 : cod mX12_best 66 (.aload_n 0) 1 := by decide +kernel
theorem dX12_best_67 : cod mX12_best 67 (.getfield 59) 3 := by decide +kernel
theorem dX12_best_70 : cod mX12_best 70 (.getfield 227) 3 := by decide +kernel
theorem dX12_best_73 : cod mX12_best 73 (.i2l) 1 := by decide +kernel
theorem dX12_best_74 : cod mX12_best 74 (.goto 26) 3 := by decide +kernel
theorem dX12_best_77 : cod mX12_best 77 (.iload_n 3) 1 := by decide +kernel
theorem dX12_best_78 : cod mX12_best 78 (.iconst 1) 1 := by decide +kernel
theorem dX12_best_79 : cod mX12_best 79 (.if_icmp .ne 14) 3 := by decide +kernel
theorem dX12_best_82 : cod mX12_best 82 (.aload_n 0) 1 := by decide +kernel
theorem dX12_best_83 : cod mX12_best 83 (.getfield 59) 3 := by decide +kernel
theorem dX12_best_86 : cod mX12_best 86 (.getfield 230) 3 := by decide +kernel
theorem dX12_best_89 : cod mX12_best 89 (.i2l) 1 := by decide +kernel
theorem dX12_best_90 : cod mX12_best 90 (.goto 10) 3 := by decide +kernel
theorem dX12_best_93 : cod mX12_best 93 (.aload_n 0) 1 := by decide +kernel
theorem dX12_best_94 : cod mX12_best 94 (.getfield 59) 3 := by decide +kernel
theorem dX12_best_97 : cod mX12_best 97 (.getfield 233) 3 := by decide +kernel
theorem dX12_best_100 : cod mX12_best 100 (.lreturn) 1 := by decide +kernel
def wp_X12_best (p0 : Nat) (p1 : Int32) (p2 : Int32) (p3 : Int32) (M : Mem) (Q : Int64 → Mem → Prop) : Prop := (p1 < (10 : Int32) → Q (-4000000000000000001) M) ∧ (¬ p1 < (10 : Int32) → ((50 : Int32) < p1 → Q (-4000000000000000001) M) ∧ (¬ (50 : Int32) < p1 → (p2 < (1 : Int32) → Q (-4000000000000000001) M) ∧ (¬ p2 < (1 : Int32) → ((2 : Int32) < p2 → Q (-4000000000000000001) M) ∧ (¬ (2 : Int32) < p2 → (p3 < (0 : Int32) → Q (-4000000000000000001) M) ∧ (¬ p3 < (0 : Int32) → (p3 ≤ (2 : Int32) → mK M p0 = 13 ∧ mK M (mR M p0 0) = 7 ∧ wp_X6_isReady (mR M p0 0) M (fun r27 M26 => (¬ r27 = (0 : Int32) → mK M26 p0 = 13 ∧ mK M26 (mR M26 p0 10) = 6 ∧ wp_X5_findBest (mR M26 p0 10) (mR M26 p0 0) p1 p2 M26 (fun M33 => (¬ p3 = (0 : Int32) → (¬ p3 = (1 : Int32) → mK M33 p0 = 13 ∧ mK M33 (mR M33 p0 10) = 6 ∧ Q (mJ M33 (mR M33 p0 10) 2) M33) ∧ (p3 = (1 : Int32) → mK M33 p0 = 13 ∧ mK M33 (mR M33 p0 10) = 6 ∧ Q ((mI M33 (mR M33 p0 10) 1).toInt64) M33)) ∧ (p3 = (0 : Int32) → mK M33 p0 = 13 ∧ mK M33 (mR M33 p0 10) = 6 ∧ Q ((mI M33 (mR M33 p0 10) 0).toInt64) M33))) ∧ (r27 = (0 : Int32) → Q (-4000000000000000003) M26))) ∧ (¬ p3 ≤ (2 : Int32) → Q (-4000000000000000001) M))))))
theorem T_X12_best {G : GG} {Q : Int64 → Mem → Prop} {M : Mem} {p0 : Nat} {p1 : Int32} {p2 : Int32} {p3 : Int32} (h : wp_X12_best p0 p1 p2 p3 M Q) : PMet G mX12_best 6 0 0 [.ref p0, .int p1, .int p2, .int p3] M (QJ Q) :=
  mk_met (by decide) rfl rfl (by
    intro w hw x9 e9
    subst e9
    simp at hw) (Nat.le_of_ble_eq_true rfl) (s_pad (L1 := [some (.ref p0), some (.int p1), some (.int p2), some (.int p3)]) 4 rfl (s_iload_n (pc := 0) dX12_best_0 rfl (s_bipush (pc := 1) dX12_best_1 cb_10 (s_icmp_lt (pc := 3) (tgt := 31) dX12_best_3 rfl (fun c1 => have h2 := h.1 c1; s_ldc2 (pc := 31) dX12_best_31 k_X12_147 (s_lreturn (pc := 34) dX12_best_34 rfl (Nat.zero_le _) (Nat.zero_le _) ⟨_, rfl, h2⟩)) (fun c3 => have h4 := h.2 c3; s_iload_n (pc := 6) dX12_best_6 rfl (s_bipush (pc := 7) dX12_best_7 cb_50 (s_icmp_gt (pc := 9) (tgt := 31) dX12_best_9 rfl (fun c5 => have h6 := h4.1 c5; s_ldc2 (pc := 31) dX12_best_31 k_X12_147 (s_lreturn (pc := 34) dX12_best_34 rfl (Nat.zero_le _) (Nat.zero_le _) ⟨_, rfl, h6⟩)) (fun c7 => have h8 := h4.2 c7; s_iload_n (pc := 12) dX12_best_12 rfl (s_iconst (pc := 13) dX12_best_13 ci_1 (s_icmp_lt (pc := 14) (tgt := 31) dX12_best_14 rfl (fun c9 => have h10 := h8.1 c9; s_ldc2 (pc := 31) dX12_best_31 k_X12_147 (s_lreturn (pc := 34) dX12_best_34 rfl (Nat.zero_le _) (Nat.zero_le _) ⟨_, rfl, h10⟩)) (fun c11 => have h12 := h8.2 c11; s_iload_n (pc := 17) dX12_best_17 rfl (s_iconst (pc := 18) dX12_best_18 ci_2 (s_icmp_gt (pc := 19) (tgt := 31) dX12_best_19 rfl (fun c13 => have h14 := h12.1 c13; s_ldc2 (pc := 31) dX12_best_31 k_X12_147 (s_lreturn (pc := 34) dX12_best_34 rfl (Nat.zero_le _) (Nat.zero_le _) ⟨_, rfl, h14⟩)) (fun c15 => have h16 := h12.2 c15; s_iload_n (pc := 22) dX12_best_22 rfl (s_if_lt (pc := 23) (tgt := 31) dX12_best_23 rfl (fun c17 => have h18 := h16.1 c17; s_ldc2 (pc := 31) dX12_best_31 k_X12_147 (s_lreturn (pc := 34) dX12_best_34 rfl (Nat.zero_le _) (Nat.zero_le _) ⟨_, rfl, h18⟩)) (fun c19 => have h20 := h16.2 c19; s_iload_n (pc := 26) dX12_best_26 rfl (s_iconst (pc := 27) dX12_best_27 ci_2 (s_icmp_le (pc := 28) (tgt := 35) dX12_best_28 rfl (fun c21 => have h22 := h20.1 c21; s_aload_n (pc := 35) dX12_best_35 rfl (s_getR (pc := 36) dX12_best_36 f_X12_10 rfl h22.1 (s_callV (pc := 39) (As := []) (rest := []) (d' := 1) (mc' := 0) (ms' := 0) dX12_best_39 c_X12_132 (Nat.le_of_ble_eq_true rfl) rfl h22.2.1 rfl rfl (Nat.le_of_ble_eq_true rfl) (rm_ok rfl rfl) ⟨Nat.le_refl 0, Nat.le_refl 0⟩ (T_X6_isReady h22.2.2) (kkI (fun r27 M26 h25 => s_if_ne (pc := 42) (tgt := 49) dX12_best_42 rfl (fun c28 => have h29 := h25.1 c28; s_aload_n (pc := 49) dX12_best_49 rfl (s_getR (pc := 50) dX12_best_50 f_X12_59 rfl h29.1 (s_aload_n (pc := 53) dX12_best_53 rfl (s_getR (pc := 54) dX12_best_54 f_X12_10 rfl h29.1 (s_iload_n (pc := 57) dX12_best_57 rfl (s_iload_n (pc := 58) dX12_best_58 rfl (s_callV (pc := 59) (As := [.ref (mR M26 p0 0), .int p1, .int p2]) (rest := []) (d' := 5) (mc' := 0) (ms' := 0) dX12_best_59 c_X12_223 (Nat.le_of_ble_eq_true rfl) rfl h29.2.1 rfl rfl (Nat.le_of_ble_eq_true rfl) (rm_ok rfl rfl) ⟨Nat.le_refl 0, Nat.le_refl 0⟩ (T_X5_findBest h29.2.2) (kkV (fun M33 h32 => s_iload_n (pc := 62) dX12_best_62 rfl (s_if_ne (pc := 63) (tgt := 77) dX12_best_63 rfl (fun c34 => have h35 := h32.1 c34; s_iload_n (pc := 77) dX12_best_77 rfl (s_iconst (pc := 78) dX12_best_78 ci_1 (s_icmp_ne (pc := 79) (tgt := 93) dX12_best_79 rfl (fun c38 => have h39 := h35.1 c38; s_aload_n (pc := 93) dX12_best_93 rfl (s_getR (pc := 94) dX12_best_94 f_X12_59 rfl h39.1 (s_getJ (pc := 97) dX12_best_97 f_X12_233 rfl h39.2.1 (s_lreturn (pc := 100) dX12_best_100 rfl (Nat.zero_le _) (Nat.zero_le _) ⟨_, rfl, h39.2.2⟩)))) (fun c40 => have h41 := h35.2 c40; s_aload_n (pc := 82) dX12_best_82 rfl (s_getR (pc := 83) dX12_best_83 f_X12_59 rfl h41.1 (s_getI (pc := 86) dX12_best_86 f_X12_230 rfl h41.2.1 (s_i2l (pc := 89) dX12_best_89 (s_goto (pc := 90) (tgt := 100) dX12_best_90 rfl (s_lreturn (pc := 100) dX12_best_100 rfl (Nat.zero_le _) (Nat.zero_le _) ⟨_, rfl, h41.2.2⟩))))))))) (fun c36 => have h37 := h32.2 c36; s_aload_n (pc := 66) dX12_best_66 rfl (s_getR (pc := 67) dX12_best_67 f_X12_59 rfl h37.1 (s_getI (pc := 70) dX12_best_70 f_X12_227 rfl h37.2.1 (s_i2l (pc := 73) dX12_best_73 (s_goto (pc := 74) (tgt := 100) dX12_best_74 rfl (s_lreturn (pc := 100) dX12_best_100 rfl (Nat.zero_le _) (Nat.zero_le _) ⟨_, rfl, h37.2.2⟩)))))))))))))))) (fun c30 => have h31 := h25.2 c30; s_ldc2 (pc := 45) dX12_best_45 k_X12_149 (s_lreturn (pc := 48) dX12_best_48 rfl (Nat.zero_le _) (Nat.zero_le _) ⟨_, rfl, h31⟩))))))) (fun c23 => have h24 := h20.2 c23; s_ldc2 (pc := 31) dX12_best_31 k_X12_147 (s_lreturn (pc := 34) dX12_best_34 rfl (Nat.zero_le _) (Nat.zero_le _) ⟨_, rfl, h24⟩))))))))))))))))))))
/-! X12_isFigure -/
theorem dX12_isFigure_0 : cod mX12_isFigure 0 (.iload_n 0) 1 := by decide +kernel
theorem dX12_isFigure_1 : cod mX12_isFigure 1 (.ifCond .lt 13) 3 := by decide +kernel
theorem dX12_isFigure_4 : cod mX12_isFigure 4 (.iload_n 0) 1 := by decide +kernel
theorem dX12_isFigure_5 : cod mX12_isFigure 5 (.bipush 49) 2 := by decide +kernel
theorem dX12_isFigure_7 : cod mX12_isFigure 7 (.if_icmp .gt 7) 3 := by decide +kernel
theorem dX12_isFigure_10 : cod mX12_isFigure 10 (.iconst 1) 1 := by decide +kernel
theorem dX12_isFigure_11 : cod mX12_isFigure 11 (.goto 4) 3 := by decide +kernel
theorem dX12_isFigure_14 : cod mX12_isFigure 14 (.iconst 0) 1 := by decide +kernel
theorem dX12_isFigure_15 : cod mX12_isFigure 15 (.ireturn) 1 := by decide +kernel
def wp_X12_isFigure (p0 : Int32) (M : Mem) (Q : Int32 → Mem → Prop) : Prop := (p0 < (0 : Int32) → Q 0 M) ∧ (¬ p0 < (0 : Int32) → ((49 : Int32) < p0 → Q 0 M) ∧ (¬ (49 : Int32) < p0 → Q 1 M))
theorem T_X12_isFigure {G : GG} {Q : Int32 → Mem → Prop} {M : Mem} {p0 : Int32} (h : wp_X12_isFigure p0 M Q) : PMet G mX12_isFigure 0 0 0 [.int p0] M (QI Q) :=
  mk_met (by decide) rfl rfl (by
    intro w hw x9 e9
    subst e9
    simp at hw) (Nat.le_of_ble_eq_true rfl) (s_pad (L1 := [some (.int p0)]) 1 rfl (s_iload_n (pc := 0) dX12_isFigure_0 rfl (s_if_lt (pc := 1) (tgt := 14) dX12_isFigure_1 rfl (fun c1 => have h2 := h.1 c1; s_iconst (pc := 14) dX12_isFigure_14 ci_0 (s_zreturn (pc := 15) dX12_isFigure_15 rfl (Or.inl rfl) (Nat.zero_le _) (Nat.zero_le _) ⟨_, rfl, h2⟩)) (fun c3 => have h4 := h.2 c3; s_iload_n (pc := 4) dX12_isFigure_4 rfl (s_bipush (pc := 5) dX12_isFigure_5 cb_49 (s_icmp_gt (pc := 7) (tgt := 14) dX12_isFigure_7 rfl (fun c5 => have h6 := h4.1 c5; s_iconst (pc := 14) dX12_isFigure_14 ci_0 (s_zreturn (pc := 15) dX12_isFigure_15 rfl (Or.inl rfl) (Nat.zero_le _) (Nat.zero_le _) ⟨_, rfl, h6⟩)) (fun c7 => have h8 := h4.2 c7; s_iconst (pc := 10) dX12_isFigure_10 ci_1 (s_goto (pc := 11) (tgt := 15) dX12_isFigure_11 rfl (s_zreturn (pc := 15) dX12_isFigure_15 rfl (Or.inr rfl) (Nat.zero_le _) (Nat.zero_le _) ⟨_, rfl, h8⟩)))))))))
/-! X12_bytesOn -/
theorem dX12_bytesOn_0 : cod mX12_bytesOn 0 (.iload_n 1) 1 := by decide +kernel
theorem dX12_bytesOn_1 : cod mX12_bytesOn 1 (.invokestatic 295) 3 := by decide +kernel
theorem dX12_bytesOn_4 : cod mX12_bytesOn 4 (.ifCond .eq 24) 3 := by decide +kernel
theorem dX12_bytesOn_7 : cod mX12_bytesOn 7 (.aload_n 0) 1 := by decide +kernel
theorem dX12_bytesOn_8 : cod mX12_bytesOn 8 (.getfield 37) 3 := by decide +kernel
theorem dX12_bytesOn_11 : cod mX12_bytesOn 11 (.iload_n 1) 1 := by decide +kernel
theorem dX12_bytesOn_12 : cod mX12_bytesOn 12 (.aaload) 1 := by decide +kernel
theorem dX12_bytesOn_13 : cod mX12_bytesOn 13 (.getfield 340) 3 := by decide +kernel
theorem dX12_bytesOn_16 : cod mX12_bytesOn 16 (.ifCond .ne 12) 3 := by decide +kernel
theorem dX12_bytesOn_19 : cod mX12_bytesOn 19 (.aload_n 0) 1 := by decide +kernel
theorem dX12_bytesOn_20 : cod mX12_bytesOn 20 (.getfield 37) 3 := by decide +kernel
theorem dX12_bytesOn_23 : cod mX12_bytesOn 23 (.iload_n 1) 1 := by decide +kernel
theorem dX12_bytesOn_24 : cod mX12_bytesOn 24 (.aaload) 1 := by decide +kernel
theorem dX12_bytesOn_25 : cod mX12_bytesOn 25 (.goto 4) 3 := by decide +kernel
theorem dX12_bytesOn_28 : cod mX12_bytesOn 28 (.aconst_null) 1 := by decide +kernel
theorem dX12_bytesOn_29 : cod mX12_bytesOn 29 (.areturn) 1 := by decide +kernel
def wp_X12_bytesOn (p0 : Nat) (p1 : Int32) (M : Mem) (Q : Nat → Mem → Prop) : Prop := wp_X12_isShelf p1 M (fun r3 M2 => (r3 = (0 : Int32) → Q 0 M2) ∧ (¬ r3 = (0 : Int32) → mK M2 p0 = 13 ∧ mK M2 (mR M2 p0 7) = 24 ∧ vp_in p1 (mN M2 (mR M2 p0 7)) ∧ mK M2 (mR M2 (mR M2 p0 7) p1.toNatClampNeg) = 5 ∧ (¬ (mI M2 (mR M2 (mR M2 p0 7) p1.toNatClampNeg) 1) = (0 : Int32) → Q 0 M2) ∧ ((mI M2 (mR M2 (mR M2 p0 7) p1.toNatClampNeg) 1) = (0 : Int32) → vp_in p1 (mN M2 (mR M2 p0 7)) ∧ Q (mR M2 (mR M2 p0 7) p1.toNatClampNeg) M2)))
theorem T_X12_bytesOn {G : GG} {Q : Nat → Mem → Prop} {M : Mem} {p0 : Nat} {p1 : Int32} (h : wp_X12_bytesOn p0 p1 M Q) : PMet G mX12_bytesOn 1 0 0 [.ref p0, .int p1] M (QR Q) :=
  mk_met (by decide) rfl rfl (by
    intro w hw x9 e9
    subst e9
    simp at hw) (Nat.le_of_ble_eq_true rfl) (s_pad (L1 := [some (.ref p0), some (.int p1)]) 2 rfl (s_iload_n (pc := 0) dX12_bytesOn_0 rfl (s_callS (pc := 1) (As := [.int p1]) (rest := []) (d' := 0) (mc' := 0) (ms' := 0) dX12_bytesOn_1 c_X12_295 rfl rfl (Nat.le_of_ble_eq_true rfl) (rm_ok rfl rfl) ⟨Nat.le_refl 0, Nat.le_refl 0⟩ (T_X12_isShelf h) (kkI (fun r3 M2 h1 => s_if_eq (pc := 4) (tgt := 28) dX12_bytesOn_4 rfl (fun c4 => have h5 := h1.1 c4; s_null (pc := 28) dX12_bytesOn_28 (s_areturn (pc := 29) dX12_bytesOn_29 rfl (Nat.zero_le _) (Nat.zero_le _) ⟨_, rfl, h5⟩)) (fun c6 => have h7 := h1.2 c6; s_aload_n (pc := 7) dX12_bytesOn_7 rfl (s_getR (pc := 8) dX12_bytesOn_8 f_X12_37 rfl h7.1 (s_iload_n (pc := 11) dX12_bytesOn_11 rfl (s_aal (pc := 12) (t := 4) dX12_bytesOn_12 (Nat.le_of_ble_eq_true rfl) (Nat.le_of_ble_eq_true rfl) h7.2.1 h7.2.2.1 (s_getI (pc := 13) dX12_bytesOn_13 f_X12_340 rfl h7.2.2.2.1 (s_if_ne (pc := 16) (tgt := 28) dX12_bytesOn_16 rfl (fun c8 => have h9 := h7.2.2.2.2.1 c8; s_null (pc := 28) dX12_bytesOn_28 (s_areturn (pc := 29) dX12_bytesOn_29 rfl (Nat.zero_le _) (Nat.zero_le _) ⟨_, rfl, h9⟩)) (fun c10 => have h11 := h7.2.2.2.2.2 c10; s_aload_n (pc := 19) dX12_bytesOn_19 rfl (s_getR (pc := 20) dX12_bytesOn_20 f_X12_37 rfl h7.1 (s_iload_n (pc := 23) dX12_bytesOn_23 rfl (s_aal (pc := 24) (t := 4) dX12_bytesOn_24 (Nat.le_of_ble_eq_true rfl) (Nat.le_of_ble_eq_true rfl) h7.2.1 h11.1 (s_goto (pc := 25) (tgt := 29) dX12_bytesOn_25 rfl (s_areturn (pc := 29) dX12_bytesOn_29 rfl (Nat.zero_le _) (Nat.zero_le _) ⟨_, rfl, h11.2⟩)))))))))))))))))
/-! X4_isEmpty -/
theorem dX4_isEmpty_0 : cod mX4_isEmpty 0 (.aload_n 0) 1 := by decide +kernel
theorem dX4_isEmpty_1 : cod mX4_isEmpty 1 (.getfield 19) 3 := by decide +kernel
theorem dX4_isEmpty_4 : cod mX4_isEmpty 4 (.ifnonnull 15) 3 := by decide +kernel
theorem dX4_isEmpty_7 : cod mX4_isEmpty 7 (.aload_n 0) 1 := by decide +kernel
theorem dX4_isEmpty_8 : cod mX4_isEmpty 8 (.getfield 11) 3 := by decide +kernel
theorem dX4_isEmpty_11 : cod mX4_isEmpty 11 (.iconst (-1)) 1 := by decide +kernel
theorem dX4_isEmpty_12 : cod mX4_isEmpty 12 (.if_icmp .ne 7) 3 := by decide +kernel
theorem dX4_isEmpty_15 : cod mX4_isEmpty 15 (.iconst 1) 1 := by decide +kernel
theorem dX4_isEmpty_16 : cod mX4_isEmpty 16 (.goto 4) 3 := by decide +kernel
theorem dX4_isEmpty_19 : cod mX4_isEmpty 19 (.iconst 0) 1 := by decide +kernel
theorem dX4_isEmpty_20 : cod mX4_isEmpty 20 (.ireturn) 1 := by decide +kernel
def wp_X4_isEmpty (p0 : Nat) (M : Mem) (Q : Int32 → Mem → Prop) : Prop := mK M p0 = 5 ∧ (¬ (mR M p0 0) = 0 → Q 0 M) ∧ ((mR M p0 0) = 0 → (¬ (mI M p0 1) = ((-1) : Int32) → Q 0 M) ∧ ((mI M p0 1) = ((-1) : Int32) → Q 1 M))
theorem T_X4_isEmpty {G : GG} {Q : Int32 → Mem → Prop} {M : Mem} {p0 : Nat} (h : wp_X4_isEmpty p0 M Q) : PMet G mX4_isEmpty 0 0 0 [.ref p0] M (QI Q) :=
  mk_met (by decide) rfl rfl (by
    intro w hw x9 e9
    subst e9
    simp at hw) (Nat.le_of_ble_eq_true rfl) (s_pad (L1 := [some (.ref p0)]) 1 rfl (s_aload_n (pc := 0) dX4_isEmpty_0 rfl (s_getR (pc := 1) dX4_isEmpty_1 f_X4_19 rfl h.1 (s_ifnonnull (pc := 4) (tgt := 19) dX4_isEmpty_4 rfl (fun c1 => have h2 := h.2.1 c1; s_iconst (pc := 19) dX4_isEmpty_19 ci_0 (s_zreturn (pc := 20) dX4_isEmpty_20 rfl (Or.inl rfl) (Nat.zero_le _) (Nat.zero_le _) ⟨_, rfl, h2⟩)) (fun c3 => have h4 := h.2.2 c3; s_aload_n (pc := 7) dX4_isEmpty_7 rfl (s_getI (pc := 8) dX4_isEmpty_8 f_X4_11 rfl h.1 (s_iconst (pc := 11) dX4_isEmpty_11 ci_m1 (s_icmp_ne (pc := 12) (tgt := 19) dX4_isEmpty_12 rfl (fun c5 => have h6 := h4.1 c5; s_iconst (pc := 19) dX4_isEmpty_19 ci_0 (s_zreturn (pc := 20) dX4_isEmpty_20 rfl (Or.inl rfl) (Nat.zero_le _) (Nat.zero_le _) ⟨_, rfl, h6⟩)) (fun c7 => have h8 := h4.2 c7; s_iconst (pc := 15) dX4_isEmpty_15 ci_1 (s_goto (pc := 16) (tgt := 20) dX4_isEmpty_16 rfl (s_zreturn (pc := 20) dX4_isEmpty_20 rfl (Or.inr rfl) (Nat.zero_le _) (Nat.zero_le _) ⟨_, rfl, h8⟩)))))))))))
/-! X12_whyNot -/
theorem dX12_whyNot_0 : cod mX12_whyNot 0 (.iload_n 1) 1 := by decide +kernel
theorem dX12_whyNot_1 : cod mX12_whyNot 1 (.invokestatic 295) 3 := by decide +kernel
theorem dX12_whyNot_4 : cod mX12_whyNot 4 (.ifCond .ne 5) 3 := by decide +kernel
theorem dX12_whyNot_7 : cod mX12_whyNot 7 (.iconst (-1)) 1 := by decide +kernel
theorem dX12_whyNot_8 : cod mX12_whyNot 8 (.ireturn) 1 := by decide +kernel
theorem dX12_whyNot_9 : cod mX12_whyNot 9 (.aload_n 0) 1 := by decide +kernel
theorem dX12_whyNot_10 : cod mX12_whyNot 10 (.getfield 37) 3 := by decide +kernel
theorem dX12_whyNot_13 : cod mX12_whyNot 13 (.iload_n 1) 1 := by decide +kernel
theorem dX12_whyNot_14 : cod mX12_whyNot 14 (.aaload) 1 := by decide +kernel
theorem dX12_whyNot_15 : cod mX12_whyNot 15 (.invokevirtual 337) 3 := by decide +kernel
theorem dX12_whyNot_18 : cod mX12_whyNot 18 (.ifCond .eq 8) 3 := by decide +kernel
theorem dX12_whyNot_21 : cod mX12_whyNot 21 (.bipush (-11)) 2 := by decide +kernel
theorem dX12_whyNot_23 : cod mX12_whyNot 23 (.goto 5) 3 := by decide +kernel
theorem dX12_whyNot_26 : cod mX12_whyNot 26 (.bipush (-12)) 2 := by decide +kernel
theorem dX12_whyNot_28 : cod mX12_whyNot 28 (.ireturn) 1 := by decide +kernel
def wp_X12_whyNot (p0 : Nat) (p1 : Int32) (M : Mem) (Q : Int32 → Mem → Prop) : Prop := wp_X12_isShelf p1 M (fun r3 M2 => (¬ r3 = (0 : Int32) → mK M2 p0 = 13 ∧ mK M2 (mR M2 p0 7) = 24 ∧ vp_in p1 (mN M2 (mR M2 p0 7)) ∧ mK M2 (mR M2 (mR M2 p0 7) p1.toNatClampNeg) = 5 ∧ wp_X4_isEmpty (mR M2 (mR M2 p0 7) p1.toNatClampNeg) M2 (fun r10 M9 => (r10 = (0 : Int32) → Q (-12) M9) ∧ (¬ r10 = (0 : Int32) → Q (-11) M9))) ∧ (r3 = (0 : Int32) → Q (-1) M2))
theorem T_X12_whyNot {G : GG} {Q : Int32 → Mem → Prop} {M : Mem} {p0 : Nat} {p1 : Int32} (h : wp_X12_whyNot p0 p1 M Q) : PMet G mX12_whyNot 1 0 0 [.ref p0, .int p1] M (QI Q) :=
  mk_met (by decide) rfl rfl (by
    intro w hw x9 e9
    subst e9
    simp at hw) (Nat.le_of_ble_eq_true rfl) (s_pad (L1 := [some (.ref p0), some (.int p1)]) 2 rfl (s_iload_n (pc := 0) dX12_whyNot_0 rfl (s_callS (pc := 1) (As := [.int p1]) (rest := []) (d' := 0) (mc' := 0) (ms' := 0) dX12_whyNot_1 c_X12_295 rfl rfl (Nat.le_of_ble_eq_true rfl) (rm_ok rfl rfl) ⟨Nat.le_refl 0, Nat.le_refl 0⟩ (T_X12_isShelf h) (kkI (fun r3 M2 h1 => s_if_ne (pc := 4) (tgt := 9) dX12_whyNot_4 rfl (fun c4 => have h5 := h1.1 c4; s_aload_n (pc := 9) dX12_whyNot_9 rfl (s_getR (pc := 10) dX12_whyNot_10 f_X12_37 rfl h5.1 (s_iload_n (pc := 13) dX12_whyNot_13 rfl (s_aal (pc := 14) (t := 4) dX12_whyNot_14 (Nat.le_of_ble_eq_true rfl) (Nat.le_of_ble_eq_true rfl) h5.2.1 h5.2.2.1 (s_callV (pc := 15) (As := []) (rest := []) (d' := 0) (mc' := 0) (ms' := 0) dX12_whyNot_15 c_X12_337 (Nat.le_of_ble_eq_true rfl) rfl h5.2.2.2.1 rfl rfl (Nat.le_of_ble_eq_true rfl) (rm_ok rfl rfl) ⟨Nat.le_refl 0, Nat.le_refl 0⟩ (T_X4_isEmpty h5.2.2.2.2) (kkI (fun r10 M9 h8 => s_if_eq (pc := 18) (tgt := 26) dX12_whyNot_18 rfl (fun c11 => have h12 := h8.1 c11; s_bipush (pc := 26) dX12_whyNot_26 cb_m12 (s_ireturn (pc := 28) dX12_whyNot_28 rfl (Nat.zero_le _) (Nat.zero_le _) ⟨_, rfl, h12⟩)) (fun c13 => have h14 := h8.2 c13; s_bipush (pc := 21) dX12_whyNot_21 cb_m11 (s_goto (pc := 23) (tgt := 28) dX12_whyNot_23 rfl (s_ireturn (pc := 28) dX12_whyNot_28 rfl (Nat.zero_le _) (Nat.zero_le _) ⟨_, rfl, h14⟩)))))))))) (fun c6 => have h7 := h1.2 c6; s_iconst (pc := 7) dX12_whyNot_7 ci_m1 (s_ireturn (pc := 8) dX12_whyNot_8 rfl (Nat.zero_le _) (Nat.zero_le _) ⟨_, rfl, h7⟩)))))))
/-! X4_allBelow -/
theorem dX4_allBelow_0 : cod mX4_allBelow 0 (.iconst 0) 1 := by decide +kernel
theorem dX4_allBelow_1 : cod mX4_allBelow 1 (.istore_n 2) 1 := by decide +kernel
theorem dX4_allBelow_2 : cod mX4_allBelow 2 (.iload_n 2) 1 := by decide +kernel
theorem dX4_allBelow_3 : cod mX4_allBelow 3 (.aload_n 0) 1 := by decide +kernel
theorem dX4_allBelow_4 : cod mX4_allBelow 4 (.getfield 23) 3 := by decide +kernel
theorem dX4_allBelow_7 : cod mX4_allBelow 7 (.if_icmp .ge 30) 3 := by decide +kernel
theorem dX4_allBelow_10 : cod mX4_allBelow 10 (.aload_n 0) 1 := by decide +kernel
theorem dX4_allBelow_11 : cod mX4_allBelow 11 (.getfield 15) 3 := by decide +kernel
theorem dX4_allBelow_14 : cod mX4_allBelow 14 (.iload_n 2) 1 := by decide +kernel
theorem dX4_allBelow_15 : cod mX4_allBelow 15 (.iaload) 1 := by decide +kernel
theorem dX4_allBelow_16 : cod mX4_allBelow 16 (.ifCond .lt 13) 3 := by decide +kernel
theorem dX4_allBelow_19 : cod mX4_allBelow 19 (.aload_n 0) 1 := by decide +kernel
theorem dX4_allBelow_20 : cod mX4_allBelow 20 (.getfield 15) 3 := by decide +kernel
theorem dX4_allBelow_23 : cod mX4_allBelow 23 (.iload_n 2) 1 := by decide +kernel
theorem dX4_allBelow_24 : cod mX4_allBelow 24 (.iaload) 1 := by decide +kernel
theorem dX4_allBelow_25 : cod mX4_allBelow 25 (.iload_n 1) 1 := by decide +kernel
theorem dX4_allBelow_26 : cod mX4_allBelow 26 (.if_icmp .lt 5) 3 := by decide +kernel
theorem dX4_allBelow_29 : cod mX4_allBelow 29 (.iconst 0) 1 := by decide +kernel
theorem dX4_allBelow_30 : cod mX4_allBelow 30 (.ireturn) 1 := by decide +kernel
theorem dX4_allBelow_31 : cod mX4_allBelow 31 (.iinc 2 1) 3 := by decide +kernel
theorem dX4_allBelow_34 : cod mX4_allBelow 34 (.goto (-32)) 3 := by decide +kernel
theorem dX4_allBelow_37 : cod mX4_allBelow 37 (.iconst 1) 1 := by decide +kernel
theorem dX4_allBelow_38 : cod mX4_allBelow 38 (.ireturn) 1 := by decide +kernel
def lp_X4_allBelow_2 (Q : Int32 → Mem → Prop) : Nat → Nat → Int32 → Int32 → Mem → Prop
  | 0 => fun _ _ _ _ => False
  | n + 1 => fun x0 x1 x2 M => mK M x0 = 5 ∧ ((mI M x0 2) ≤ x2 → Q 1 M) ∧ (¬ (mI M x0 2) ≤ x2 → mK M (mR M x0 3) = 20 ∧ vp_in x2 (mN M (mR M x0 3)) ∧ ((mI M (mR M x0 3) x2.toNatClampNeg) < (0 : Int32) → Q 0 M) ∧ (¬ (mI M (mR M x0 3) x2.toNatClampNeg) < (0 : Int32) → vp_in x2 (mN M (mR M x0 3)) ∧ ((mI M (mR M x0 3) x2.toNatClampNeg) < x1 → (lp_X4_allBelow_2 Q n) x0 x1 (x2 + 1) M) ∧ (¬ (mI M (mR M x0 3) x2.toNatClampNeg) < x1 → Q 0 M)))
theorem P_lp_X4_allBelow_2 {G : GG} {Q : Int32 → Mem → Prop} : ∀ (n : Nat) (x0 : Nat) (x1 : Int32) (x2 : Int32) (M : Mem), lp_X4_allBelow_2 Q n x0 x1 x2 M → PW G mX4_allBelow (rmD 0 0 0) (QI Q) 2 [some (.ref x0), some (.int x1), some (.int x2)] [] M 0 0 := by
  intro n
  induction n with
  | zero => intro x0 x1 x2 M h; exact h.elim
  | succ n ih =>
    intro x0 x1 x2 M h
    exact (s_iload_n (pc := 2) dX4_allBelow_2 rfl (s_aload_n (pc := 3) dX4_allBelow_3 rfl (s_getI (pc := 4) dX4_allBelow_4 f_X4_23 rfl h.1 (s_icmp_ge (pc := 7) (tgt := 37) dX4_allBelow_7 rfl (fun c1 => have h2 := h.2.1 c1; s_iconst (pc := 37) dX4_allBelow_37 ci_1 (s_zreturn (pc := 38) dX4_allBelow_38 rfl (Or.inr rfl) (Nat.zero_le _) (Nat.zero_le _) ⟨_, rfl, h2⟩)) (fun c3 => have h4 := h.2.2 c3; s_aload_n (pc := 10) dX4_allBelow_10 rfl (s_getR (pc := 11) dX4_allBelow_11 f_X4_15 rfl h.1 (s_iload_n (pc := 14) dX4_allBelow_14 rfl (s_ial (pc := 15) dX4_allBelow_15 h4.1 h4.2.1 (s_if_lt (pc := 16) (tgt := 29) dX4_allBelow_16 rfl (fun c5 => have h6 := h4.2.2.1 c5; s_iconst (pc := 29) dX4_allBelow_29 ci_0 (s_zreturn (pc := 30) dX4_allBelow_30 rfl (Or.inl rfl) (Nat.zero_le _) (Nat.zero_le _) ⟨_, rfl, h6⟩)) (fun c7 => have h8 := h4.2.2.2 c7; s_aload_n (pc := 19) dX4_allBelow_19 rfl (s_getR (pc := 20) dX4_allBelow_20 f_X4_15 rfl h.1 (s_iload_n (pc := 23) dX4_allBelow_23 rfl (s_ial (pc := 24) dX4_allBelow_24 h4.1 h8.1 (s_iload_n (pc := 25) dX4_allBelow_25 rfl (s_icmp_lt (pc := 26) (tgt := 31) dX4_allBelow_26 rfl (fun c9 => have h10 := h8.2.1 c9; s_iinc (pc := 31) (L1 := [some (.ref x0), some (.int x1), some (.int (x2 + 1))]) dX4_allBelow_31 rfl ci_1 (Nat.le_of_ble_eq_true rfl) rfl (s_goto (pc := 34) (tgt := 2) dX4_allBelow_34 rfl (s_sel (L1 := [some (.ref x0), some (.int x1), some (.int (x2 + 1))]) [true, true, true] rfl (ih x0 x1 (x2 + 1) M h10)))) (fun c11 => have h12 := h8.2.2 c11; s_iconst (pc := 29) dX4_allBelow_29 ci_0 (s_zreturn (pc := 30) dX4_allBelow_30 rfl (Or.inl rfl) (Nat.zero_le _) (Nat.zero_le _) ⟨_, rfl, h12⟩)))))))))))))))))
def wp_X4_allBelow (p0 : Nat) (p1 : Int32) (M : Mem) (Q : Int32 → Mem → Prop) : Prop := ∃ n13 : Nat, lp_X4_allBelow_2 Q n13 p0 p1 0 M
theorem T_X4_allBelow {G : GG} {Q : Int32 → Mem → Prop} {M : Mem} {p0 : Nat} {p1 : Int32} (h : wp_X4_allBelow p0 p1 M Q) : PMet G mX4_allBelow 0 0 0 [.ref p0, .int p1] M (QI Q) :=
  mk_met (by decide) rfl rfl (by
    intro w hw x9 e9
    subst e9
    simp at hw) (Nat.le_of_ble_eq_true rfl) (s_pad (L1 := [some (.ref p0), some (.int p1), none]) 3 rfl (s_iconst (pc := 0) dX4_allBelow_0 ci_0 (s_istore_n (pc := 1) (L1 := [some (.ref p0), some (.int p1), some (.int 0)]) dX4_allBelow_1 (Nat.le_of_ble_eq_true rfl) rfl (Exists.elim h (fun n13 hn => s_sel (L1 := [some (.ref p0), some (.int p1), some (.int 0)]) [true, true, true] rfl (P_lp_X4_allBelow_2 n13 p0 p1 0 M hn))))))
/-! X3_init -/
theorem dX3_init_0 : cod mX3_init 0 (.aload_n 0) 1 := by decide +kernel
theorem dX3_init_1 : cod mX3_init 1 (.iload_n 1) 1 := by decide +kernel
theorem dX3_init_2 : cod mX3_init 2 (.invokespecial 1) 3 := by decide +kernel
theorem dX3_init_5 : cod mX3_init 5 (.return_) 1 := by decide +kernel
def wp_X3_init (p0 : Nat) (p1 : Int32) (M : Mem) (Q : Mem → Prop) : Prop := ¬ p0 = 0 ∧ wp_X2_init p0 p1 M (fun M2 => Q M2)
theorem T_X3_init {G : GG} {Q : Mem → Prop} {M : Mem} {p0 : Nat} {p1 : Int32} (h : wp_X3_init p0 p1 M Q) : PMet G mX3_init 2 0 0 [.ref p0, .int p1] M (QV Q) :=
  mk_met (by decide) rfl rfl (by
    intro w hw x9 e9
    subst e9
    simp at hw) (Nat.le_of_ble_eq_true rfl) (s_pad (L1 := [some (.ref p0), some (.int p1)]) 2 rfl (s_aload_n (pc := 0) dX3_init_0 rfl (s_iload_n (pc := 1) dX3_init_1 rfl (s_callI (pc := 2) (As := [.int p1]) (rest := []) (d' := 1) (mc' := 0) (ms' := 0) dX3_init_2 c_X3_1 h.1 rfl rfl (Nat.le_of_ble_eq_true rfl) (rm_ok rfl rfl) ⟨Nat.le_refl 0, Nat.le_refl 0⟩ (T_X2_init h.2) (kkV (fun M2 h1 => s_return (pc := 5) dX3_init_5 rfl (Nat.zero_le _) (Nat.zero_le _) ⟨rfl, h1⟩))))))
/-! X8_init -/
theorem dX8_init_0 : cod mX8_init 0 (.aload_n 0) 1 := by decide +kernel
theorem dX8_init_1 : cod mX8_init 1 (.iload_n 1) 1 := by decide +kernel
theorem dX8_init_2 : cod mX8_init 2 (.invokespecial 1) 3 := by decide +kernel
theorem dX8_init_5 : cod mX8_init 5 (.return_) 1 := by decide +kernel
def wp_X8_init (p0 : Nat) (p1 : Int32) (M : Mem) (Q : Mem → Prop) : Prop := ¬ p0 = 0 ∧ wp_X11_init p0 p1 M (fun M2 => Q M2)
theorem T_X8_init {G : GG} {Q : Mem → Prop} {M : Mem} {p0 : Nat} {p1 : Int32} (h : wp_X8_init p0 p1 M Q) : PMet G mX8_init 1 0 0 [.ref p0, .int p1] M (QV Q) :=
  mk_met (by decide) rfl rfl (by
    intro w hw x9 e9
    subst e9
    simp at hw) (Nat.le_of_ble_eq_true rfl) (s_pad (L1 := [some (.ref p0), some (.int p1)]) 2 rfl (s_aload_n (pc := 0) dX8_init_0 rfl (s_iload_n (pc := 1) dX8_init_1 rfl (s_callI (pc := 2) (As := [.int p1]) (rest := []) (d' := 0) (mc' := 0) (ms' := 0) dX8_init_2 c_X8_1 h.1 rfl rfl (Nat.le_of_ble_eq_true rfl) (rm_ok rfl rfl) ⟨Nat.le_refl 0, Nat.le_refl 0⟩ (T_X11_init h.2) (kkV (fun M2 h1 => s_return (pc := 5) dX8_init_5 rfl (Nat.zero_le _) (Nat.zero_le _) ⟨rfl, h1⟩))))))
/-! X1_init -/
theorem dX1_init_0 : cod mX1_init 0 (.aload_n 0) 1 := by decide +kernel
theorem dX1_init_1 : cod mX1_init 1 (.iload_n 1) 1 := by decide +kernel
theorem dX1_init_2 : cod mX1_init 2 (.invokespecial 3) 3 := by decide +kernel
theorem dX1_init_5 : cod mX1_init 5 (.return_) 1 := by decide +kernel
def wp_X1_init (p0 : Nat) (p1 : Int32) (M : Mem) (Q : Mem → Prop) : Prop := ¬ p0 = 0 ∧ wp_X8_init p0 p1 M (fun M2 => Q M2)
theorem T_X1_init {G : GG} {Q : Mem → Prop} {M : Mem} {p0 : Nat} {p1 : Int32} (h : wp_X1_init p0 p1 M Q) : PMet G mX1_init 2 0 0 [.ref p0, .int p1] M (QV Q) :=
  mk_met (by decide) rfl rfl (by
    intro w hw x9 e9
    subst e9
    simp at hw) (Nat.le_of_ble_eq_true rfl) (s_pad (L1 := [some (.ref p0), some (.int p1)]) 2 rfl (s_aload_n (pc := 0) dX1_init_0 rfl (s_iload_n (pc := 1) dX1_init_1 rfl (s_callI (pc := 2) (As := [.int p1]) (rest := []) (d' := 1) (mc' := 0) (ms' := 0) dX1_init_2 c_X1_3 h.1 rfl rfl (Nat.le_of_ble_eq_true rfl) (rm_ok rfl rfl) ⟨Nat.le_refl 0, Nat.le_refl 0⟩ (T_X8_init h.2) (kkV (fun M2 h1 => s_return (pc := 5) dX1_init_5 rfl (Nat.zero_le _) (Nat.zero_le _) ⟨rfl, h1⟩))))))
/-! X12_wayOfKind -/
theorem dX12_wayOfKind_0 : cod mX12_wayOfKind 0 (.iload_n 0) 1 := by decide +kernel
theorem dX12_wayOfKind_1 : cod mX12_wayOfKind 1 (.tableswitch 80 1 5 #[35, 44, 53, 62, 71]) 35 := by decide +kernel
theorem dX12_wayOfKind_36 : cod mX12_wayOfKind 36 (.new 371) 3 := by decide +kernel
theorem dX12_wayOfKind_39 : cod mX12_wayOfKind 39 (.dup) 1 := by decide +kernel
theorem dX12_wayOfKind_40 : cod mX12_wayOfKind 40 (.iload_n 1) 1 := by decide +kernel
theorem dX12_wayOfKind_41 : cod mX12_wayOfKind 41 (.invokespecial 373) 3 := by decide +kernel
theorem dX12_wayOfKind_44 : cod mX12_wayOfKind 44 (.areturn) 1 := by decide +kernel
theorem dX12_wayOfKind_45 : cod mX12_wayOfKind 45 (.new 376) 3 := by decide +kernel
theorem dX12_wayOfKind_48 : cod mX12_wayOfKind 48 (.dup) 1 := by decide +kernel
theorem dX12_wayOfKind_49 : cod mX12_wayOfKind 49 (.iload_n 1) 1 := by decide +kernel
theorem dX12_wayOfKind_50 : cod mX12_wayOfKind 50 (.invokespecial 378) 3 := by decide +kernel
theorem dX12_wayOfKind_53 : cod mX12_wayOfKind 53 (.areturn) 1 := by decide +kernel
theorem dX12_wayOfKind_54 : cod mX12_wayOfKind 54 (.new 379) 3 := by decide +kernel
theorem dX12_wayOfKind_57 : cod mX12_wayOfKind 57 (.dup) 1 := by decide +kernel
theorem dX12_wayOfKind_58 : cod mX12_wayOfKind 58 (.iload_n 1) 1 := by decide +kernel
theorem dX12_wayOfKind_59 : cod mX12_wayOfKind 59 (.invokespecial 381) 3 := by decide +kernel
theorem dX12_wayOfKind_62 : cod mX12_wayOfKind 62 (.areturn) 1 := by decide +kernel
theorem dX12_wayOfKind_63 : cod mX12_wayOfKind 63 (.new 382) 3 := by decide +kernel
theorem dX12_wayOfKind_66 : cod mX12_wayOfKind 66 (.dup) 1 := by decide +kernel
theorem dX12_wayOfKind_67 : cod mX12_wayOfKind 67 (.iload_n 1) 1 := by decide +kernel
theorem dX12_wayOfKind_68 : cod mX12_wayOfKind 68 (.invokespecial 384) 3 := by decide +kernel
theorem dX12_wayOfKind_71 : cod mX12_wayOfKind 71 (.areturn) 1 := by decide +kernel
theorem dX12_wayOfKind_72 : cod mX12_wayOfKind 72 (.new 385) 3 := by decide +kernel
theorem dX12_wayOfKind_75 : cod mX12_wayOfKind 75 (.dup) 1 := by decide +kernel
theorem dX12_wayOfKind_76 : cod mX12_wayOfKind 76 (.iload_n 1) 1 := by decide +kernel
theorem dX12_wayOfKind_77 : cod mX12_wayOfKind 77 (.invokespecial 387) 3 := by decide +kernel
theorem dX12_wayOfKind_80 : cod mX12_wayOfKind 80 (.areturn) 1 := by decide +kernel
theorem dX12_wayOfKind_81 : cod mX12_wayOfKind 81 (.new 183) 3 := by decide +kernel
theorem dX12_wayOfKind_84 : cod mX12_wayOfKind 84 (.dup) 1 := by decide +kernel
theorem dX12_wayOfKind_85 : cod mX12_wayOfKind 85 (.iload_n 1) 1 := by decide +kernel
theorem dX12_wayOfKind_86 : cod mX12_wayOfKind 86 (.invokespecial 388) 3 := by decide +kernel
theorem dX12_wayOfKind_89 : cod mX12_wayOfKind 89 (.areturn) 1 := by decide +kernel
def wp_X12_wayOfKind (p0 : Int32) (p1 : Int32) (M : Mem) (Q : Nat → Mem → Prop) : Prop := ((p0.toInt < 1 ∨ 5 < p0.toInt) → (0 + 1 ≤ 1 ∧ 0 + 1 ≤ 1) ∧ ∀ a3 : Nat, a3 = mT M → ∀ M6 : Mem, M6 = nw M 12 0 → ((0 + 1) + 0 ≤ 1 ∧ (0 + 1) + 0 ≤ 1) ∧ wp_X11_init a3 p1 M6 (fun M10 => (((0 + 1) + 0) ≤ 1 ∧ ((0 + 1) + 0) ≤ 1) ∧ Q a3 M10)) ∧ (p0 = 1 → (0 + 1 ≤ 1 ∧ 0 + 1 ≤ 1) ∧ ∀ a13 : Nat, a13 = mT M → ∀ M16 : Mem, M16 = nw M 3 0 → ((0 + 1) + 0 ≤ 1 ∧ (0 + 1) + 0 ≤ 1) ∧ wp_X2_init a13 p1 M16 (fun M20 => (((0 + 1) + 0) ≤ 1 ∧ ((0 + 1) + 0) ≤ 1) ∧ Q a13 M20)) ∧ (p0 = 2 → (0 + 1 ≤ 1 ∧ 0 + 1 ≤ 1) ∧ ∀ a23 : Nat, a23 = mT M → ∀ M26 : Mem, M26 = nw M 4 0 → ((0 + 1) + 0 ≤ 1 ∧ (0 + 1) + 0 ≤ 1) ∧ wp_X3_init a23 p1 M26 (fun M30 => (((0 + 1) + 0) ≤ 1 ∧ ((0 + 1) + 0) ≤ 1) ∧ Q a23 M30)) ∧ (p0 = 3 → (0 + 1 ≤ 1 ∧ 0 + 1 ≤ 1) ∧ ∀ a33 : Nat, a33 = mT M → ∀ M36 : Mem, M36 = nw M 9 0 → ((0 + 1) + 0 ≤ 1 ∧ (0 + 1) + 0 ≤ 1) ∧ wp_X8_init a33 p1 M36 (fun M40 => (((0 + 1) + 0) ≤ 1 ∧ ((0 + 1) + 0) ≤ 1) ∧ Q a33 M40)) ∧ (p0 = 4 → (0 + 1 ≤ 1 ∧ 0 + 1 ≤ 1) ∧ ∀ a43 : Nat, a43 = mT M → ∀ M46 : Mem, M46 = nw M 2 0 → ((0 + 1) + 0 ≤ 1 ∧ (0 + 1) + 0 ≤ 1) ∧ wp_X1_init a43 p1 M46 (fun M50 => (((0 + 1) + 0) ≤ 1 ∧ ((0 + 1) + 0) ≤ 1) ∧ Q a43 M50)) ∧ (p0 = 5 → (0 + 1 ≤ 1 ∧ 0 + 1 ≤ 1) ∧ ∀ a53 : Nat, a53 = mT M → ∀ M56 : Mem, M56 = nw M 11 0 → ((0 + 1) + 0 ≤ 1 ∧ (0 + 1) + 0 ≤ 1) ∧ wp_X10_init a53 p1 M56 (fun M60 => (((0 + 1) + 0) ≤ 1 ∧ ((0 + 1) + 0) ≤ 1) ∧ Q a53 M60))
theorem T_X12_wayOfKind {G : GG} {Q : Nat → Mem → Prop} {M : Mem} {p0 : Int32} {p1 : Int32} (h : wp_X12_wayOfKind p0 p1 M Q) : PMet G mX12_wayOfKind 3 1 1 [.int p0, .int p1] M (QR Q) :=
  mk_met (by decide) rfl rfl (by
    intro w hw x9 e9
    subst e9
    simp at hw) (Nat.le_of_ble_eq_true rfl) (s_pad (L1 := [some (.int p0), some (.int p1)]) 2 rfl (s_iload_n (pc := 0) dX12_wayOfKind_0 rfl (s_ts (pc := 1) (tgt := 81) dX12_wayOfKind_1 rfl (fun c2 => have h1 := h.1 c2; s_new (pc := 81) (n := 1) dX12_wayOfKind_81 n_X12_183 rfl h1.1.1 h1.1.2 (nmR (fun a3 e4 => nmM (fun M6 e7 => have h8 := h1.2 a3 e4 M6 e7; s_dup (pc := 84) dX12_wayOfKind_84 rfl (s_iload_n (pc := 85) dX12_wayOfKind_85 rfl (s_callIK (pc := 86) (As := [.int p1]) (rest := [.ref a3]) (d' := 0) (mc' := 0) (ms' := 0) dX12_wayOfKind_86 c_X12_388 (nw_K2 e4 e7) rfl rfl (Nat.le_of_ble_eq_true rfl) (rm_ok rfl rfl) h8.1 (T_X11_init h8.2) (kkV (fun M10 h9 => s_areturn (pc := 89) dX12_wayOfKind_89 rfl h9.1.1 h9.1.2 ⟨_, rfl, h9.2⟩)))))))) (by
      intro j hx hle
      match j, hx, hle with
      | 0, hx, _ => exact ⟨35, 36, rfl, rfl, have c12 : p0 = 1 := eqI hx (by decide); have h11 := h.2.1 c12; s_new (pc := 36) (n := 1) dX12_wayOfKind_36 n_X12_371 rfl h11.1.1 h11.1.2 (nmR (fun a13 e14 => nmM (fun M16 e17 => have h18 := h11.2 a13 e14 M16 e17; s_dup (pc := 39) dX12_wayOfKind_39 rfl (s_iload_n (pc := 40) dX12_wayOfKind_40 rfl (s_callIK (pc := 41) (As := [.int p1]) (rest := [.ref a13]) (d' := 1) (mc' := 0) (ms' := 0) dX12_wayOfKind_41 c_X12_373 (nw_K2 e14 e17) rfl rfl (Nat.le_of_ble_eq_true rfl) (rm_ok rfl rfl) h18.1 (T_X2_init h18.2) (kkV (fun M20 h19 => s_areturn (pc := 44) dX12_wayOfKind_44 rfl h19.1.1 h19.1.2 ⟨_, rfl, h19.2⟩)))))))⟩
      | 1, hx, _ => exact ⟨44, 45, rfl, rfl, have c22 : p0 = 2 := eqI hx (by decide); have h21 := h.2.2.1 c22; s_new (pc := 45) (n := 1) dX12_wayOfKind_45 n_X12_376 rfl h21.1.1 h21.1.2 (nmR (fun a23 e24 => nmM (fun M26 e27 => have h28 := h21.2 a23 e24 M26 e27; s_dup (pc := 48) dX12_wayOfKind_48 rfl (s_iload_n (pc := 49) dX12_wayOfKind_49 rfl (s_callIK (pc := 50) (As := [.int p1]) (rest := [.ref a23]) (d' := 2) (mc' := 0) (ms' := 0) dX12_wayOfKind_50 c_X12_378 (nw_K2 e24 e27) rfl rfl (Nat.le_of_ble_eq_true rfl) (rm_ok rfl rfl) h28.1 (T_X3_init h28.2) (kkV (fun M30 h29 => s_areturn (pc := 53) dX12_wayOfKind_53 rfl h29.1.1 h29.1.2 ⟨_, rfl, h29.2⟩)))))))⟩
      | 2, hx, _ => exact ⟨53, 54, rfl, rfl, have c32 : p0 = 3 := eqI hx (by decide); have h31 := h.2.2.2.1 c32; s_new (pc := 54) (n := 1) dX12_wayOfKind_54 n_X12_379 rfl h31.1.1 h31.1.2 (nmR (fun a33 e34 => nmM (fun M36 e37 => have h38 := h31.2 a33 e34 M36 e37; s_dup (pc := 57) dX12_wayOfKind_57 rfl (s_iload_n (pc := 58) dX12_wayOfKind_58 rfl (s_callIK (pc := 59) (As := [.int p1]) (rest := [.ref a33]) (d' := 1) (mc' := 0) (ms' := 0) dX12_wayOfKind_59 c_X12_381 (nw_K2 e34 e37) rfl rfl (Nat.le_of_ble_eq_true rfl) (rm_ok rfl rfl) h38.1 (T_X8_init h38.2) (kkV (fun M40 h39 => s_areturn (pc := 62) dX12_wayOfKind_62 rfl h39.1.1 h39.1.2 ⟨_, rfl, h39.2⟩)))))))⟩
      | 3, hx, _ => exact ⟨62, 63, rfl, rfl, have c42 : p0 = 4 := eqI hx (by decide); have h41 := h.2.2.2.2.1 c42; s_new (pc := 63) (n := 1) dX12_wayOfKind_63 n_X12_382 rfl h41.1.1 h41.1.2 (nmR (fun a43 e44 => nmM (fun M46 e47 => have h48 := h41.2 a43 e44 M46 e47; s_dup (pc := 66) dX12_wayOfKind_66 rfl (s_iload_n (pc := 67) dX12_wayOfKind_67 rfl (s_callIK (pc := 68) (As := [.int p1]) (rest := [.ref a43]) (d' := 2) (mc' := 0) (ms' := 0) dX12_wayOfKind_68 c_X12_384 (nw_K2 e44 e47) rfl rfl (Nat.le_of_ble_eq_true rfl) (rm_ok rfl rfl) h48.1 (T_X1_init h48.2) (kkV (fun M50 h49 => s_areturn (pc := 71) dX12_wayOfKind_71 rfl h49.1.1 h49.1.2 ⟨_, rfl, h49.2⟩)))))))⟩
      | 4, hx, _ => exact ⟨71, 72, rfl, rfl, have c52 : p0 = 5 := eqI hx (by decide); have h51 := h.2.2.2.2.2 c52; s_new (pc := 72) (n := 1) dX12_wayOfKind_72 n_X12_385 rfl h51.1.1 h51.1.2 (nmR (fun a53 e54 => nmM (fun M56 e57 => have h58 := h51.2 a53 e54 M56 e57; s_dup (pc := 75) dX12_wayOfKind_75 rfl (s_iload_n (pc := 76) dX12_wayOfKind_76 rfl (s_callIK (pc := 77) (As := [.int p1]) (rest := [.ref a53]) (d' := 2) (mc' := 0) (ms' := 0) dX12_wayOfKind_77 c_X12_387 (nw_K2 e54 e57) rfl rfl (Nat.le_of_ble_eq_true rfl) (rm_ok rfl rfl) h58.1 (T_X10_init h58.2) (kkV (fun M60 h59 => s_areturn (pc := 80) dX12_wayOfKind_80 rfl h59.1.1 h59.1.2 ⟨_, rfl, h59.2⟩)))))))⟩
      | jj + 5, hx, hle => exact absurd hle (by omega)))))
/-! X12_placeOfBest -/
theorem dX12_placeOfBest_0 : cod mX12_placeOfBest 0 (.iconst 0) 1 := by decide +kernel
theorem dX12_placeOfBest_1 : cod mX12_placeOfBest 1 (.istore_n 3) 1 := by decide +kernel
theorem dX12_placeOfBest_2 : cod mX12_placeOfBest 2 (.lconst 0) 1 := by decide +kernel
theorem dX12_placeOfBest_3 : cod mX12_placeOfBest 3 (.lstore 4) 2 := by decide +kernel
theorem dX12_placeOfBest_5 : cod mX12_placeOfBest 5 (.iconst 0) 1 := by decide +kernel
theorem dX12_placeOfBest_6 : cod mX12_placeOfBest 6 (.istore 6) 2 := by decide +kernel
theorem dX12_placeOfBest_8 : cod mX12_placeOfBest 8 (.iload 6) 2 := by decide +kernel
theorem dX12_placeOfBest_10 : cod mX12_placeOfBest 10 (.aload_n 1) 1 := by decide +kernel
theorem dX12_placeOfBest_11 : cod mX12_placeOfBest 11 (.getfield 239) 3 := by decide +kernel
theorem dX12_placeOfBest_14 : cod mX12_placeOfBest 14 (.if_icmp .ge 61) 3 := by decide +kernel
theorem dX12_placeOfBest_17 : cod mX12_placeOfBest 17 (.aload_n 0) 1 := by decide +kernel
theorem dX12_placeOfBest_18 : cod mX12_placeOfBest 18 (.getfield 52) 3 := by decide +kernel
theorem dX12_placeOfBest_21 : cod mX12_placeOfBest 21 (.aload_n 0) 1 := by decide +kernel
theorem dX12_placeOfBest_22 : cod mX12_placeOfBest 22 (.getfield 10) 3 := by decide +kernel
theorem dX12_placeOfBest_25 : cod mX12_placeOfBest 25 (.aload_n 1) 1 := by decide +kernel
theorem dX12_placeOfBest_26 : cod mX12_placeOfBest 26 (.getfield 334) 3 := by decide +kernel
theorem dX12_placeOfBest_29 : cod mX12_placeOfBest 29 (.iload 6) 2 := by decide +kernel
theorem dX12_placeOfBest_31 : cod mX12_placeOfBest 31 (.iaload) 1 := by decide +kernel
theorem dX12_placeOfBest_32 : cod mX12_placeOfBest 32 (.iload_n 2) 1 := by decide +kernel
theorem dX12_placeOfBest_33 : cod mX12_placeOfBest 33 (.invokestatic 301) 3 := by decide +kernel
theorem dX12_placeOfBest_36 : cod mX12_placeOfBest 36 (.invokevirtual 209) 3 := by decide +kernel
theorem dX12_placeOfBest_39 : cod mX12_placeOfBest 39 (.iload 6) 2 := by decide +kernel
theorem dX12_placeOfBest_41 : cod mX12_placeOfBest 41 (.ifCond .eq 16) 3 := by decide +kernel
theorem dX12_placeOfBest_44 : cod mX12_placeOfBest 44 (.aload_n 0) 1 := by decide +kernel
theorem dX12_placeOfBest_45 : cod mX12_placeOfBest 45 (.getfield 52) 3 := by decide +kernel
theorem dX12_placeOfBest_48 : cod mX12_placeOfBest 48 (.getfield 213) 3 := by decide +kernel
theorem dX12_placeOfBest_51 : cod mX12_placeOfBest 51 (.lload 4) 2 := by decide +kernel
theorem dX12_placeOfBest_53 : cod mX12_placeOfBest 53 (.lcmp) 1 := by decide +kernel
theorem dX12_placeOfBest_54 : cod mX12_placeOfBest 54 (.ifCond .le 15) 3 := by decide +kernel
theorem dX12_placeOfBest_57 : cod mX12_placeOfBest 57 (.iload 6) 2 := by decide +kernel
theorem dX12_placeOfBest_59 : cod mX12_placeOfBest 59 (.istore_n 3) 1 := by decide +kernel
theorem dX12_placeOfBest_60 : cod mX12_placeOfBest 60 (.aload_n 0) 1 := by decide +kernel
theorem dX12_placeOfBest_61 : cod mX12_placeOfBest 61 (.getfield 52) 3 := by decide +kernel
theorem dX12_placeOfBest_64 : cod mX12_placeOfBest 64 (.getfield 213) 3 := by decide +kernel
theorem dX12_placeOfBest_67 : cod mX12_placeOfBest 67 (.lstore 4) 2 := by decide +kernel
theorem dX12_placeOfBest_69 : cod mX12_placeOfBest 69 (.iinc 6 1) 3 := by decide +kernel
theorem dX12_placeOfBest_72 : cod mX12_placeOfBest 72 (.goto (-64)) 3 := by decide +kernel
theorem dX12_placeOfBest_75 : cod mX12_placeOfBest 75 (.iload_n 3) 1 := by decide +kernel
theorem dX12_placeOfBest_76 : cod mX12_placeOfBest 76 (.ireturn) 1 := by decide +kernel
def jn_X12_placeOfBest_69 (K8 : Nat → Nat → Int32 → Int32 → Int64 → Int32 → Mem → Nat → Nat → Prop) (Q : Int32 → Mem → Prop) (x0 : Nat) (x1 : Nat) (x2 : Int32) (x3 : Int32) (x4 : Int64) (x6 : Int32) (M : Mem) (k sl : Nat) : Prop := K8 x0 x1 x2 x3 x4 (x6 + 1) M k sl
theorem P_jn_X12_placeOfBest_69 {G : GG} {K8 : Nat → Nat → Int32 → Int32 → Int64 → Int32 → Mem → Nat → Nat → Prop} {Q : Int32 → Mem → Prop} (hK8 : ∀ (x0 : Nat) (x1 : Nat) (x2 : Int32) (x3 : Int32) (x4 : Int64) (x6 : Int32) (M : Mem) (k sl : Nat), K8 x0 x1 x2 x3 x4 x6 M k sl → PW G mX12_placeOfBest (rmD 13 6 6) (QI Q) 8 [some (.ref x0), some (.ref x1), some (.int x2), some (.int x3), some (.long x4), none, some (.int x6)] [] M k sl) (x0 : Nat) (x1 : Nat) (x2 : Int32) (x3 : Int32) (x4 : Int64) (x6 : Int32) (M : Mem) (k sl : Nat) (h : jn_X12_placeOfBest_69 K8 Q x0 x1 x2 x3 x4 x6 M k sl) : PW G mX12_placeOfBest (rmD 13 6 6) (QI Q) 69 [some (.ref x0), some (.ref x1), some (.int x2), some (.int x3), some (.long x4), none, some (.int x6)] [] M k sl := (s_iinc (pc := 69) (L1 := [some (.ref x0), some (.ref x1), some (.int x2), some (.int x3), some (.long x4), none, some (.int (x6 + 1))]) dX12_placeOfBest_69 rfl ci_1 (Nat.le_of_ble_eq_true rfl) rfl (s_goto (pc := 72) (tgt := 8) dX12_placeOfBest_72 rfl (s_sel (L1 := [some (.ref x0), some (.ref x1), some (.int x2), some (.int x3), some (.long x4), none, some (.int (x6 + 1))]) [true, true, true, true, true, false, true] rfl (hK8 x0 x1 x2 x3 x4 (x6 + 1) M k sl h))))
def jn_X12_placeOfBest_57 (K8 : Nat → Nat → Int32 → Int32 → Int64 → Int32 → Mem → Nat → Nat → Prop) (Q : Int32 → Mem → Prop) (x0 : Nat) (x1 : Nat) (x2 : Int32) (x6 : Int32) (M : Mem) (k sl : Nat) : Prop := mK M x0 = 13 ∧ mK M (mR M x0 9) = 1 ∧ ∀ y14 : Int64, y14 = mJ M (mR M x0 9) 2 → jn_X12_placeOfBest_69 K8 Q x0 x1 x2 x6 y14 x6 M k sl
theorem P_jn_X12_placeOfBest_57 {G : GG} {K8 : Nat → Nat → Int32 → Int32 → Int64 → Int32 → Mem → Nat → Nat → Prop} {Q : Int32 → Mem → Prop} (hK8 : ∀ (x0 : Nat) (x1 : Nat) (x2 : Int32) (x3 : Int32) (x4 : Int64) (x6 : Int32) (M : Mem) (k sl : Nat), K8 x0 x1 x2 x3 x4 x6 M k sl → PW G mX12_placeOfBest (rmD 13 6 6) (QI Q) 8 [some (.ref x0), some (.ref x1), some (.int x2), some (.int x3), some (.long x4), none, some (.int x6)] [] M k sl) (x0 : Nat) (x1 : Nat) (x2 : Int32) (x6 : Int32) (M : Mem) (k sl : Nat) (h : jn_X12_placeOfBest_57 K8 Q x0 x1 x2 x6 M k sl) : PW G mX12_placeOfBest (rmD 13 6 6) (QI Q) 57 [some (.ref x0), some (.ref x1), some (.int x2), none, none, none, some (.int x6)] [] M k sl := (s_iload (pc := 57) dX12_placeOfBest_57 rfl (s_istore_n (pc := 59) (L1 := [some (.ref x0), some (.ref x1), some (.int x2), some (.int x6), none, none, some (.int x6)]) dX12_placeOfBest_59 (Nat.le_of_ble_eq_true rfl) rfl (s_aload_n (pc := 60) dX12_placeOfBest_60 rfl (s_getR (pc := 61) dX12_placeOfBest_61 f_X12_52 rfl h.1 (s_getJ (pc := 64) dX12_placeOfBest_64 f_X12_213 rfl h.2.1 (nmJ (fun y14 e15 => have h16 := h.2.2 y14 e15; s_lstore (pc := 67) (L1 := [some (.ref x0), some (.ref x1), some (.int x2), some (.int x6), some (.long y14), none, some (.int x6)]) dX12_placeOfBest_67 (Nat.le_of_ble_eq_true rfl) rfl (s_sel (L1 := [some (.ref x0), some (.ref x1), some (.int x2), some (.int x6), some (.long y14), none, some (.int x6)]) [true, true, true, true, true, false, true] rfl (P_jn_X12_placeOfBest_69 hK8 x0 x1 x2 x6 y14 x6 M k sl h16)))))))))
def lp_X12_placeOfBest_8 (Q : Int32 → Mem → Prop) : Nat → Nat → Nat → Int32 → Int32 → Int64 → Int32 → Mem → Nat → Nat → Prop
  | 0 => fun _ _ _ _ _ _ _ _ _ => False
  | n + 1 => fun x0 x1 x2 x3 x4 x6 M k sl => mK M x1 = 5 ∧ ((mI M x1 2) ≤ x6 → (k ≤ 6 ∧ sl ≤ 6) ∧ Q x3 M) ∧ (¬ (mI M x1 2) ≤ x6 → mK M x0 = 13 ∧ mK M (mR M x1 3) = 20 ∧ vp_in x6 (mN M (mR M x1 3)) ∧ (k + 1 ≤ 6 ∧ sl + 1 ≤ 6) ∧ wp_X12_wayOfKind (mI M (mR M x1 3) x6.toNatClampNeg) x2 M (fun r7 M6 => mK M6 (mR M x0 9) = 1 ∧ ((k + 1) + 0 ≤ 6 ∧ (sl + 1) + 0 ≤ 6) ∧ wp_X0_weigh (mR M x0 9) (mR M x0 0) r7 M6 (fun M9 => (x6 = (0 : Int32) → jn_X12_placeOfBest_57 (fun fx0 fx1 fx2 fx3 fx4 fx6 fM fk fsl => lp_X12_placeOfBest_8 Q n fx0 fx1 fx2 fx3 fx4 fx6 fM fk fsl) Q x0 x1 x2 x6 M9 ((k + 1) + 0) ((sl + 1) + 0)) ∧ (¬ x6 = (0 : Int32) → mK M9 x0 = 13 ∧ mK M9 (mR M9 x0 9) = 1 ∧ ((mJ M9 (mR M9 x0 9) 2) ≤ x4 → jn_X12_placeOfBest_69 (fun fx0 fx1 fx2 fx3 fx4 fx6 fM fk fsl => lp_X12_placeOfBest_8 Q n fx0 fx1 fx2 fx3 fx4 fx6 fM fk fsl) Q x0 x1 x2 x3 x4 x6 M9 ((k + 1) + 0) ((sl + 1) + 0)) ∧ (¬ (mJ M9 (mR M9 x0 9) 2) ≤ x4 → jn_X12_placeOfBest_57 (fun fx0 fx1 fx2 fx3 fx4 fx6 fM fk fsl => lp_X12_placeOfBest_8 Q n fx0 fx1 fx2 fx3 fx4 fx6 fM fk fsl) Q x0 x1 x2 x6 M9 ((k + 1) + 0) ((sl + 1) + 0))))))
theorem P_lp_X12_placeOfBest_8 {G : GG} {Q : Int32 → Mem → Prop} : ∀ (n : Nat) (x0 : Nat) (x1 : Nat) (x2 : Int32) (x3 : Int32) (x4 : Int64) (x6 : Int32) (M : Mem) (k sl : Nat), lp_X12_placeOfBest_8 Q n x0 x1 x2 x3 x4 x6 M k sl → PW G mX12_placeOfBest (rmD 13 6 6) (QI Q) 8 [some (.ref x0), some (.ref x1), some (.int x2), some (.int x3), some (.long x4), none, some (.int x6)] [] M k sl := by
  intro n
  induction n with
  | zero => intro x0 x1 x2 x3 x4 x6 M k sl h; exact h.elim
  | succ n ih =>
    intro x0 x1 x2 x3 x4 x6 M k sl h
    exact (s_iload (pc := 8) dX12_placeOfBest_8 rfl (s_aload_n (pc := 10) dX12_placeOfBest_10 rfl (s_getI (pc := 11) dX12_placeOfBest_11 f_X12_239 rfl h.1 (s_icmp_ge (pc := 14) (tgt := 75) dX12_placeOfBest_14 rfl (fun c1 => have h2 := h.2.1 c1; s_iload_n (pc := 75) dX12_placeOfBest_75 rfl (s_ireturn (pc := 76) dX12_placeOfBest_76 rfl h2.1.1 h2.1.2 ⟨_, rfl, h2.2⟩)) (fun c3 => have h4 := h.2.2 c3; s_aload_n (pc := 17) dX12_placeOfBest_17 rfl (s_getR (pc := 18) dX12_placeOfBest_18 f_X12_52 rfl h4.1 (s_aload_n (pc := 21) dX12_placeOfBest_21 rfl (s_getR (pc := 22) dX12_placeOfBest_22 f_X12_10 rfl h4.1 (s_aload_n (pc := 25) dX12_placeOfBest_25 rfl (s_getR (pc := 26) dX12_placeOfBest_26 f_X12_334 rfl h.1 (s_iload (pc := 29) dX12_placeOfBest_29 rfl (s_ial (pc := 31) dX12_placeOfBest_31 h4.2.1 h4.2.2.1 (s_iload_n (pc := 32) dX12_placeOfBest_32 rfl (s_callS (pc := 33) (As := [.int (mI M (mR M x1 3) x6.toNatClampNeg), .int x2]) (rest := [.ref (mR M x0 0), .ref (mR M x0 9)]) (d' := 3) (mc' := 1) (ms' := 1) dX12_placeOfBest_33 c_X12_301 rfl rfl (Nat.le_of_ble_eq_true rfl) (rm_ok rfl rfl) h4.2.2.2.1 (T_X12_wayOfKind h4.2.2.2.2) (kkR (fun r7 M6 h5 => s_callV (pc := 36) (As := [.ref (mR M x0 0), .ref r7]) (rest := []) (d' := 12) (mc' := 0) (ms' := 0) dX12_placeOfBest_36 c_X12_209 (Nat.le_of_ble_eq_true rfl) rfl h5.1 rfl rfl (Nat.le_of_ble_eq_true rfl) (rm_ok rfl rfl) h5.2.1 (T_X0_weigh h5.2.2) (kkV (fun M9 h8 => s_iload (pc := 39) dX12_placeOfBest_39 rfl (s_if_eq (pc := 41) (tgt := 57) dX12_placeOfBest_41 rfl (fun c10 => have h11 := h8.1 c10; s_sel (L1 := [some (.ref x0), some (.ref x1), some (.int x2), none, none, none, some (.int x6)]) [true, true, true, false, false, false, true] rfl (P_jn_X12_placeOfBest_57 ih x0 x1 x2 x6 M9 ((k + 1) + 0) ((sl + 1) + 0) h11)) (fun c12 => have h13 := h8.2 c12; s_aload_n (pc := 44) dX12_placeOfBest_44 rfl (s_getR (pc := 45) dX12_placeOfBest_45 f_X12_52 rfl h13.1 (s_getJ (pc := 48) dX12_placeOfBest_48 f_X12_213 rfl h13.2.1 (s_lload (pc := 51) dX12_placeOfBest_51 rfl (s_lif_le (pc := 53) (tgt := 69) dX12_placeOfBest_53 dX12_placeOfBest_54 rfl (fun c17 => have h18 := h13.2.2.1 c17; s_sel (L1 := [some (.ref x0), some (.ref x1), some (.int x2), some (.int x3), some (.long x4), none, some (.int x6)]) [true, true, true, true, true, false, true] rfl (P_jn_X12_placeOfBest_69 ih x0 x1 x2 x3 x4 x6 M9 ((k + 1) + 0) ((sl + 1) + 0) h18)) (fun c19 => have h20 := h13.2.2.2 c19; s_sel (L1 := [some (.ref x0), some (.ref x1), some (.int x2), none, none, none, some (.int x6)]) [true, true, true, false, false, false, true] rfl (P_jn_X12_placeOfBest_57 ih x0 x1 x2 x6 M9 ((k + 1) + 0) ((sl + 1) + 0) h20))))))))))))))))))))))))))
def wp_X12_placeOfBest (p0 : Nat) (p1 : Nat) (p2 : Int32) (M : Mem) (Q : Int32 → Mem → Prop) : Prop := ∃ n21 : Nat, lp_X12_placeOfBest_8 Q n21 p0 p1 p2 0 0 0 M 0 0
theorem T_X12_placeOfBest {G : GG} {Q : Int32 → Mem → Prop} {M : Mem} {p0 : Nat} {p1 : Nat} {p2 : Int32} (h : wp_X12_placeOfBest p0 p1 p2 M Q) : PMet G mX12_placeOfBest 13 6 6 [.ref p0, .ref p1, .int p2] M (QI Q) :=
  mk_met (by decide) rfl rfl (by
    intro w hw x9 e9
    subst e9
    simp at hw) (Nat.le_of_ble_eq_true rfl) (s_pad (L1 := [some (.ref p0), some (.ref p1), some (.int p2), none, none, none, none]) 7 rfl (s_iconst (pc := 0) dX12_placeOfBest_0 ci_0 (s_istore_n (pc := 1) (L1 := [some (.ref p0), some (.ref p1), some (.int p2), some (.int 0), none, none, none]) dX12_placeOfBest_1 (Nat.le_of_ble_eq_true rfl) rfl (s_lconst (pc := 2) (v := 0) dX12_placeOfBest_2 rfl (s_lstore (pc := 3) (L1 := [some (.ref p0), some (.ref p1), some (.int p2), some (.int 0), some (.long 0), none, none]) dX12_placeOfBest_3 (Nat.le_of_ble_eq_true rfl) rfl (s_iconst (pc := 5) dX12_placeOfBest_5 ci_0 (s_istore (pc := 6) (L1 := [some (.ref p0), some (.ref p1), some (.int p2), some (.int 0), some (.long 0), none, some (.int 0)]) dX12_placeOfBest_6 (Nat.le_of_ble_eq_true rfl) rfl (Exists.elim h (fun n21 hn => s_sel (L1 := [some (.ref p0), some (.ref p1), some (.int p2), some (.int 0), some (.long 0), none, some (.int 0)]) [true, true, true, true, true, false, true] rfl (P_lp_X12_placeOfBest_8 n21 p0 p1 p2 0 0 0 M 0 0 hn))))))))))
