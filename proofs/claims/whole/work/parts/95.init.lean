/-! THE FRESH MEMORY: what the constructors leave -/
def lp_X0_init_27 (Q : Mem → Prop) : Nat → Nat → Int32 → Mem → Nat → Nat → Prop
  | 0 => fun _ _ _ _ _ => False
  | n + 1 => fun x0 x1 M k sl => ((6 : Int32) < x1 → (k ≤ 23 ∧ sl ≤ 112) ∧ Q M) ∧ (¬ (6 : Int32) < x1 → mK M x0 = 1 ∧ (k + 1 ≤ 23 ∧ sl + 2 ≤ 112) ∧ ∀ a22 : Nat, a22 = mT M → ∀ M25 : Mem, M25 = nw M 10 0 → ((k + 1) + 1 ≤ 23 ∧ (sl + 2) + 6 ≤ 112) ∧ wp_X9_init a22 M25 (fun M29 => mK M29 (mR M x0 0) = 23 ∧ mK M29 a22 = 10 ∧ vp_in x1 (mN M29 (mR M x0 0)) ∧ ∀ M30 : Mem, M30 = uR M29 (mR M x0 0) x1.toNatClampNeg a22 → (lp_X0_init_27 Q n) x0 (x1 + 1) M30 ((k + 1) + 1) ((sl + 2) + 6)))
def wp_X0_init (p0 : Nat) (M : Mem) (Q : Mem → Prop) : Prop := mK M p0 = 1 ∧ (0 + 1 ≤ 23 ∧ 0 + 7 ≤ 112) ∧ ∀ a1 : Nat, a1 = mT M → ∀ M4 : Mem, M4 = nw M 23 7 → mK M4 p0 = 1 ∧ ∀ M7 : Mem, M7 = uR M4 p0 0 a1 → ((0 + 1) + 8 ≤ 23 ∧ (0 + 7) + 49 ≤ 112) ∧ ∀ a10 : Nat, a10 = mT M7 → ∀ M12 : Mem, M12 = mna M7 → mK M12 p0 = 1 ∧ ∀ M15 : Mem, M15 = uR M12 p0 1 a10 → ∃ n33 : Nat, lp_X0_init_27 Q n33 p0 0 M15 ((0 + 1) + 8) ((0 + 7) + 49)
def lp_X12_init_81 (Q : Mem → Prop) : Nat → Nat → Int32 → Mem → Nat → Nat → Prop
  | 0 => fun _ _ _ _ _ => False
  | n + 1 => fun x0 x1 M k sl => ((8 : Int32) ≤ x1 → (k + 1 ≤ 84 ∧ sl + 4 ≤ 5026) ∧ ∀ a80 : Nat, a80 = mT M → ∀ M83 : Mem, M83 = nw M 8 0 → ((k + 1) + 1 ≤ 84 ∧ (sl + 4) + 3 ≤ 5026) ∧ wp_X7_init a80 M83 (fun M87 => mK M87 x0 = 13 ∧ ∀ M88 : Mem, M88 = uR M87 x0 8 a80 → (((k + 1) + 1) + 1 ≤ 84 ∧ ((sl + 4) + 3) + 9 ≤ 5026) ∧ ∀ a91 : Nat, a91 = mT M88 → ∀ M94 : Mem, M94 = nw M88 1 0 → ((((k + 1) + 1) + 1) + 23 ≤ 84 ∧ (((sl + 4) + 3) + 9) + 112 ≤ 5026) ∧ wp_X0_init a91 M94 (fun M98 => mK M98 x0 = 13 ∧ ∀ M99 : Mem, M99 = uR M98 x0 9 a91 → (((((k + 1) + 1) + 1) + 23) + 1 ≤ 84 ∧ ((((sl + 4) + 3) + 9) + 112) + 14 ≤ 5026) ∧ ∀ a102 : Nat, a102 = mT M99 → ∀ M105 : Mem, M105 = nw M99 6 0 → ((((((k + 1) + 1) + 1) + 23) + 1) + 10 ≤ 84 ∧ (((((sl + 4) + 3) + 9) + 112) + 14) + 258 ≤ 5026) ∧ wp_X5_init a102 M105 (fun M109 => mK M109 x0 = 13 ∧ ∀ M110 : Mem, M110 = uR M109 x0 10 a102 → (((((((k + 1) + 1) + 1) + 23) + 1) + 10) ≤ 84 ∧ ((((((sl + 4) + 3) + 9) + 112) + 14) + 258) ≤ 5026) ∧ Q M110)))) ∧ (¬ (8 : Int32) ≤ x1 → mK M x0 = 13 ∧ (k + 1 ≤ 84 ∧ sl + 4 ≤ 5026) ∧ ∀ a113 : Nat, a113 = mT M → ∀ M116 : Mem, M116 = nw M 5 0 → ((k + 1) + 1 ≤ 84 ∧ (sl + 4) + 100 ≤ 5026) ∧ wp_X4_init a113 M116 (fun M120 => mK M120 (mR M x0 7) = 24 ∧ mK M120 a113 = 5 ∧ vp_in x1 (mN M120 (mR M x0 7)) ∧ ∀ M121 : Mem, M121 = uR M120 (mR M x0 7) x1.toNatClampNeg a113 → (lp_X12_init_81 Q n) x0 (x1 + 1) M121 ((k + 1) + 1) ((sl + 4) + 100)))
def wp_X12_init (p0 : Nat) (M : Mem) (Q : Mem → Prop) : Prop := mK M p0 = 13 ∧ (0 + 1 ≤ 84 ∧ 0 + 12 ≤ 5026) ∧ ∀ a1 : Nat, a1 = mT M → ∀ M4 : Mem, M4 = nw M 7 0 → ((0 + 1) + 7 ≤ 84 ∧ (0 + 12) + 1242 ≤ 5026) ∧ wp_X6_init a1 M4 (fun M8 => mK M8 p0 = 13 ∧ ∀ M9 : Mem, M9 = uR M8 p0 0 a1 → (((0 + 1) + 7) + 1 ≤ 84 ∧ ((0 + 12) + 1242) + 12 ≤ 5026) ∧ ∀ a12 : Nat, a12 = mT M9 → ∀ M15 : Mem, M15 = nw M9 7 0 → ((((0 + 1) + 7) + 1) + 7 ≤ 84 ∧ (((0 + 12) + 1242) + 12) + 1242 ≤ 5026) ∧ wp_X6_init a12 M15 (fun M19 => mK M19 p0 = 13 ∧ ∀ M20 : Mem, M20 = uR M19 p0 1 a12 → (((((0 + 1) + 7) + 1) + 7) + 1 ≤ 84 ∧ ((((0 + 12) + 1242) + 12) + 1242) + 12 ≤ 5026) ∧ ∀ a23 : Nat, a23 = mT M20 → ∀ M26 : Mem, M26 = nw M20 7 0 → ((((((0 + 1) + 7) + 1) + 7) + 1) + 7 ≤ 84 ∧ (((((0 + 12) + 1242) + 12) + 1242) + 12) + 1242 ≤ 5026) ∧ wp_X6_init a23 M26 (fun M30 => mK M30 p0 = 13 ∧ ∀ M31 : Mem, M31 = uR M30 p0 2 a23 → (((((((0 + 1) + 7) + 1) + 7) + 1) + 7) + 1 ≤ 84 ∧ ((((((0 + 12) + 1242) + 12) + 1242) + 12) + 1242) + 2 ≤ 5026) ∧ ∀ a34 : Nat, a34 = mT M31 → ∀ M37 : Mem, M37 = nw M31 10 0 → ((((((((0 + 1) + 7) + 1) + 7) + 1) + 7) + 1) + 1 ≤ 84 ∧ (((((((0 + 12) + 1242) + 12) + 1242) + 12) + 1242) + 2) + 6 ≤ 5026) ∧ wp_X9_init a34 M37 (fun M41 => mK M41 p0 = 13 ∧ ∀ M42 : Mem, M42 = uR M41 p0 3 a34 → (((((((((0 + 1) + 7) + 1) + 7) + 1) + 7) + 1) + 1) + 1 ≤ 84 ∧ ((((((((0 + 12) + 1242) + 12) + 1242) + 12) + 1242) + 2) + 6) + 2 ≤ 5026) ∧ ∀ a45 : Nat, a45 = mT M42 → ∀ M48 : Mem, M48 = nw M42 10 0 → ((((((((((0 + 1) + 7) + 1) + 7) + 1) + 7) + 1) + 1) + 1) + 1 ≤ 84 ∧ (((((((((0 + 12) + 1242) + 12) + 1242) + 12) + 1242) + 2) + 6) + 2) + 6 ≤ 5026) ∧ wp_X9_init a45 M48 (fun M52 => mK M52 p0 = 13 ∧ ∀ M53 : Mem, M53 = uR M52 p0 4 a45 → (((((((((((0 + 1) + 7) + 1) + 7) + 1) + 7) + 1) + 1) + 1) + 1) + 1 ≤ 84 ∧ ((((((((((0 + 12) + 1242) + 12) + 1242) + 12) + 1242) + 2) + 6) + 2) + 6) + 2 ≤ 5026) ∧ ∀ a56 : Nat, a56 = mT M53 → ∀ M59 : Mem, M59 = nw M53 10 0 → ((((((((((((0 + 1) + 7) + 1) + 7) + 1) + 7) + 1) + 1) + 1) + 1) + 1) + 1 ≤ 84 ∧ (((((((((((0 + 12) + 1242) + 12) + 1242) + 12) + 1242) + 2) + 6) + 2) + 6) + 2) + 6 ≤ 5026) ∧ wp_X9_init a56 M59 (fun M63 => mK M63 p0 = 13 ∧ ∀ M64 : Mem, M64 = uR M63 p0 5 a56 → (((((((((((((0 + 1) + 7) + 1) + 7) + 1) + 7) + 1) + 1) + 1) + 1) + 1) + 1) + 1 ≤ 84 ∧ ((((((((((((0 + 12) + 1242) + 12) + 1242) + 12) + 1242) + 2) + 6) + 2) + 6) + 2) + 6) + 8 ≤ 5026) ∧ ∀ a67 : Nat, a67 = mT M64 → ∀ M70 : Mem, M70 = nw M64 24 8 → mK M70 p0 = 13 ∧ ∀ M73 : Mem, M73 = uR M70 p0 7 a67 → ∃ n124 : Nat, lp_X12_init_81 Q n124 p0 0 M73 (((((((((((((0 + 1) + 7) + 1) + 7) + 1) + 7) + 1) + 1) + 1) + 1) + 1) + 1) + 1) (((((((((((((0 + 12) + 1242) + 12) + 1242) + 12) + 1242) + 2) + 6) + 2) + 6) + 2) + 6) + 8)))))))
theorem dX13_init_0 : cod mX13_init 0 (.aload_n 0) 1 := by decide +kernel
theorem dX13_init_1 : cod mX13_init 1 (.invokespecial 1) 3 := by decide +kernel
theorem dX13_init_4 : cod mX13_init 4 (.aload_n 0) 1 := by decide +kernel
theorem dX13_init_5 : cod mX13_init 5 (.bipush 6) 2 := by decide +kernel
theorem dX13_init_7 : cod mX13_init 7 (.newarray .int) 2 := by decide +kernel
theorem dX13_init_9 : cod mX13_init 9 (.putfield 7) 3 := by decide +kernel
theorem dX13_init_12 : cod mX13_init 12 (.aload_n 0) 1 := by decide +kernel
theorem dX13_init_13 : cod mX13_init 13 (.bipush 6) 2 := by decide +kernel
theorem dX13_init_15 : cod mX13_init 15 (.newarray .int) 2 := by decide +kernel
theorem dX13_init_17 : cod mX13_init 17 (.putfield 13) 3 := by decide +kernel
theorem dX13_init_20 : cod mX13_init 20 (.aload_n 0) 1 := by decide +kernel
theorem dX13_init_21 : cod mX13_init 21 (.bipush 6) 2 := by decide +kernel
theorem dX13_init_23 : cod mX13_init 23 (.newarray .int) 2 := by decide +kernel
theorem dX13_init_25 : cod mX13_init 25 (.putfield 16) 3 := by decide +kernel
theorem dX13_init_28 : cod mX13_init 28 (.aload_n 0) 1 := by decide +kernel
theorem dX13_init_29 : cod mX13_init 29 (.bipush 6) 2 := by decide +kernel
theorem dX13_init_31 : cod mX13_init 31 (.newarray .int) 2 := by decide +kernel
theorem dX13_init_33 : cod mX13_init 33 (.putfield 19) 3 := by decide +kernel
theorem dX13_init_36 : cod mX13_init 36 (.aload_n 0) 1 := by decide +kernel
theorem dX13_init_37 : cod mX13_init 37 (.bipush 6) 2 := by decide +kernel
theorem dX13_init_39 : cod mX13_init 39 (.newarray .int) 2 := by decide +kernel
theorem dX13_init_41 : cod mX13_init 41 (.putfield 22) 3 := by decide +kernel
theorem dX13_init_44 : cod mX13_init 44 (.aload_n 0) 1 := by decide +kernel
theorem dX13_init_45 : cod mX13_init 45 (.bipush 20) 2 := by decide +kernel
theorem dX13_init_47 : cod mX13_init 47 (.putfield 25) 3 := by decide +kernel
theorem dX13_init_50 : cod mX13_init 50 (.aload_n 0) 1 := by decide +kernel
theorem dX13_init_51 : cod mX13_init 51 (.iconst 3) 1 := by decide +kernel
theorem dX13_init_52 : cod mX13_init 52 (.putfield 29) 3 := by decide +kernel
theorem dX13_init_55 : cod mX13_init 55 (.aload_n 0) 1 := by decide +kernel
theorem dX13_init_56 : cod mX13_init 56 (.bipush 6) 2 := by decide +kernel
theorem dX13_init_58 : cod mX13_init 58 (.newarray .long) 2 := by decide +kernel
theorem dX13_init_60 : cod mX13_init 60 (.putfield 32) 3 := by decide +kernel
theorem dX13_init_63 : cod mX13_init 63 (.aload_n 0) 1 := by decide +kernel
theorem dX13_init_64 : cod mX13_init 64 (.bipush 50) 2 := by decide +kernel
theorem dX13_init_66 : cod mX13_init 66 (.newarray .int) 2 := by decide +kernel
theorem dX13_init_68 : cod mX13_init 68 (.putfield 36) 3 := by decide +kernel
theorem dX13_init_71 : cod mX13_init 71 (.aload_n 0) 1 := by decide +kernel
theorem dX13_init_72 : cod mX13_init 72 (.bipush 50) 2 := by decide +kernel
theorem dX13_init_74 : cod mX13_init 74 (.newarray .int) 2 := by decide +kernel
theorem dX13_init_76 : cod mX13_init 76 (.putfield 39) 3 := by decide +kernel
theorem dX13_init_79 : cod mX13_init 79 (.aload_n 0) 1 := by decide +kernel
theorem dX13_init_80 : cod mX13_init 80 (.bipush 50) 2 := by decide +kernel
theorem dX13_init_82 : cod mX13_init 82 (.newarray .int) 2 := by decide +kernel
theorem dX13_init_84 : cod mX13_init 84 (.putfield 42) 3 := by decide +kernel
theorem dX13_init_87 : cod mX13_init 87 (.aload_n 0) 1 := by decide +kernel
theorem dX13_init_88 : cod mX13_init 88 (.bipush 50) 2 := by decide +kernel
theorem dX13_init_90 : cod mX13_init 90 (.newarray .int) 2 := by decide +kernel
theorem dX13_init_92 : cod mX13_init 92 (.putfield 45) 3 := by decide +kernel
theorem dX13_init_95 : cod mX13_init 95 (.aload_n 0) 1 := by decide +kernel
theorem dX13_init_96 : cod mX13_init 96 (.bipush 50) 2 := by decide +kernel
theorem dX13_init_98 : cod mX13_init 98 (.newarray .int) 2 := by decide +kernel
theorem dX13_init_100 : cod mX13_init 100 (.putfield 48) 3 := by decide +kernel
theorem dX13_init_103 : cod mX13_init 103 (.aload_n 0) 1 := by decide +kernel
theorem dX13_init_104 : cod mX13_init 104 (.bipush 6) 2 := by decide +kernel
theorem dX13_init_106 : cod mX13_init 106 (.newarray .long) 2 := by decide +kernel
theorem dX13_init_108 : cod mX13_init 108 (.putfield 51) 3 := by decide +kernel
theorem dX13_init_111 : cod mX13_init 111 (.aload_n 0) 1 := by decide +kernel
theorem dX13_init_112 : cod mX13_init 112 (.bipush 42) 2 := by decide +kernel
theorem dX13_init_114 : cod mX13_init 114 (.newarray .long) 2 := by decide +kernel
theorem dX13_init_116 : cod mX13_init 116 (.putfield 54) 3 := by decide +kernel
theorem dX13_init_119 : cod mX13_init 119 (.aload_n 0) 1 := by decide +kernel
theorem dX13_init_120 : cod mX13_init 120 (.bipush 42) 2 := by decide +kernel
theorem dX13_init_122 : cod mX13_init 122 (.newarray .long) 2 := by decide +kernel
theorem dX13_init_124 : cod mX13_init 124 (.putfield 57) 3 := by decide +kernel
theorem dX13_init_127 : cod mX13_init 127 (.aload_n 0) 1 := by decide +kernel
theorem dX13_init_128 : cod mX13_init 128 (.bipush 7) 2 := by decide +kernel
theorem dX13_init_130 : cod mX13_init 130 (.newarray .int) 2 := by decide +kernel
theorem dX13_init_132 : cod mX13_init 132 (.putfield 60) 3 := by decide +kernel
theorem dX13_init_135 : cod mX13_init 135 (.aload_n 0) 1 := by decide +kernel
theorem dX13_init_136 : cod mX13_init 136 (.bipush 7) 2 := by decide +kernel
theorem dX13_init_138 : cod mX13_init 138 (.newarray .int) 2 := by decide +kernel
theorem dX13_init_140 : cod mX13_init 140 (.putfield 63) 3 := by decide +kernel
theorem dX13_init_143 : cod mX13_init 143 (.aload_n 0) 1 := by decide +kernel
theorem dX13_init_144 : cod mX13_init 144 (.bipush 7) 2 := by decide +kernel
theorem dX13_init_146 : cod mX13_init 146 (.newarray .int) 2 := by decide +kernel
theorem dX13_init_148 : cod mX13_init 148 (.putfield 66) 3 := by decide +kernel
theorem dX13_init_151 : cod mX13_init 151 (.aload_n 0) 1 := by decide +kernel
theorem dX13_init_152 : cod mX13_init 152 (.bipush 7) 2 := by decide +kernel
theorem dX13_init_154 : cod mX13_init 154 (.newarray .int) 2 := by decide +kernel
theorem dX13_init_156 : cod mX13_init 156 (.putfield 69) 3 := by decide +kernel
theorem dX13_init_159 : cod mX13_init 159 (.aload_n 0) 1 := by decide +kernel
theorem dX13_init_160 : cod mX13_init 160 (.bipush 7) 2 := by decide +kernel
theorem dX13_init_162 : cod mX13_init 162 (.newarray .int) 2 := by decide +kernel
theorem dX13_init_164 : cod mX13_init 164 (.putfield 72) 3 := by decide +kernel
theorem dX13_init_167 : cod mX13_init 167 (.aload_n 0) 1 := by decide +kernel
theorem dX13_init_168 : cod mX13_init 168 (.bipush 7) 2 := by decide +kernel
theorem dX13_init_170 : cod mX13_init 170 (.newarray .boolean) 2 := by decide +kernel
theorem dX13_init_172 : cod mX13_init 172 (.putfield 75) 3 := by decide +kernel
theorem dX13_init_175 : cod mX13_init 175 (.aload_n 0) 1 := by decide +kernel
theorem dX13_init_176 : cod mX13_init 176 (.bipush 6) 2 := by decide +kernel
theorem dX13_init_178 : cod mX13_init 178 (.newarray .long) 2 := by decide +kernel
theorem dX13_init_180 : cod mX13_init 180 (.putfield 79) 3 := by decide +kernel
theorem dX13_init_183 : cod mX13_init 183 (.aload_n 0) 1 := by decide +kernel
theorem dX13_init_184 : cod mX13_init 184 (.bipush 15) 2 := by decide +kernel
theorem dX13_init_186 : cod mX13_init 186 (.newarray .int) 2 := by decide +kernel
theorem dX13_init_188 : cod mX13_init 188 (.putfield 82) 3 := by decide +kernel
theorem dX13_init_191 : cod mX13_init 191 (.aload_n 0) 1 := by decide +kernel
theorem dX13_init_192 : cod mX13_init 192 (.sipush 225) 3 := by decide +kernel
theorem dX13_init_195 : cod mX13_init 195 (.newarray .long) 2 := by decide +kernel
theorem dX13_init_197 : cod mX13_init 197 (.putfield 85) 3 := by decide +kernel
theorem dX13_init_200 : cod mX13_init 200 (.aload_n 0) 1 := by decide +kernel
theorem dX13_init_201 : cod mX13_init 201 (.sipush 225) 3 := by decide +kernel
theorem dX13_init_204 : cod mX13_init 204 (.newarray .long) 2 := by decide +kernel
theorem dX13_init_206 : cod mX13_init 206 (.putfield 88) 3 := by decide +kernel
theorem dX13_init_209 : cod mX13_init 209 (.aload_n 0) 1 := by decide +kernel
theorem dX13_init_210 : cod mX13_init 210 (.bipush 60) 2 := by decide +kernel
theorem dX13_init_212 : cod mX13_init 212 (.newarray .long) 2 := by decide +kernel
theorem dX13_init_214 : cod mX13_init 214 (.putfield 91) 3 := by decide +kernel
theorem dX13_init_217 : cod mX13_init 217 (.aload_n 0) 1 := by decide +kernel
theorem dX13_init_218 : cod mX13_init 218 (.bipush 8) 2 := by decide +kernel
theorem dX13_init_220 : cod mX13_init 220 (.newarray .int) 2 := by decide +kernel
theorem dX13_init_222 : cod mX13_init 222 (.putfield 94) 3 := by decide +kernel
theorem dX13_init_225 : cod mX13_init 225 (.aload_n 0) 1 := by decide +kernel
theorem dX13_init_226 : cod mX13_init 226 (.bipush 8) 2 := by decide +kernel
theorem dX13_init_228 : cod mX13_init 228 (.newarray .int) 2 := by decide +kernel
theorem dX13_init_230 : cod mX13_init 230 (.putfield 97) 3 := by decide +kernel
theorem dX13_init_233 : cod mX13_init 233 (.aload_n 0) 1 := by decide +kernel
theorem dX13_init_234 : cod mX13_init 234 (.bipush 8) 2 := by decide +kernel
theorem dX13_init_236 : cod mX13_init 236 (.newarray .int) 2 := by decide +kernel
theorem dX13_init_238 : cod mX13_init 238 (.putfield 100) 3 := by decide +kernel
theorem dX13_init_241 : cod mX13_init 241 (.aload_n 0) 1 := by decide +kernel
theorem dX13_init_242 : cod mX13_init 242 (.bipush 8) 2 := by decide +kernel
theorem dX13_init_244 : cod mX13_init 244 (.newarray .int) 2 := by decide +kernel
theorem dX13_init_246 : cod mX13_init 246 (.putfield 103) 3 := by decide +kernel
theorem dX13_init_249 : cod mX13_init 249 (.aload_n 0) 1 := by decide +kernel
theorem dX13_init_250 : cod mX13_init 250 (.bipush 8) 2 := by decide +kernel
theorem dX13_init_252 : cod mX13_init 252 (.newarray .int) 2 := by decide +kernel
theorem dX13_init_254 : cod mX13_init 254 (.putfield 106) 3 := by decide +kernel
theorem dX13_init_257 : cod mX13_init 257 (.aload_n 0) 1 := by decide +kernel
theorem dX13_init_258 : cod mX13_init 258 (.sipush 800) 3 := by decide +kernel
theorem dX13_init_261 : cod mX13_init 261 (.newarray .long) 2 := by decide +kernel
theorem dX13_init_263 : cod mX13_init 263 (.putfield 109) 3 := by decide +kernel
theorem dX13_init_266 : cod mX13_init 266 (.aload_n 0) 1 := by decide +kernel
theorem dX13_init_267 : cod mX13_init 267 (.bipush 100) 2 := by decide +kernel
theorem dX13_init_269 : cod mX13_init 269 (.newarray .long) 2 := by decide +kernel
theorem dX13_init_271 : cod mX13_init 271 (.putfield 112) 3 := by decide +kernel
theorem dX13_init_274 : cod mX13_init 274 (.aload_n 0) 1 := by decide +kernel
theorem dX13_init_275 : cod mX13_init 275 (.iconst 0) 1 := by decide +kernel
theorem dX13_init_276 : cod mX13_init 276 (.putfield 115) 3 := by decide +kernel
theorem dX13_init_279 : cod mX13_init 279 (.return_) 1 := by decide +kernel
def jn_X13_init_274 (Q : Mem → Prop) (x0 : Nat) (M : Mem) (k sl : Nat) : Prop := mK M x0 = 14 ∧ ∀ M295 : Mem, M295 = uI M x0 12 0 → (k ≤ 32 ∧ sl ≤ 1889) ∧ Q M295
theorem P_jn_X13_init_274 {G : GG} {Q : Mem → Prop} (x0 : Nat) (M : Mem) (k sl : Nat) (h : jn_X13_init_274 Q x0 M k sl) : PW G mX13_init (rmD 0 32 1889) (QV Q) 274 [some (.ref x0)] [] M k sl := (s_aload_n (pc := 274) dX13_init_274 rfl (s_iconst (pc := 275) dX13_init_275 ci_0 (s_putI (pc := 276) dX13_init_276 f_X13_115 (Or.inl rfl) (Or.inl rfl) h.1 (nmM (fun M295 e296 => have h297 := h.2 M295 e296; s_return (pc := 279) dX13_init_279 rfl h297.1.1 h297.1.2 ⟨rfl, h297.2⟩)))))
def jn_X13_init_241 (Q : Mem → Prop) (x0 : Nat) (M : Mem) (k sl : Nat) : Prop := (k + 1 ≤ 32 ∧ sl + 8 ≤ 1889) ∧ ∀ a259 : Nat, a259 = mT M → ∀ M262 : Mem, M262 = nw M 20 8 → mK M262 x0 = 14 ∧ ∀ M265 : Mem, M265 = uR M262 x0 52 a259 → ((k + 1) + 1 ≤ 32 ∧ (sl + 8) + 8 ≤ 1889) ∧ ∀ a268 : Nat, a268 = mT M265 → ∀ M271 : Mem, M271 = nw M265 20 8 → mK M271 x0 = 14 ∧ ∀ M274 : Mem, M274 = uR M271 x0 53 a268 → (((k + 1) + 1) + 1 ≤ 32 ∧ ((sl + 8) + 8) + 800 ≤ 1889) ∧ ∀ a277 : Nat, a277 = mT M274 → ∀ M280 : Mem, M280 = nw M274 21 800 → mK M280 x0 = 14 ∧ ∀ M283 : Mem, M283 = uR M280 x0 54 a277 → ((((k + 1) + 1) + 1) + 1 ≤ 32 ∧ (((sl + 8) + 8) + 800) + 100 ≤ 1889) ∧ ∀ a286 : Nat, a286 = mT M283 → ∀ M289 : Mem, M289 = nw M283 21 100 → mK M289 x0 = 14 ∧ ∀ M292 : Mem, M292 = uR M289 x0 55 a286 → jn_X13_init_274 Q x0 M292 ((((k + 1) + 1) + 1) + 1) ((((sl + 8) + 8) + 800) + 100)
theorem P_jn_X13_init_241 {G : GG} {Q : Mem → Prop} (x0 : Nat) (M : Mem) (k sl : Nat) (h : jn_X13_init_241 Q x0 M k sl) : PW G mX13_init (rmD 0 32 1889) (QV Q) 241 [some (.ref x0)] [] M k sl := (s_aload_n (pc := 241) dX13_init_241 rfl (s_bipush (pc := 242) dX13_init_242 cb_8 (s_newarray (pc := 244) (n := 8) dX13_init_244 na_int (by decide) rfl (Nat.le_of_ble_eq_true rfl) h.1.1 h.1.2 (nmR (fun a259 e260 => nmM (fun M262 e263 => have h264 := h.2 a259 e260 M262 e263; s_putR (pc := 246) dX13_init_246 f_X13_103 (Or.inr ⟨rfl, rfl⟩) rfl h264.1 (nmM (fun M265 e266 => have h267 := h264.2 M265 e266; s_aload_n (pc := 249) dX13_init_249 rfl (s_bipush (pc := 250) dX13_init_250 cb_8 (s_newarray (pc := 252) (n := 8) dX13_init_252 na_int (by decide) rfl (Nat.le_of_ble_eq_true rfl) h267.1.1 h267.1.2 (nmR (fun a268 e269 => nmM (fun M271 e272 => have h273 := h267.2 a268 e269 M271 e272; s_putR (pc := 254) dX13_init_254 f_X13_106 (Or.inr ⟨rfl, rfl⟩) rfl h273.1 (nmM (fun M274 e275 => have h276 := h273.2 M274 e275; s_aload_n (pc := 257) dX13_init_257 rfl (s_sipush (pc := 258) dX13_init_258 cs_800 (s_newarray (pc := 261) (n := 800) dX13_init_261 na_long (by decide) rfl (Nat.le_of_ble_eq_true rfl) h276.1.1 h276.1.2 (nmR (fun a277 e278 => nmM (fun M280 e281 => have h282 := h276.2 a277 e278 M280 e281; s_putR (pc := 263) dX13_init_263 f_X13_109 (Or.inr ⟨rfl, rfl⟩) rfl h282.1 (nmM (fun M283 e284 => have h285 := h282.2 M283 e284; s_aload_n (pc := 266) dX13_init_266 rfl (s_bipush (pc := 267) dX13_init_267 cb_100 (s_newarray (pc := 269) (n := 100) dX13_init_269 na_long (by decide) rfl (Nat.le_of_ble_eq_true rfl) h285.1.1 h285.1.2 (nmR (fun a286 e287 => nmM (fun M289 e290 => have h291 := h285.2 a286 e287 M289 e290; s_putR (pc := 271) dX13_init_271 f_X13_112 (Or.inr ⟨rfl, rfl⟩) rfl h291.1 (nmM (fun M292 e293 => have h294 := h291.2 M292 e293; s_sel (L1 := [some (.ref x0)]) [true] rfl (P_jn_X13_init_274 x0 M292 ((((k + 1) + 1) + 1) + 1) ((((sl + 8) + 8) + 800) + 100) h294))))))))))))))))))))))))))))))
def jn_X13_init_209 (Q : Mem → Prop) (x0 : Nat) (M : Mem) (k sl : Nat) : Prop := (k + 1 ≤ 32 ∧ sl + 60 ≤ 1889) ∧ ∀ a223 : Nat, a223 = mT M → ∀ M226 : Mem, M226 = nw M 21 60 → mK M226 x0 = 14 ∧ ∀ M229 : Mem, M229 = uR M226 x0 46 a223 → ((k + 1) + 1 ≤ 32 ∧ (sl + 60) + 8 ≤ 1889) ∧ ∀ a232 : Nat, a232 = mT M229 → ∀ M235 : Mem, M235 = nw M229 20 8 → mK M235 x0 = 14 ∧ ∀ M238 : Mem, M238 = uR M235 x0 49 a232 → (((k + 1) + 1) + 1 ≤ 32 ∧ ((sl + 60) + 8) + 8 ≤ 1889) ∧ ∀ a241 : Nat, a241 = mT M238 → ∀ M244 : Mem, M244 = nw M238 20 8 → mK M244 x0 = 14 ∧ ∀ M247 : Mem, M247 = uR M244 x0 50 a241 → ((((k + 1) + 1) + 1) + 1 ≤ 32 ∧ (((sl + 60) + 8) + 8) + 8 ≤ 1889) ∧ ∀ a250 : Nat, a250 = mT M247 → ∀ M253 : Mem, M253 = nw M247 20 8 → mK M253 x0 = 14 ∧ ∀ M256 : Mem, M256 = uR M253 x0 51 a250 → jn_X13_init_241 Q x0 M256 ((((k + 1) + 1) + 1) + 1) ((((sl + 60) + 8) + 8) + 8)
theorem P_jn_X13_init_209 {G : GG} {Q : Mem → Prop} (x0 : Nat) (M : Mem) (k sl : Nat) (h : jn_X13_init_209 Q x0 M k sl) : PW G mX13_init (rmD 0 32 1889) (QV Q) 209 [some (.ref x0)] [] M k sl := (s_aload_n (pc := 209) dX13_init_209 rfl (s_bipush (pc := 210) dX13_init_210 cb_60 (s_newarray (pc := 212) (n := 60) dX13_init_212 na_long (by decide) rfl (Nat.le_of_ble_eq_true rfl) h.1.1 h.1.2 (nmR (fun a223 e224 => nmM (fun M226 e227 => have h228 := h.2 a223 e224 M226 e227; s_putR (pc := 214) dX13_init_214 f_X13_91 (Or.inr ⟨rfl, rfl⟩) rfl h228.1 (nmM (fun M229 e230 => have h231 := h228.2 M229 e230; s_aload_n (pc := 217) dX13_init_217 rfl (s_bipush (pc := 218) dX13_init_218 cb_8 (s_newarray (pc := 220) (n := 8) dX13_init_220 na_int (by decide) rfl (Nat.le_of_ble_eq_true rfl) h231.1.1 h231.1.2 (nmR (fun a232 e233 => nmM (fun M235 e236 => have h237 := h231.2 a232 e233 M235 e236; s_putR (pc := 222) dX13_init_222 f_X13_94 (Or.inr ⟨rfl, rfl⟩) rfl h237.1 (nmM (fun M238 e239 => have h240 := h237.2 M238 e239; s_aload_n (pc := 225) dX13_init_225 rfl (s_bipush (pc := 226) dX13_init_226 cb_8 (s_newarray (pc := 228) (n := 8) dX13_init_228 na_int (by decide) rfl (Nat.le_of_ble_eq_true rfl) h240.1.1 h240.1.2 (nmR (fun a241 e242 => nmM (fun M244 e245 => have h246 := h240.2 a241 e242 M244 e245; s_putR (pc := 230) dX13_init_230 f_X13_97 (Or.inr ⟨rfl, rfl⟩) rfl h246.1 (nmM (fun M247 e248 => have h249 := h246.2 M247 e248; s_aload_n (pc := 233) dX13_init_233 rfl (s_bipush (pc := 234) dX13_init_234 cb_8 (s_newarray (pc := 236) (n := 8) dX13_init_236 na_int (by decide) rfl (Nat.le_of_ble_eq_true rfl) h249.1.1 h249.1.2 (nmR (fun a250 e251 => nmM (fun M253 e254 => have h255 := h249.2 a250 e251 M253 e254; s_putR (pc := 238) dX13_init_238 f_X13_100 (Or.inr ⟨rfl, rfl⟩) rfl h255.1 (nmM (fun M256 e257 => have h258 := h255.2 M256 e257; s_sel (L1 := [some (.ref x0)]) [true] rfl (P_jn_X13_init_241 x0 M256 ((((k + 1) + 1) + 1) + 1) ((((sl + 60) + 8) + 8) + 8) h258))))))))))))))))))))))))))))))
def jn_X13_init_175 (Q : Mem → Prop) (x0 : Nat) (M : Mem) (k sl : Nat) : Prop := (k + 1 ≤ 32 ∧ sl + 6 ≤ 1889) ∧ ∀ a187 : Nat, a187 = mT M → ∀ M190 : Mem, M190 = nw M 21 6 → mK M190 x0 = 14 ∧ ∀ M193 : Mem, M193 = uR M190 x0 37 a187 → ((k + 1) + 1 ≤ 32 ∧ (sl + 6) + 15 ≤ 1889) ∧ ∀ a196 : Nat, a196 = mT M193 → ∀ M199 : Mem, M199 = nw M193 20 15 → mK M199 x0 = 14 ∧ ∀ M202 : Mem, M202 = uR M199 x0 41 a196 → (((k + 1) + 1) + 1 ≤ 32 ∧ ((sl + 6) + 15) + 225 ≤ 1889) ∧ ∀ a205 : Nat, a205 = mT M202 → ∀ M208 : Mem, M208 = nw M202 21 225 → mK M208 x0 = 14 ∧ ∀ M211 : Mem, M211 = uR M208 x0 43 a205 → ((((k + 1) + 1) + 1) + 1 ≤ 32 ∧ (((sl + 6) + 15) + 225) + 225 ≤ 1889) ∧ ∀ a214 : Nat, a214 = mT M211 → ∀ M217 : Mem, M217 = nw M211 21 225 → mK M217 x0 = 14 ∧ ∀ M220 : Mem, M220 = uR M217 x0 44 a214 → jn_X13_init_209 Q x0 M220 ((((k + 1) + 1) + 1) + 1) ((((sl + 6) + 15) + 225) + 225)
theorem P_jn_X13_init_175 {G : GG} {Q : Mem → Prop} (x0 : Nat) (M : Mem) (k sl : Nat) (h : jn_X13_init_175 Q x0 M k sl) : PW G mX13_init (rmD 0 32 1889) (QV Q) 175 [some (.ref x0)] [] M k sl := (s_aload_n (pc := 175) dX13_init_175 rfl (s_bipush (pc := 176) dX13_init_176 cb_6 (s_newarray (pc := 178) (n := 6) dX13_init_178 na_long (by decide) rfl (Nat.le_of_ble_eq_true rfl) h.1.1 h.1.2 (nmR (fun a187 e188 => nmM (fun M190 e191 => have h192 := h.2 a187 e188 M190 e191; s_putR (pc := 180) dX13_init_180 f_X13_79 (Or.inr ⟨rfl, rfl⟩) rfl h192.1 (nmM (fun M193 e194 => have h195 := h192.2 M193 e194; s_aload_n (pc := 183) dX13_init_183 rfl (s_bipush (pc := 184) dX13_init_184 cb_15 (s_newarray (pc := 186) (n := 15) dX13_init_186 na_int (by decide) rfl (Nat.le_of_ble_eq_true rfl) h195.1.1 h195.1.2 (nmR (fun a196 e197 => nmM (fun M199 e200 => have h201 := h195.2 a196 e197 M199 e200; s_putR (pc := 188) dX13_init_188 f_X13_82 (Or.inr ⟨rfl, rfl⟩) rfl h201.1 (nmM (fun M202 e203 => have h204 := h201.2 M202 e203; s_aload_n (pc := 191) dX13_init_191 rfl (s_sipush (pc := 192) dX13_init_192 cs_225 (s_newarray (pc := 195) (n := 225) dX13_init_195 na_long (by decide) rfl (Nat.le_of_ble_eq_true rfl) h204.1.1 h204.1.2 (nmR (fun a205 e206 => nmM (fun M208 e209 => have h210 := h204.2 a205 e206 M208 e209; s_putR (pc := 197) dX13_init_197 f_X13_85 (Or.inr ⟨rfl, rfl⟩) rfl h210.1 (nmM (fun M211 e212 => have h213 := h210.2 M211 e212; s_aload_n (pc := 200) dX13_init_200 rfl (s_sipush (pc := 201) dX13_init_201 cs_225 (s_newarray (pc := 204) (n := 225) dX13_init_204 na_long (by decide) rfl (Nat.le_of_ble_eq_true rfl) h213.1.1 h213.1.2 (nmR (fun a214 e215 => nmM (fun M217 e218 => have h219 := h213.2 a214 e215 M217 e218; s_putR (pc := 206) dX13_init_206 f_X13_88 (Or.inr ⟨rfl, rfl⟩) rfl h219.1 (nmM (fun M220 e221 => have h222 := h219.2 M220 e221; s_sel (L1 := [some (.ref x0)]) [true] rfl (P_jn_X13_init_209 x0 M220 ((((k + 1) + 1) + 1) + 1) ((((sl + 6) + 15) + 225) + 225) h222))))))))))))))))))))))))))))))
def jn_X13_init_143 (Q : Mem → Prop) (x0 : Nat) (M : Mem) (k sl : Nat) : Prop := (k + 1 ≤ 32 ∧ sl + 7 ≤ 1889) ∧ ∀ a151 : Nat, a151 = mT M → ∀ M154 : Mem, M154 = nw M 20 7 → mK M154 x0 = 14 ∧ ∀ M157 : Mem, M157 = uR M154 x0 31 a151 → ((k + 1) + 1 ≤ 32 ∧ (sl + 7) + 7 ≤ 1889) ∧ ∀ a160 : Nat, a160 = mT M157 → ∀ M163 : Mem, M163 = nw M157 20 7 → mK M163 x0 = 14 ∧ ∀ M166 : Mem, M166 = uR M163 x0 32 a160 → (((k + 1) + 1) + 1 ≤ 32 ∧ ((sl + 7) + 7) + 7 ≤ 1889) ∧ ∀ a169 : Nat, a169 = mT M166 → ∀ M172 : Mem, M172 = nw M166 20 7 → mK M172 x0 = 14 ∧ ∀ M175 : Mem, M175 = uR M172 x0 33 a169 → ((((k + 1) + 1) + 1) + 1 ≤ 32 ∧ (((sl + 7) + 7) + 7) + 7 ≤ 1889) ∧ ∀ a178 : Nat, a178 = mT M175 → ∀ M181 : Mem, M181 = nw M175 22 7 → mK M181 x0 = 14 ∧ ∀ M184 : Mem, M184 = uR M181 x0 34 a178 → jn_X13_init_175 Q x0 M184 ((((k + 1) + 1) + 1) + 1) ((((sl + 7) + 7) + 7) + 7)
theorem P_jn_X13_init_143 {G : GG} {Q : Mem → Prop} (x0 : Nat) (M : Mem) (k sl : Nat) (h : jn_X13_init_143 Q x0 M k sl) : PW G mX13_init (rmD 0 32 1889) (QV Q) 143 [some (.ref x0)] [] M k sl := (s_aload_n (pc := 143) dX13_init_143 rfl (s_bipush (pc := 144) dX13_init_144 cb_7 (s_newarray (pc := 146) (n := 7) dX13_init_146 na_int (by decide) rfl (Nat.le_of_ble_eq_true rfl) h.1.1 h.1.2 (nmR (fun a151 e152 => nmM (fun M154 e155 => have h156 := h.2 a151 e152 M154 e155; s_putR (pc := 148) dX13_init_148 f_X13_66 (Or.inr ⟨rfl, rfl⟩) rfl h156.1 (nmM (fun M157 e158 => have h159 := h156.2 M157 e158; s_aload_n (pc := 151) dX13_init_151 rfl (s_bipush (pc := 152) dX13_init_152 cb_7 (s_newarray (pc := 154) (n := 7) dX13_init_154 na_int (by decide) rfl (Nat.le_of_ble_eq_true rfl) h159.1.1 h159.1.2 (nmR (fun a160 e161 => nmM (fun M163 e164 => have h165 := h159.2 a160 e161 M163 e164; s_putR (pc := 156) dX13_init_156 f_X13_69 (Or.inr ⟨rfl, rfl⟩) rfl h165.1 (nmM (fun M166 e167 => have h168 := h165.2 M166 e167; s_aload_n (pc := 159) dX13_init_159 rfl (s_bipush (pc := 160) dX13_init_160 cb_7 (s_newarray (pc := 162) (n := 7) dX13_init_162 na_int (by decide) rfl (Nat.le_of_ble_eq_true rfl) h168.1.1 h168.1.2 (nmR (fun a169 e170 => nmM (fun M172 e173 => have h174 := h168.2 a169 e170 M172 e173; s_putR (pc := 164) dX13_init_164 f_X13_72 (Or.inr ⟨rfl, rfl⟩) rfl h174.1 (nmM (fun M175 e176 => have h177 := h174.2 M175 e176; s_aload_n (pc := 167) dX13_init_167 rfl (s_bipush (pc := 168) dX13_init_168 cb_7 (s_newarray (pc := 170) (n := 7) dX13_init_170 na_boolean (by decide) rfl (Nat.le_of_ble_eq_true rfl) h177.1.1 h177.1.2 (nmR (fun a178 e179 => nmM (fun M181 e182 => have h183 := h177.2 a178 e179 M181 e182; s_putR (pc := 172) dX13_init_172 f_X13_75 (Or.inr ⟨rfl, rfl⟩) rfl h183.1 (nmM (fun M184 e185 => have h186 := h183.2 M184 e185; s_sel (L1 := [some (.ref x0)]) [true] rfl (P_jn_X13_init_175 x0 M184 ((((k + 1) + 1) + 1) + 1) ((((sl + 7) + 7) + 7) + 7) h186))))))))))))))))))))))))))))))
def jn_X13_init_111 (Q : Mem → Prop) (x0 : Nat) (M : Mem) (k sl : Nat) : Prop := (k + 1 ≤ 32 ∧ sl + 42 ≤ 1889) ∧ ∀ a115 : Nat, a115 = mT M → ∀ M118 : Mem, M118 = nw M 21 42 → mK M118 x0 = 14 ∧ ∀ M121 : Mem, M121 = uR M118 x0 27 a115 → ((k + 1) + 1 ≤ 32 ∧ (sl + 42) + 42 ≤ 1889) ∧ ∀ a124 : Nat, a124 = mT M121 → ∀ M127 : Mem, M127 = nw M121 21 42 → mK M127 x0 = 14 ∧ ∀ M130 : Mem, M130 = uR M127 x0 28 a124 → (((k + 1) + 1) + 1 ≤ 32 ∧ ((sl + 42) + 42) + 7 ≤ 1889) ∧ ∀ a133 : Nat, a133 = mT M130 → ∀ M136 : Mem, M136 = nw M130 20 7 → mK M136 x0 = 14 ∧ ∀ M139 : Mem, M139 = uR M136 x0 29 a133 → ((((k + 1) + 1) + 1) + 1 ≤ 32 ∧ (((sl + 42) + 42) + 7) + 7 ≤ 1889) ∧ ∀ a142 : Nat, a142 = mT M139 → ∀ M145 : Mem, M145 = nw M139 20 7 → mK M145 x0 = 14 ∧ ∀ M148 : Mem, M148 = uR M145 x0 30 a142 → jn_X13_init_143 Q x0 M148 ((((k + 1) + 1) + 1) + 1) ((((sl + 42) + 42) + 7) + 7)
theorem P_jn_X13_init_111 {G : GG} {Q : Mem → Prop} (x0 : Nat) (M : Mem) (k sl : Nat) (h : jn_X13_init_111 Q x0 M k sl) : PW G mX13_init (rmD 0 32 1889) (QV Q) 111 [some (.ref x0)] [] M k sl := (s_aload_n (pc := 111) dX13_init_111 rfl (s_bipush (pc := 112) dX13_init_112 cb_42 (s_newarray (pc := 114) (n := 42) dX13_init_114 na_long (by decide) rfl (Nat.le_of_ble_eq_true rfl) h.1.1 h.1.2 (nmR (fun a115 e116 => nmM (fun M118 e119 => have h120 := h.2 a115 e116 M118 e119; s_putR (pc := 116) dX13_init_116 f_X13_54 (Or.inr ⟨rfl, rfl⟩) rfl h120.1 (nmM (fun M121 e122 => have h123 := h120.2 M121 e122; s_aload_n (pc := 119) dX13_init_119 rfl (s_bipush (pc := 120) dX13_init_120 cb_42 (s_newarray (pc := 122) (n := 42) dX13_init_122 na_long (by decide) rfl (Nat.le_of_ble_eq_true rfl) h123.1.1 h123.1.2 (nmR (fun a124 e125 => nmM (fun M127 e128 => have h129 := h123.2 a124 e125 M127 e128; s_putR (pc := 124) dX13_init_124 f_X13_57 (Or.inr ⟨rfl, rfl⟩) rfl h129.1 (nmM (fun M130 e131 => have h132 := h129.2 M130 e131; s_aload_n (pc := 127) dX13_init_127 rfl (s_bipush (pc := 128) dX13_init_128 cb_7 (s_newarray (pc := 130) (n := 7) dX13_init_130 na_int (by decide) rfl (Nat.le_of_ble_eq_true rfl) h132.1.1 h132.1.2 (nmR (fun a133 e134 => nmM (fun M136 e137 => have h138 := h132.2 a133 e134 M136 e137; s_putR (pc := 132) dX13_init_132 f_X13_60 (Or.inr ⟨rfl, rfl⟩) rfl h138.1 (nmM (fun M139 e140 => have h141 := h138.2 M139 e140; s_aload_n (pc := 135) dX13_init_135 rfl (s_bipush (pc := 136) dX13_init_136 cb_7 (s_newarray (pc := 138) (n := 7) dX13_init_138 na_int (by decide) rfl (Nat.le_of_ble_eq_true rfl) h141.1.1 h141.1.2 (nmR (fun a142 e143 => nmM (fun M145 e146 => have h147 := h141.2 a142 e143 M145 e146; s_putR (pc := 140) dX13_init_140 f_X13_63 (Or.inr ⟨rfl, rfl⟩) rfl h147.1 (nmM (fun M148 e149 => have h150 := h147.2 M148 e149; s_sel (L1 := [some (.ref x0)]) [true] rfl (P_jn_X13_init_143 x0 M148 ((((k + 1) + 1) + 1) + 1) ((((sl + 42) + 42) + 7) + 7) h150))))))))))))))))))))))))))))))
def jn_X13_init_79 (Q : Mem → Prop) (x0 : Nat) (M : Mem) (k sl : Nat) : Prop := (k + 1 ≤ 32 ∧ sl + 50 ≤ 1889) ∧ ∀ a79 : Nat, a79 = mT M → ∀ M82 : Mem, M82 = nw M 20 50 → mK M82 x0 = 14 ∧ ∀ M85 : Mem, M85 = uR M82 x0 20 a79 → ((k + 1) + 1 ≤ 32 ∧ (sl + 50) + 50 ≤ 1889) ∧ ∀ a88 : Nat, a88 = mT M85 → ∀ M91 : Mem, M91 = nw M85 20 50 → mK M91 x0 = 14 ∧ ∀ M94 : Mem, M94 = uR M91 x0 21 a88 → (((k + 1) + 1) + 1 ≤ 32 ∧ ((sl + 50) + 50) + 50 ≤ 1889) ∧ ∀ a97 : Nat, a97 = mT M94 → ∀ M100 : Mem, M100 = nw M94 20 50 → mK M100 x0 = 14 ∧ ∀ M103 : Mem, M103 = uR M100 x0 22 a97 → ((((k + 1) + 1) + 1) + 1 ≤ 32 ∧ (((sl + 50) + 50) + 50) + 6 ≤ 1889) ∧ ∀ a106 : Nat, a106 = mT M103 → ∀ M109 : Mem, M109 = nw M103 21 6 → mK M109 x0 = 14 ∧ ∀ M112 : Mem, M112 = uR M109 x0 23 a106 → jn_X13_init_111 Q x0 M112 ((((k + 1) + 1) + 1) + 1) ((((sl + 50) + 50) + 50) + 6)
theorem P_jn_X13_init_79 {G : GG} {Q : Mem → Prop} (x0 : Nat) (M : Mem) (k sl : Nat) (h : jn_X13_init_79 Q x0 M k sl) : PW G mX13_init (rmD 0 32 1889) (QV Q) 79 [some (.ref x0)] [] M k sl := (s_aload_n (pc := 79) dX13_init_79 rfl (s_bipush (pc := 80) dX13_init_80 cb_50 (s_newarray (pc := 82) (n := 50) dX13_init_82 na_int (by decide) rfl (Nat.le_of_ble_eq_true rfl) h.1.1 h.1.2 (nmR (fun a79 e80 => nmM (fun M82 e83 => have h84 := h.2 a79 e80 M82 e83; s_putR (pc := 84) dX13_init_84 f_X13_42 (Or.inr ⟨rfl, rfl⟩) rfl h84.1 (nmM (fun M85 e86 => have h87 := h84.2 M85 e86; s_aload_n (pc := 87) dX13_init_87 rfl (s_bipush (pc := 88) dX13_init_88 cb_50 (s_newarray (pc := 90) (n := 50) dX13_init_90 na_int (by decide) rfl (Nat.le_of_ble_eq_true rfl) h87.1.1 h87.1.2 (nmR (fun a88 e89 => nmM (fun M91 e92 => have h93 := h87.2 a88 e89 M91 e92; s_putR (pc := 92) dX13_init_92 f_X13_45 (Or.inr ⟨rfl, rfl⟩) rfl h93.1 (nmM (fun M94 e95 => have h96 := h93.2 M94 e95; s_aload_n (pc := 95) dX13_init_95 rfl (s_bipush (pc := 96) dX13_init_96 cb_50 (s_newarray (pc := 98) (n := 50) dX13_init_98 na_int (by decide) rfl (Nat.le_of_ble_eq_true rfl) h96.1.1 h96.1.2 (nmR (fun a97 e98 => nmM (fun M100 e101 => have h102 := h96.2 a97 e98 M100 e101; s_putR (pc := 100) dX13_init_100 f_X13_48 (Or.inr ⟨rfl, rfl⟩) rfl h102.1 (nmM (fun M103 e104 => have h105 := h102.2 M103 e104; s_aload_n (pc := 103) dX13_init_103 rfl (s_bipush (pc := 104) dX13_init_104 cb_6 (s_newarray (pc := 106) (n := 6) dX13_init_106 na_long (by decide) rfl (Nat.le_of_ble_eq_true rfl) h105.1.1 h105.1.2 (nmR (fun a106 e107 => nmM (fun M109 e110 => have h111 := h105.2 a106 e107 M109 e110; s_putR (pc := 108) dX13_init_108 f_X13_51 (Or.inr ⟨rfl, rfl⟩) rfl h111.1 (nmM (fun M112 e113 => have h114 := h111.2 M112 e113; s_sel (L1 := [some (.ref x0)]) [true] rfl (P_jn_X13_init_111 x0 M112 ((((k + 1) + 1) + 1) + 1) ((((sl + 50) + 50) + 50) + 6) h114))))))))))))))))))))))))))))))
def jn_X13_init_36 (Q : Mem → Prop) (x0 : Nat) (M : Mem) (k sl : Nat) : Prop := (k + 1 ≤ 32 ∧ sl + 6 ≤ 1889) ∧ ∀ a37 : Nat, a37 = mT M → ∀ M40 : Mem, M40 = nw M 20 6 → mK M40 x0 = 14 ∧ ∀ M43 : Mem, M43 = uR M40 x0 6 a37 → ∀ M46 : Mem, M46 = uI M43 x0 7 20 → ∀ M49 : Mem, M49 = uI M46 x0 9 3 → ((k + 1) + 1 ≤ 32 ∧ (sl + 6) + 6 ≤ 1889) ∧ ∀ a52 : Nat, a52 = mT M49 → ∀ M55 : Mem, M55 = nw M49 21 6 → mK M55 x0 = 14 ∧ ∀ M58 : Mem, M58 = uR M55 x0 10 a52 → (((k + 1) + 1) + 1 ≤ 32 ∧ ((sl + 6) + 6) + 50 ≤ 1889) ∧ ∀ a61 : Nat, a61 = mT M58 → ∀ M64 : Mem, M64 = nw M58 20 50 → mK M64 x0 = 14 ∧ ∀ M67 : Mem, M67 = uR M64 x0 18 a61 → ((((k + 1) + 1) + 1) + 1 ≤ 32 ∧ (((sl + 6) + 6) + 50) + 50 ≤ 1889) ∧ ∀ a70 : Nat, a70 = mT M67 → ∀ M73 : Mem, M73 = nw M67 20 50 → mK M73 x0 = 14 ∧ ∀ M76 : Mem, M76 = uR M73 x0 19 a70 → jn_X13_init_79 Q x0 M76 ((((k + 1) + 1) + 1) + 1) ((((sl + 6) + 6) + 50) + 50)
theorem P_jn_X13_init_36 {G : GG} {Q : Mem → Prop} (x0 : Nat) (M : Mem) (k sl : Nat) (h : jn_X13_init_36 Q x0 M k sl) : PW G mX13_init (rmD 0 32 1889) (QV Q) 36 [some (.ref x0)] [] M k sl := (s_aload_n (pc := 36) dX13_init_36 rfl (s_bipush (pc := 37) dX13_init_37 cb_6 (s_newarray (pc := 39) (n := 6) dX13_init_39 na_int (by decide) rfl (Nat.le_of_ble_eq_true rfl) h.1.1 h.1.2 (nmR (fun a37 e38 => nmM (fun M40 e41 => have h42 := h.2 a37 e38 M40 e41; s_putR (pc := 41) dX13_init_41 f_X13_22 (Or.inr ⟨rfl, rfl⟩) rfl h42.1 (nmM (fun M43 e44 => have h45 := h42.2 M43 e44; s_aload_n (pc := 44) dX13_init_44 rfl (s_bipush (pc := 45) dX13_init_45 cb_20 (s_putI (pc := 47) dX13_init_47 f_X13_25 (Or.inl rfl) (Or.inl rfl) ((congrFun (congrArg mK e44) x0).trans h42.1) (nmM (fun M46 e47 => have h48 := h45 M46 e47; s_aload_n (pc := 50) dX13_init_50 rfl (s_iconst (pc := 51) dX13_init_51 ci_3 (s_putI (pc := 52) dX13_init_52 f_X13_29 (Or.inl rfl) (Or.inl rfl) ((congrFun (congrArg mK e47) x0).trans ((congrFun (congrArg mK e44) x0).trans h42.1)) (nmM (fun M49 e50 => have h51 := h48 M49 e50; s_aload_n (pc := 55) dX13_init_55 rfl (s_bipush (pc := 56) dX13_init_56 cb_6 (s_newarray (pc := 58) (n := 6) dX13_init_58 na_long (by decide) rfl (Nat.le_of_ble_eq_true rfl) h51.1.1 h51.1.2 (nmR (fun a52 e53 => nmM (fun M55 e56 => have h57 := h51.2 a52 e53 M55 e56; s_putR (pc := 60) dX13_init_60 f_X13_32 (Or.inr ⟨rfl, rfl⟩) rfl h57.1 (nmM (fun M58 e59 => have h60 := h57.2 M58 e59; s_aload_n (pc := 63) dX13_init_63 rfl (s_bipush (pc := 64) dX13_init_64 cb_50 (s_newarray (pc := 66) (n := 50) dX13_init_66 na_int (by decide) rfl (Nat.le_of_ble_eq_true rfl) h60.1.1 h60.1.2 (nmR (fun a61 e62 => nmM (fun M64 e65 => have h66 := h60.2 a61 e62 M64 e65; s_putR (pc := 68) dX13_init_68 f_X13_36 (Or.inr ⟨rfl, rfl⟩) rfl h66.1 (nmM (fun M67 e68 => have h69 := h66.2 M67 e68; s_aload_n (pc := 71) dX13_init_71 rfl (s_bipush (pc := 72) dX13_init_72 cb_50 (s_newarray (pc := 74) (n := 50) dX13_init_74 na_int (by decide) rfl (Nat.le_of_ble_eq_true rfl) h69.1.1 h69.1.2 (nmR (fun a70 e71 => nmM (fun M73 e74 => have h75 := h69.2 a70 e71 M73 e74; s_putR (pc := 76) dX13_init_76 f_X13_39 (Or.inr ⟨rfl, rfl⟩) rfl h75.1 (nmM (fun M76 e77 => have h78 := h75.2 M76 e77; s_sel (L1 := [some (.ref x0)]) [true] rfl (P_jn_X13_init_79 x0 M76 ((((k + 1) + 1) + 1) + 1) ((((sl + 6) + 6) + 50) + 50) h78))))))))))))))))))))))))))))))))))))))
def wp_X13_init (p0 : Nat) (M : Mem) (Q : Mem → Prop) : Prop := mK M p0 = 14 ∧ (0 + 1 ≤ 32 ∧ 0 + 6 ≤ 1889) ∧ ∀ a1 : Nat, a1 = mT M → ∀ M4 : Mem, M4 = nw M 20 6 → mK M4 p0 = 14 ∧ ∀ M7 : Mem, M7 = uR M4 p0 1 a1 → ((0 + 1) + 1 ≤ 32 ∧ (0 + 6) + 6 ≤ 1889) ∧ ∀ a10 : Nat, a10 = mT M7 → ∀ M13 : Mem, M13 = nw M7 20 6 → mK M13 p0 = 14 ∧ ∀ M16 : Mem, M16 = uR M13 p0 2 a10 → (((0 + 1) + 1) + 1 ≤ 32 ∧ ((0 + 6) + 6) + 6 ≤ 1889) ∧ ∀ a19 : Nat, a19 = mT M16 → ∀ M22 : Mem, M22 = nw M16 20 6 → mK M22 p0 = 14 ∧ ∀ M25 : Mem, M25 = uR M22 p0 4 a19 → ((((0 + 1) + 1) + 1) + 1 ≤ 32 ∧ (((0 + 6) + 6) + 6) + 6 ≤ 1889) ∧ ∀ a28 : Nat, a28 = mT M25 → ∀ M31 : Mem, M31 = nw M25 20 6 → mK M31 p0 = 14 ∧ ∀ M34 : Mem, M34 = uR M31 p0 5 a28 → jn_X13_init_36 Q p0 M34 ((((0 + 1) + 1) + 1) + 1) ((((0 + 6) + 6) + 6) + 6)
theorem T_X13_init {G : GG} {Q : Mem → Prop} {M : Mem} {p0 : Nat} (h : wp_X13_init p0 M Q) : PMet G mX13_init 0 32 1889 [.ref p0] M (QV Q) :=
  mk_met (by decide) rfl rfl (by
    intro w hw x9 e9
    subst e9
    simp at hw) (Nat.le_of_ble_eq_true rfl) (s_pad (L1 := [some (.ref p0)]) 1 rfl (s_aload_n (pc := 0) dX13_init_0 rfl (s_objInitK (pc := 1) dX13_init_1 ob_X13_1 h.1 (Nat.le_of_ble_eq_true rfl) (Nat.le_of_ble_eq_true rfl) (s_aload_n (pc := 4) dX13_init_4 rfl (s_bipush (pc := 5) dX13_init_5 cb_6 (s_newarray (pc := 7) (n := 6) dX13_init_7 na_int (by decide) rfl (Nat.le_of_ble_eq_true rfl) h.2.1.1 h.2.1.2 (nmR (fun a1 e2 => nmM (fun M4 e5 => have h6 := h.2.2 a1 e2 M4 e5; s_putR (pc := 9) dX13_init_9 f_X13_7 (Or.inr ⟨rfl, rfl⟩) rfl h6.1 (nmM (fun M7 e8 => have h9 := h6.2 M7 e8; s_aload_n (pc := 12) dX13_init_12 rfl (s_bipush (pc := 13) dX13_init_13 cb_6 (s_newarray (pc := 15) (n := 6) dX13_init_15 na_int (by decide) rfl (Nat.le_of_ble_eq_true rfl) h9.1.1 h9.1.2 (nmR (fun a10 e11 => nmM (fun M13 e14 => have h15 := h9.2 a10 e11 M13 e14; s_putR (pc := 17) dX13_init_17 f_X13_13 (Or.inr ⟨rfl, rfl⟩) rfl h15.1 (nmM (fun M16 e17 => have h18 := h15.2 M16 e17; s_aload_n (pc := 20) dX13_init_20 rfl (s_bipush (pc := 21) dX13_init_21 cb_6 (s_newarray (pc := 23) (n := 6) dX13_init_23 na_int (by decide) rfl (Nat.le_of_ble_eq_true rfl) h18.1.1 h18.1.2 (nmR (fun a19 e20 => nmM (fun M22 e23 => have h24 := h18.2 a19 e20 M22 e23; s_putR (pc := 25) dX13_init_25 f_X13_16 (Or.inr ⟨rfl, rfl⟩) rfl h24.1 (nmM (fun M25 e26 => have h27 := h24.2 M25 e26; s_aload_n (pc := 28) dX13_init_28 rfl (s_bipush (pc := 29) dX13_init_29 cb_6 (s_newarray (pc := 31) (n := 6) dX13_init_31 na_int (by decide) rfl (Nat.le_of_ble_eq_true rfl) h27.1.1 h27.1.2 (nmR (fun a28 e29 => nmM (fun M31 e32 => have h33 := h27.2 a28 e29 M31 e32; s_putR (pc := 33) dX13_init_33 f_X13_19 (Or.inr ⟨rfl, rfl⟩) rfl h33.1 (nmM (fun M34 e35 => have h36 := h33.2 M34 e35; s_sel (L1 := [some (.ref p0)]) [true] rfl (P_jn_X13_init_36 p0 M34 ((((0 + 1) + 1) + 1) + 1) ((((0 + 6) + 6) + 6) + 6) h36)))))))))))))))))))))))))))))))))
/-- a new row, laid into a field of p -/
def al (M : Mem) (p kd n f : Nat) : Mem := uR (nw M kd n) p f (mT M)
/-- a new object, made, laid into a field of p -/
def ob (M : Mem) (kd p f : Nat) (ini : Mem → Nat → Mem) : Mem := uR (ini (nw M kd 0) (mT M)) p f (mT M)
theorem kp_nw {M : Mem} {p k kd n : Nat} (h : mK M p = k ∧ p < mT M) : mK (nw M kd n) p = k ∧ p < mT (nw M kd n) := ⟨(if_neg (Nat.ne_of_lt h.2)).trans h.1, Nat.lt_succ_of_lt h.2⟩
theorem nw_self {M : Mem} {kd n : Nat} : mK (nw M kd n) (mT M) = kd ∧ mT M < mT (nw M kd n) := ⟨if_pos rfl, Nat.lt_succ_self _⟩
theorem kp_al {M : Mem} {p k q kd n f : Nat} (h : mK M p = k ∧ p < mT M) : mK (al M q kd n f) p = k ∧ p < mT (al M q kd n f) := kp_nw (n := n) h
theorem kp_uI {M : Mem} {p k q f : Nat} {v : Int32} (h : mK M p = k ∧ p < mT M) : mK (uI M q f v) p = k ∧ p < mT (uI M q f v) := h
theorem kp_uR {M : Mem} {p k q f v : Nat} (h : mK M p = k ∧ p < mT M) : mK (uR M q f v) p = k ∧ p < mT (uR M q f v) := h
theorem kp_ob {M : Mem} {p k q kd f : Nat} {ini : Mem → Nat → Mem} (hk : ∀ {k p : Nat} (M : Mem) (a : Nat), (mK M p = k ∧ p < mT M) → mK (ini M a) p = k ∧ p < mT (ini M a)) (h : mK M p = k ∧ p < mT M) : mK (ob M kd q f ini) p = k ∧ p < mT (ob M kd q f ini) := hk _ _ (kp_nw h)
theorem al_st {M : Mem} {p k kd n f : Nat} {R : Mem → Prop} (h : mK M p = k ∧ p < mT M) (hR : R (al M p kd n f)) : ∀ a1 : Nat, a1 = mT M → ∀ M4 : Mem, M4 = nw M kd n → mK M4 p = k ∧ ∀ M7 : Mem, M7 = uR M4 p f a1 → R M7 := by
  intro a1 e1 M4 e4
  subst e1
  subst e4
  exact ⟨(kp_nw h).1, fun M7 e7 => by
    subst e7
    exact hR⟩
theorem uI_st {M : Mem} {p f : Nat} {v : Int32} {R : Mem → Prop} (hR : R (uI M p f v)) : ∀ M' : Mem, M' = uI M p f v → R M' := fun M' e => by
  subst e
  exact hR
theorem ob_st {M : Mem} {p k kd f : Nat} {P1 : Prop} {W : Nat → Mem → (Mem → Prop) → Prop} {ini : Mem → Nat → Mem} {R : Mem → Prop} (hW : ∀ (M : Mem) (a : Nat) (Q : Mem → Prop), (mK M a = kd ∧ a < mT M) → Q (ini M a) → W a M Q) (hk : ∀ {k p : Nat} (M : Mem) (a : Nat), (mK M p = k ∧ p < mT M) → mK (ini M a) p = k ∧ p < mT (ini M a)) (h : mK M p = k ∧ p < mT M) (hP : P1) (hR : R (ob M kd p f ini)) : ∀ a : Nat, a = mT M → ∀ M4 : Mem, M4 = nw M kd 0 → P1 ∧ W a M4 (fun M8 => mK M8 p = k ∧ ∀ M9 : Mem, M9 = uR M8 p f a → R M9) := by
  intro a e M4 e4
  subst e
  subst e4
  refine ⟨hP, hW _ _ _ nw_self ⟨(hk _ _ (kp_nw h)).1, fun M9 e9 => ?_⟩⟩
  subst e9
  exact hR

def i9 (M : Mem) (p : Nat) : Mem := al M p 21 6 0
theorem k_i9 {k p : Nat} (M : Mem) (a : Nat) (h : mK M p = k ∧ p < mT M) : mK (i9 M a) p = k ∧ p < mT (i9 M a) := (kp_al h)
theorem S_i9 (M : Mem) (p : Nat) (Q : Mem → Prop) (h : mK M p = 10 ∧ p < mT M) (hQ : Q (i9 M p)) : wp_X9_init p M Q := ⟨h.1, ⟨(by decide), al_st h (⟨(by decide), hQ⟩)⟩⟩
def i7 (M : Mem) (p : Nat) : Mem := al M p 20 3 3
theorem k_i7 {k p : Nat} (M : Mem) (a : Nat) (h : mK M p = k ∧ p < mT M) : mK (i7 M a) p = k ∧ p < mT (i7 M a) := (kp_al h)
theorem S_i7 (M : Mem) (p : Nat) (Q : Mem → Prop) (h : mK M p = 8 ∧ p < mT M) (hQ : Q (i7 M p)) : wp_X7_init p M Q := ⟨h.1, ⟨(by decide), al_st h (⟨(by decide), hQ⟩)⟩⟩
def i4 (M : Mem) (p : Nat) : Mem := al (uI M p 1 (-1)) p 20 100 3
theorem k_i4 {k p : Nat} (M : Mem) (a : Nat) (h : mK M p = k ∧ p < mT M) : mK (i4 M a) p = k ∧ p < mT (i4 M a) := (kp_al (kp_uI h))
theorem S_i4 (M : Mem) (p : Nat) (Q : Mem → Prop) (h : mK M p = 5 ∧ p < mT M) (hQ : Q (i4 M p)) : wp_X4_init p M Q := ⟨h.1, uI_st (⟨(by decide), al_st (kp_uI h) (⟨(by decide), hQ⟩)⟩)⟩
def i6 (M : Mem) (p : Nat) : Mem := al (al (uI (uI (al (al (al (al (al M p 20 6 1) p 20 6 2) p 20 6 4) p 20 6 5) p 20 6 6) p 7 20) p 9 3) p 20 606 10) p 20 606 11
theorem k_i6 {k p : Nat} (M : Mem) (a : Nat) (h : mK M p = k ∧ p < mT M) : mK (i6 M a) p = k ∧ p < mT (i6 M a) := (kp_al (kp_al (kp_uI (kp_uI (kp_al (kp_al (kp_al (kp_al (kp_al h)))))))))
theorem S_i6 (M : Mem) (p : Nat) (Q : Mem → Prop) (h : mK M p = 7 ∧ p < mT M) (hQ : Q (i6 M p)) : wp_X6_init p M Q := ⟨h.1, ⟨(by decide), al_st h (⟨(by decide), al_st (kp_al h) (⟨(by decide), al_st (kp_al (kp_al h)) (⟨(by decide), al_st (kp_al (kp_al (kp_al h))) (⟨(by decide), al_st (kp_al (kp_al (kp_al (kp_al h)))) (uI_st (uI_st (⟨(by decide), al_st (kp_uI (kp_uI (kp_al (kp_al (kp_al (kp_al (kp_al h))))))) (⟨(by decide), al_st (kp_al (kp_uI (kp_uI (kp_al (kp_al (kp_al (kp_al (kp_al h)))))))) (⟨(by decide), hQ⟩)⟩)⟩)))⟩)⟩)⟩)⟩)⟩⟩
def i5 (M : Mem) (p : Nat) : Mem := al (al (al (al (ob (ob (al (al M p 20 55 4) p 20 55 5) 10 p 6 i9) 10 p 7 i9) p 21 11 8) p 21 11 9) p 21 55 12) p 21 55 13
theorem k_i5 {k p : Nat} (M : Mem) (a : Nat) (h : mK M p = k ∧ p < mT M) : mK (i5 M a) p = k ∧ p < mT (i5 M a) := (kp_al (kp_al (kp_al (kp_al (kp_ob k_i9 (kp_ob k_i9 (kp_al (kp_al h))))))))
theorem S_i5 (M : Mem) (p : Nat) (Q : Mem → Prop) (h : mK M p = 6 ∧ p < mT M) (hQ : Q (i5 M p)) : wp_X5_init p M Q := ⟨h.1, ⟨(by decide), al_st h (⟨(by decide), al_st (kp_al h) (⟨(by decide), ob_st S_i9 k_i9 (kp_al (kp_al h)) (by decide) (⟨(by decide), ob_st S_i9 k_i9 (kp_ob k_i9 (kp_al (kp_al h))) (by decide) (⟨(by decide), al_st (kp_ob k_i9 (kp_ob k_i9 (kp_al (kp_al h)))) (⟨(by decide), al_st (kp_al (kp_ob k_i9 (kp_ob k_i9 (kp_al (kp_al h))))) (⟨(by decide), al_st (kp_al (kp_al (kp_ob k_i9 (kp_ob k_i9 (kp_al (kp_al h)))))) (⟨(by decide), al_st (kp_al (kp_al (kp_al (kp_ob k_i9 (kp_ob k_i9 (kp_al (kp_al h))))))) (⟨(by decide), hQ⟩)⟩)⟩)⟩)⟩)⟩)⟩)⟩)⟩⟩
def i13_274 (M : Mem) (p : Nat) : Mem := (uI M p 12 0)
theorem S_i13_274 {M : Mem} {p k sl : Nat} {Q : Mem → Prop} (h : mK M p = 14 ∧ p < mT M) (hk : k + 0 ≤ 32 ∧ sl + 0 ≤ 1889) (hQ : Q (i13_274 M p)) : jn_X13_init_274 Q p M k sl := ⟨h.1, uI_st (⟨hk, hQ⟩)⟩
def i13_241 (M : Mem) (p : Nat) : Mem := i13_274 (al (al (al (al M p 20 8 52) p 20 8 53) p 21 800 54) p 21 100 55) p
theorem S_i13_241 {M : Mem} {p k sl : Nat} {Q : Mem → Prop} (h : mK M p = 14 ∧ p < mT M) (hk : k + 4 ≤ 32 ∧ sl + 916 ≤ 1889) (hQ : Q (i13_241 M p)) : jn_X13_init_241 Q p M k sl := ⟨⟨by omega, by omega⟩, al_st h (⟨⟨by omega, by omega⟩, al_st (kp_al h) (⟨⟨by omega, by omega⟩, al_st (kp_al (kp_al h)) (⟨⟨by omega, by omega⟩, al_st (kp_al (kp_al (kp_al h))) (S_i13_274 (kp_al (kp_al (kp_al (kp_al h)))) (by omega) hQ)⟩)⟩)⟩)⟩
def i13_209 (M : Mem) (p : Nat) : Mem := i13_241 (al (al (al (al M p 21 60 46) p 20 8 49) p 20 8 50) p 20 8 51) p
theorem S_i13_209 {M : Mem} {p k sl : Nat} {Q : Mem → Prop} (h : mK M p = 14 ∧ p < mT M) (hk : k + 8 ≤ 32 ∧ sl + 1000 ≤ 1889) (hQ : Q (i13_209 M p)) : jn_X13_init_209 Q p M k sl := ⟨⟨by omega, by omega⟩, al_st h (⟨⟨by omega, by omega⟩, al_st (kp_al h) (⟨⟨by omega, by omega⟩, al_st (kp_al (kp_al h)) (⟨⟨by omega, by omega⟩, al_st (kp_al (kp_al (kp_al h))) (S_i13_241 (kp_al (kp_al (kp_al (kp_al h)))) (by omega) hQ)⟩)⟩)⟩)⟩
def i13_175 (M : Mem) (p : Nat) : Mem := i13_209 (al (al (al (al M p 21 6 37) p 20 15 41) p 21 225 43) p 21 225 44) p
theorem S_i13_175 {M : Mem} {p k sl : Nat} {Q : Mem → Prop} (h : mK M p = 14 ∧ p < mT M) (hk : k + 12 ≤ 32 ∧ sl + 1471 ≤ 1889) (hQ : Q (i13_175 M p)) : jn_X13_init_175 Q p M k sl := ⟨⟨by omega, by omega⟩, al_st h (⟨⟨by omega, by omega⟩, al_st (kp_al h) (⟨⟨by omega, by omega⟩, al_st (kp_al (kp_al h)) (⟨⟨by omega, by omega⟩, al_st (kp_al (kp_al (kp_al h))) (S_i13_209 (kp_al (kp_al (kp_al (kp_al h)))) (by omega) hQ)⟩)⟩)⟩)⟩
def i13_143 (M : Mem) (p : Nat) : Mem := i13_175 (al (al (al (al M p 20 7 31) p 20 7 32) p 20 7 33) p 22 7 34) p
theorem S_i13_143 {M : Mem} {p k sl : Nat} {Q : Mem → Prop} (h : mK M p = 14 ∧ p < mT M) (hk : k + 16 ≤ 32 ∧ sl + 1499 ≤ 1889) (hQ : Q (i13_143 M p)) : jn_X13_init_143 Q p M k sl := ⟨⟨by omega, by omega⟩, al_st h (⟨⟨by omega, by omega⟩, al_st (kp_al h) (⟨⟨by omega, by omega⟩, al_st (kp_al (kp_al h)) (⟨⟨by omega, by omega⟩, al_st (kp_al (kp_al (kp_al h))) (S_i13_175 (kp_al (kp_al (kp_al (kp_al h)))) (by omega) hQ)⟩)⟩)⟩)⟩
def i13_111 (M : Mem) (p : Nat) : Mem := i13_143 (al (al (al (al M p 21 42 27) p 21 42 28) p 20 7 29) p 20 7 30) p
theorem S_i13_111 {M : Mem} {p k sl : Nat} {Q : Mem → Prop} (h : mK M p = 14 ∧ p < mT M) (hk : k + 20 ≤ 32 ∧ sl + 1597 ≤ 1889) (hQ : Q (i13_111 M p)) : jn_X13_init_111 Q p M k sl := ⟨⟨by omega, by omega⟩, al_st h (⟨⟨by omega, by omega⟩, al_st (kp_al h) (⟨⟨by omega, by omega⟩, al_st (kp_al (kp_al h)) (⟨⟨by omega, by omega⟩, al_st (kp_al (kp_al (kp_al h))) (S_i13_143 (kp_al (kp_al (kp_al (kp_al h)))) (by omega) hQ)⟩)⟩)⟩)⟩
def i13_79 (M : Mem) (p : Nat) : Mem := i13_111 (al (al (al (al M p 20 50 20) p 20 50 21) p 20 50 22) p 21 6 23) p
theorem S_i13_79 {M : Mem} {p k sl : Nat} {Q : Mem → Prop} (h : mK M p = 14 ∧ p < mT M) (hk : k + 24 ≤ 32 ∧ sl + 1753 ≤ 1889) (hQ : Q (i13_79 M p)) : jn_X13_init_79 Q p M k sl := ⟨⟨by omega, by omega⟩, al_st h (⟨⟨by omega, by omega⟩, al_st (kp_al h) (⟨⟨by omega, by omega⟩, al_st (kp_al (kp_al h)) (⟨⟨by omega, by omega⟩, al_st (kp_al (kp_al (kp_al h))) (S_i13_111 (kp_al (kp_al (kp_al (kp_al h)))) (by omega) hQ)⟩)⟩)⟩)⟩
def i13_36 (M : Mem) (p : Nat) : Mem := i13_79 (al (al (al (uI (uI (al M p 20 6 6) p 7 20) p 9 3) p 21 6 10) p 20 50 18) p 20 50 19) p
theorem S_i13_36 {M : Mem} {p k sl : Nat} {Q : Mem → Prop} (h : mK M p = 14 ∧ p < mT M) (hk : k + 28 ≤ 32 ∧ sl + 1865 ≤ 1889) (hQ : Q (i13_36 M p)) : jn_X13_init_36 Q p M k sl := ⟨⟨by omega, by omega⟩, al_st h (uI_st (uI_st (⟨⟨by omega, by omega⟩, al_st (kp_uI (kp_uI (kp_al h))) (⟨⟨by omega, by omega⟩, al_st (kp_al (kp_uI (kp_uI (kp_al h)))) (⟨⟨by omega, by omega⟩, al_st (kp_al (kp_al (kp_uI (kp_uI (kp_al h))))) (S_i13_79 (kp_al (kp_al (kp_al (kp_uI (kp_uI (kp_al h)))))) (by omega) hQ)⟩)⟩)⟩)))⟩
def i13 (M : Mem) (p : Nat) : Mem := i13_36 (al (al (al (al M p 20 6 1) p 20 6 2) p 20 6 4) p 20 6 5) p
theorem S_i13 (M : Mem) (p : Nat) (Q : Mem → Prop) (h : mK M p = 14 ∧ p < mT M) (hQ : Q (i13 M p)) : wp_X13_init p M Q := ⟨h.1, ⟨(by decide), al_st h (⟨(by decide), al_st (kp_al h) (⟨(by decide), al_st (kp_al (kp_al h)) (⟨(by decide), al_st (kp_al (kp_al (kp_al h))) (S_i13_36 (kp_al (kp_al (kp_al (kp_al h)))) (by decide) hQ)⟩)⟩)⟩)⟩⟩
/-! closed: all of it -/
def mm0 : Mem := (2, fun _ => 0, fun _ => 0, fun _ _ => 0, fun _ _ => 0, fun _ _ => 0)
def mmA : Mem := al (ob (ob (ob (ob (ob (ob (nw mm0 13 0) 7 2 0 i6) 7 2 1 i6) 7 2 2 i6) 10 2 3 i9) 10 2 4 i9) 10 2 5 i9) 2 24 8 7
def mmB : Nat → Mem
  | 0 => mmA
  | j + 1 => uR (i4 (nw (mmB j) 5 0) (mT (mmB j))) 33 j (mT (mmB j))
def mmC : Mem := nw (ob (mmB 8) 8 2 8 i7) 1 0
def mmD : Mem := uR (mna (al mmC 52 23 7 0)) 52 1 (mT (al mmC 52 23 7 0))
def mmE : Nat → Mem
  | 0 => mmD
  | j + 1 => uR (i9 (nw (mmE j) 10 0) (mT (mmE j))) 53 j (mT (mmE j))
def mmF : Mem := ob (uR (mmE 7) 2 9 52) 6 2 10 i5
def mmG : Mem := nw (i13 (nw mmF 14 0) 87) 21 1
theorem mB_k : ∀ j, j < 8 → mK (mmB j) 2 = 13 ∧ mR (mmB j) 2 7 = 33 ∧ mK (mmB j) 33 = 24 ∧ mN (mmB j) 33 = 8 ∧ mT (mmB j) = 34 + 2 * j := by decide +kernel
theorem mB_8 : mK (mmB 8) 2 = 13 ∧ mT (mmB 8) = 50 := by decide +kernel
theorem mE_k : ∀ j, j < 7 → mK (mmE j) 52 = 1 ∧ mR (mmE j) 52 0 = 53 ∧ mK (mmE j) 53 = 23 ∧ mN (mmE j) 53 = 7 ∧ mT (mmE j) = 62 + 2 * j := by decide +kernel
theorem mE_7 : mK (mmE 7) 2 = 13 ∧ mT (mmE 7) = 76 := by decide +kernel
theorem mE_n : ∀ j, j < 7 → mN (i9 (nw (mmE j) 10 0) (mT (mmE j))) 53 = 7 := by decide +kernel
theorem mB_n : ∀ j, j < 8 → mN (i4 (nw (mmB j) 5 0) (mT (mmB j))) 33 = 8 := by decide +kernel
theorem mC_k : mK mmC 52 = 1 ∧ 52 < mT mmC := by decide +kernel
theorem mC_T : mT (ob (mmB 8) 8 2 8 i7) = 52 := by decide +kernel
theorem mD_k : mK (mna (al mmC 52 23 7 0)) 52 = 1 := by decide +kernel
theorem lp_X0 {Q : Mem → Prop} (hQ : Q (mmE 7)) : ∀ m j : Nat, j + m = 7 → lp_X0_init_27 Q (m + 1) 52 (nI j) (mmE j) (9 + 2 * j) (56 + 8 * j) := by
  intro m
  induction m with
  | zero =>
    intro j hj
    have e : j = 7 := by omega
    subst e
    exact ⟨fun _ => ⟨⟨by decide, by decide⟩, hQ⟩, fun q => absurd (by decide) q⟩
  | succ m ih =>
    intro j hj
    obtain ⟨f1, f2, f3, f4, f5⟩ := mE_k j (by omega)
    have q := ih (j + 1) (by omega)
    refine ⟨fun q => absurd q (show ¬ nI 6 < nI j from nI_nlt (by omega) (by decide)), fun _ => ⟨f1, ⟨by omega, by omega⟩, fun a ea M4 e4 => ⟨⟨by omega, by omega⟩, ?_⟩⟩⟩
    subst ea
    subst e4
    refine S_i9 _ _ _ nw_self ?_
    rw [f2]
    refine ⟨(k_i9 _ _ (kp_nw ⟨f3, by omega⟩)).1, (k_i9 _ _ nw_self).1, by rw [mE_n j (by omega)]; exact vp_in_nI (by omega) (by omega), fun M30 e => ?_⟩
    rw [nI_clamp (by omega)] at e
    have e : M30 = mmE (j + 1) := e
    rw [e, nI_1]
    rw [show 9 + 2 * (j + 1) = 9 + 2 * j + 1 + 1 by omega, show 56 + 8 * (j + 1) = 56 + 8 * j + 2 + 6 by omega] at q
    exact q
theorem S_X0 {Q : Mem → Prop} (hQ : Q (mmE 7)) : wp_X0_init 52 mmC Q :=
  ⟨mC_k.1, by decide, al_st mC_k ⟨by decide, fun a e M12 e12 => by
    subst e
    subst e12
    exact ⟨mD_k, fun M15 e15 => by
      have q := lp_X0 hQ 7 0 rfl
      rw [nI_0] at q
      subst e15
      exact ⟨8, q⟩⟩⟩⟩
theorem mE_7k : mK (mmE 7) 2 = 13 ∧ 2 < mT (mmE 7) := ⟨mE_7.1, by rw [mE_7.2]; decide⟩
theorem x12_end {Q : Mem → Prop} {X : Mem} {P1 P2 P3 : Prop} (h : mK X 2 = 13 ∧ 2 < mT X) (p1 : P1) (p2 : P2) (p3 : P3) (hQ : Q (ob (uR X 2 9 52) 6 2 10 i5)) : mK X 2 = 13 ∧ ∀ M99 : Mem, M99 = uR X 2 9 52 → P1 ∧ ∀ a : Nat, a = mT M99 → ∀ M4 : Mem, M4 = nw M99 6 0 → P2 ∧ wp_X5_init a M4 (fun M8 => mK M8 2 = 13 ∧ ∀ M9 : Mem, M9 = uR M8 2 10 a → P3 ∧ Q M9) :=
  ⟨h.1, fun M99 e => by
    subst e
    exact ⟨p1, ob_st S_i5 k_i5 (kp_uR h) p2 ⟨p3, hQ⟩⟩⟩
theorem lp_X12 {Q : Mem → Prop} (hQ : Q mmF) : ∀ m j : Nat, j + m = 8 → lp_X12_init_81 Q (m + 1) 2 (nI j) (mmB j) (31 + 2 * j) (3794 + 104 * j) := by
  intro m
  induction m with
  | zero =>
    intro j hj
    have e : j = 8 := by omega
    subst e
    exact ⟨fun _ => ⟨by decide, ob_st S_i7 k_i7 ⟨mB_8.1, by rw [mB_8.2]; decide⟩ (by decide) ⟨by decide, fun a e M4 e4 => by
      have e : a = 52 := e.trans mC_T
      subst e
      subst e4
      exact ⟨by decide, S_X0 (x12_end mE_7k (by decide) (by decide) (by decide) hQ)⟩⟩⟩, fun q => absurd (by decide) q⟩
  | succ m ih =>
    intro j hj
    obtain ⟨f1, f2, f3, f4, f5⟩ := mB_k j (by omega)
    have q := ih (j + 1) (by omega)
    refine ⟨fun q => absurd q (show ¬ nI 8 ≤ nI j from nI_ge (by omega) (by decide)), fun _ => ⟨f1, ⟨by omega, by omega⟩, fun a ea M4 e4 => ⟨⟨by omega, by omega⟩, ?_⟩⟩⟩
    subst ea
    subst e4
    refine S_i4 _ _ _ nw_self ?_
    rw [f2]
    refine ⟨(k_i4 _ _ (kp_nw ⟨f3, by omega⟩)).1, (k_i4 _ _ nw_self).1, by rw [mB_n j (by omega)]; exact vp_in_nI (by omega) (by omega), fun M30 e => ?_⟩
    rw [nI_clamp (by omega)] at e
    have e : M30 = mmB (j + 1) := e
    rw [e, nI_1]
    rw [show 31 + 2 * (j + 1) = 31 + 2 * j + 1 + 1 by omega, show 3794 + 104 * (j + 1) = 3794 + 104 * j + 4 + 100 by omega] at q
    exact q
theorem m0_k : mK (nw mm0 13 0) 2 = 13 ∧ 2 < mT (nw mm0 13 0) := by decide +kernel
theorem S_X12_init {Q : Mem → Prop} (hQ : Q mmF) : wp_X12_init 2 (nw mm0 13 0) Q :=
  have h1 := kp_ob (q := 2) (f := 0) (kd := 7) k_i6 m0_k
  have h2 := kp_ob (q := 2) (f := 1) (kd := 7) k_i6 h1
  have h3 := kp_ob (q := 2) (f := 2) (kd := 7) k_i6 h2
  have h4 := kp_ob (q := 2) (f := 3) (kd := 10) k_i9 h3
  have h5 := kp_ob (q := 2) (f := 4) (kd := 10) k_i9 h4
  have h6 := kp_ob (q := 2) (f := 5) (kd := 10) k_i9 h5
  ⟨m0_k.1, by decide, ob_st S_i6 k_i6 m0_k (by decide) ⟨by decide, ob_st S_i6 k_i6 h1 (by decide) ⟨by decide, ob_st S_i6 k_i6 h2 (by decide) ⟨by decide, ob_st S_i9 k_i9 h3 (by decide) ⟨by decide, ob_st S_i9 k_i9 h4 (by decide) ⟨by decide, ob_st S_i9 k_i9 h5 (by decide) ⟨by decide, al_st h6 (by
    have q := lp_X12 hQ 8 0 rfl
    rw [nI_0] at q
    exact ⟨9, q⟩)⟩⟩⟩⟩⟩⟩⟩
/-! what it is -/
def s0 : StT := (0, fun _ => 0, fun _ => 0, 0, fun _ => 0, fun _ => 0, fun _ => 0, 20, 0, 3)
def c0 : CT := (s0, fun _ => 0, 0, false, s0, fun _ => 0, 0, fun _ => (0, 0, 0, fun _ => 0))
theorem s0_wf : sWF s0 := ⟨by decide, fun i h => absurd h (Nat.not_lt_zero i), by decide, fun j h => absurd h (Nat.not_lt_zero j), by decide, by decide, by decide, by decide, by decide, by decide⟩
theorem mF_T : mT mmF = 87 := by decide +kernel
theorem mF_k : mK (nw mmF 14 0) 87 = 14 ∧ 87 < mT (nw mmF 14 0) := by decide +kernel
theorem mG_T : mT (i13 (nw mmF 14 0) 87) = 120 := by decide +kernel
theorem g_cm : CmOK mmG := by
  refine ⟨by decide +kernel, by decide +kernel, by decide +kernel, ?_, ?_, ?_, ?_, ⟨by decide +kernel, by decide +kernel, by decide +kernel, by decide +kernel, by decide +kernel, by decide +kernel, by decide +kernel, ?_, ?_⟩, ⟨by decide +kernel, by decide +kernel, by decide +kernel, ?_, ?_, by decide +kernel, by decide +kernel⟩, by decide +kernel⟩
  · unfold StOK; decide +kernel
  · unfold StOK; decide +kernel
  · unfold ThOK; decide +kernel
  · unfold ThOK; decide +kernel
  · unfold ThOK; decide +kernel
  · decide +kernel
  · unfold ThOK; decide +kernel
  · unfold ThOK; decide +kernel
theorem g_st : StOK mmG 3 := by
  unfold StOK
  decide +kernel
theorem g_th : ThOK mmG 27 := by
  unfold ThOK
  decide +kernel
theorem g_sh : ∀ d, d < 8 → ShOK mmG (34 + 2 * d) ∧ mR mmG (34 + 2 * d) 0 = 0 ∧ mI mmG (34 + 2 * d) 1 = -1 := by
  unfold ShOK
  decide +kernel
theorem g_tx : TxOK mmG 50 ∧ mI mmG 50 0 = 0 ∧ mI mmG 50 1 = 0 ∧ mI mmG 50 2 = 0 ∧ ∀ k, k < 3 → mI mmG 51 k = 0 := by
  unfold TxOK
  decide +kernel
theorem g_n : (mI mmG 3 0 = 0 ∧ mI mmG 3 3 = 0 ∧ mI mmG 3 7 = 20 ∧ mI mmG 3 8 = 0 ∧ mI mmG 3 9 = 3) ∧ mI mmG 28 0 = 0 ∧ mI mmG 27 1 = 0 ∧ mI mmG 2 6 = 0 := by decide +kernel
theorem g_C : AbsC mmG c0 :=
  ⟨g_cm, ⟨⟨g_st, s0_wf, g_n.1, fun i h => absurd h (Nat.not_lt_zero i), fun j h => absurd h (Nat.not_lt_zero j)⟩, fun i h => absurd h (Nat.not_lt_zero i)⟩, ⟨g_th, g_n.2.2.1, by decide, fun i h => absurd h (Nat.not_lt_zero i), fun i h => absurd h (Nat.not_lt_zero i)⟩, g_n.2.2.2, fun h => absurd h (by decide), fun d hd => ⟨(g_sh d hd).1, Or.inl ⟨rfl, (g_sh d hd).2⟩⟩, (0, 0, 0, fun _ => 0), g_tx.1, ⟨by decide, by decide, by decide, fun _ => (by decide : (0 : Nat) < 1000), fun h => absurd rfl h⟩, g_tx.2⟩
theorem g_md : ∀ k, k < 56 → (mdT k).1 ≠ 0 → mR mmG 87 k = (mdT k).1 ∧ mK mmG (mdT k).1 = (mdT k).2.1 ∧ mN mmG (mdT k).1 = (mdT k).2.2 := by decide +kernel
theorem g_r : mK mmG 87 = 14 ∧ (mI mmG 87 0 = 0 ∧ mI mmG 87 3 = 0 ∧ mI mmG 87 7 = 20 ∧ mI mmG 87 8 = 0 ∧ mI mmG 87 9 = 3) ∧ mI mmG 87 11 = 0 ∧ mI mmG 87 45 = 0 ∧ ∀ d, d < 8 → mI mmG 113 d = 0 := by decide +kernel
theorem mdT_big (n : Nat) : (mdT (n + 56)).1 = 0 := rfl
theorem g_R : AbsR mmG c0 :=
  ⟨⟨g_r.1, fun k hk => by
    by_cases h : k < 56
    · exact g_md k h hk
    · obtain ⟨n, e⟩ : ∃ n, k = n + 56 := ⟨k - 56, by omega⟩
      subst e
      exact absurd (mdT_big n) hk⟩, ⟨s0_wf, g_r.2.1, fun i h => absurd h (Nat.not_lt_zero i), fun j h => absurd h (Nat.not_lt_zero j)⟩, ⟨g_r.2.2.1, by decide, fun i h => absurd h (Nat.not_lt_zero i)⟩, g_r.2.2.2.1, fun h => absurd h (by decide), fun d hd => Or.inl ⟨rfl, g_r.2.2.2.2 d hd⟩⟩
theorem g_o : mK mmG 120 = 21 ∧ mN mmG 120 = 1 := by decide +kernel
theorem g_L : LInv c0 mmG := ⟨g_C, g_R, ⟨fun h => absurd h (Nat.lt_irrefl 0), fun h => absurd h (by decide)⟩, g_o.1, g_o.2⟩

