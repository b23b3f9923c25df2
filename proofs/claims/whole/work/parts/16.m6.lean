/-! X13_beside -/
theorem dX13_beside_0 : cod mX13_beside 0 (.aload_n 0) 1 := by decide +kernel
theorem dX13_beside_1 : cod mX13_beside 1 (.iconst 0) 1 := by decide +kernel
theorem dX13_beside_2 : cod mX13_beside 2 (.putfield 115) 3 := by decide +kernel
theorem dX13_beside_5 : cod mX13_beside 5 (.iload_n 1) 1 := by decide +kernel
theorem dX13_beside_6 : cod mX13_beside 6 (.iload_n 2) 1 := by decide +kernel
theorem dX13_beside_7 : cod mX13_beside 7 (.invokestatic 202) 3 := by decide +kernel
theorem dX13_beside_10 : cod mX13_beside 10 (.ifCond .eq 12) 3 := by decide +kernel
theorem dX13_beside_13 : cod mX13_beside 13 (.iload_n 3) 1 := by decide +kernel
theorem dX13_beside_14 : cod mX13_beside 14 (.iload 4) 2 := by decide +kernel
theorem dX13_beside_16 : cod mX13_beside 16 (.invokestatic 202) 3 := by decide +kernel
theorem dX13_beside_19 : cod mX13_beside 19 (.ifCond .ne 7) 3 := by decide +kernel
theorem dX13_beside_22 : cod mX13_beside 22 (.ldc2_w 244) 3 := by decide +kernel
theorem dX13_beside_25 : cod mX13_beside 25 (.lreturn) 1 := by decide +kernel
theorem dX13_beside_26 : cod mX13_beside 26 (.aload_n 0) 1 := by decide +kernel
theorem dX13_beside_27 : cod mX13_beside 27 (.invokevirtual 228) 3 := by decide +kernel
theorem dX13_beside_30 : cod mX13_beside 30 (.ifCond .eq 16) 3 := by decide +kernel
theorem dX13_beside_33 : cod mX13_beside 33 (.aload_n 0) 1 := by decide +kernel
theorem dX13_beside_34 : cod mX13_beside 34 (.iload_n 1) 1 := by decide +kernel
theorem dX13_beside_35 : cod mX13_beside 35 (.iload_n 2) 1 := by decide +kernel
theorem dX13_beside_36 : cod mX13_beside 36 (.iload_n 3) 1 := by decide +kernel
theorem dX13_beside_37 : cod mX13_beside 37 (.iload 4) 2 := by decide +kernel
theorem dX13_beside_39 : cod mX13_beside 39 (.iconst 0) 1 := by decide +kernel
theorem dX13_beside_40 : cod mX13_beside 40 (.invokevirtual 350) 3 := by decide +kernel
theorem dX13_beside_43 : cod mX13_beside 43 (.goto 6) 3 := by decide +kernel
theorem dX13_beside_46 : cod mX13_beside 46 (.ldc2_w 246) 3 := by decide +kernel
theorem dX13_beside_49 : cod mX13_beside 49 (.lreturn) 1 := by decide +kernel
def wp_X13_beside (p0 : Nat) (p1 : Int32) (p2 : Int32) (p3 : Int32) (p4 : Int32) (M : Mem) (Q : Int64 → Mem → Prop) : Prop := mK M p0 = 14 ∧ ∀ M1 : Mem, M1 = uI M p0 12 0 → wp_X13_isSlate p1 p2 M1 (fun r6 M5 => (r6 = (0 : Int32) → Q (-4000000000000000001) M5) ∧ (¬ r6 = (0 : Int32) → wp_X13_isSlate p3 p4 M5 (fun r13 M12 => (¬ r13 = (0 : Int32) → mK M12 p0 = 14 ∧ wp_X13_isReady p0 M12 (fun r20 M19 => (r20 = (0 : Int32) → Q (-4000000000000000003) M19) ∧ (¬ r20 = (0 : Int32) → mK M19 p0 = 14 ∧ wp_X13_meanBeside p0 p1 p2 p3 p4 0 M19 (fun r27 M26 => Q r27 M26)))) ∧ (r13 = (0 : Int32) → Q (-4000000000000000001) M12))))
theorem T_X13_beside {G : GG} {Q : Int64 → Mem → Prop} {M : Mem} {p0 : Nat} {p1 : Int32} {p2 : Int32} {p3 : Int32} {p4 : Int32} (h : wp_X13_beside p0 p1 p2 p3 p4 M Q) : PMet G mX13_beside 2 0 0 [.ref p0, .int p1, .int p2, .int p3, .int p4] M (QJ Q) :=
  mk_met (by decide) rfl rfl (by
    intro w hw x9 e9
    subst e9
    simp at hw) (Nat.le_of_ble_eq_true rfl) (s_pad (L1 := [some (.ref p0), some (.int p1), some (.int p2), some (.int p3), some (.int p4)]) 5 rfl (s_aload_n (pc := 0) dX13_beside_0 rfl (s_iconst (pc := 1) dX13_beside_1 ci_0 (s_putI (pc := 2) dX13_beside_2 f_X13_115 (Or.inl rfl) (Or.inl rfl) h.1 (nmM (fun M1 e2 => have h3 := h.2 M1 e2; s_iload_n (pc := 5) dX13_beside_5 rfl (s_iload_n (pc := 6) dX13_beside_6 rfl (s_callS (pc := 7) (As := [.int p1, .int p2]) (rest := []) (d' := 1) (mc' := 0) (ms' := 0) dX13_beside_7 c_X13_202 rfl rfl (Nat.le_of_ble_eq_true rfl) (rm_ok rfl rfl) ⟨Nat.le_refl 0, Nat.le_refl 0⟩ (T_X13_isSlate h3) (kkI (fun r6 M5 h4 => s_if_eq (pc := 10) (tgt := 22) dX13_beside_10 rfl (fun c7 => have h8 := h4.1 c7; s_ldc2 (pc := 22) dX13_beside_22 k_X13_244 (s_lreturn (pc := 25) dX13_beside_25 rfl (Nat.zero_le _) (Nat.zero_le _) ⟨_, rfl, h8⟩)) (fun c9 => have h10 := h4.2 c9; s_iload_n (pc := 13) dX13_beside_13 rfl (s_iload (pc := 14) dX13_beside_14 rfl (s_callS (pc := 16) (As := [.int p3, .int p4]) (rest := []) (d' := 1) (mc' := 0) (ms' := 0) dX13_beside_16 c_X13_202 rfl rfl (Nat.le_of_ble_eq_true rfl) (rm_ok rfl rfl) ⟨Nat.le_refl 0, Nat.le_refl 0⟩ (T_X13_isSlate h10) (kkI (fun r13 M12 h11 => s_if_ne (pc := 19) (tgt := 26) dX13_beside_19 rfl (fun c14 => have h15 := h11.1 c14; s_aload_n (pc := 26) dX13_beside_26 rfl (s_callV (pc := 27) (As := []) (rest := []) (d' := 1) (mc' := 0) (ms' := 0) dX13_beside_27 c_X13_228 (Nat.le_of_ble_eq_true rfl) rfl h15.1 rfl rfl (Nat.le_of_ble_eq_true rfl) (rm_ok rfl rfl) ⟨Nat.le_refl 0, Nat.le_refl 0⟩ (T_X13_isReady h15.2) (kkI (fun r20 M19 h18 => s_if_eq (pc := 30) (tgt := 46) dX13_beside_30 rfl (fun c21 => have h22 := h18.1 c21; s_ldc2 (pc := 46) dX13_beside_46 k_X13_246 (s_lreturn (pc := 49) dX13_beside_49 rfl (Nat.zero_le _) (Nat.zero_le _) ⟨_, rfl, h22⟩)) (fun c23 => have h24 := h18.2 c23; s_aload_n (pc := 33) dX13_beside_33 rfl (s_iload_n (pc := 34) dX13_beside_34 rfl (s_iload_n (pc := 35) dX13_beside_35 rfl (s_iload_n (pc := 36) dX13_beside_36 rfl (s_iload (pc := 37) dX13_beside_37 rfl (s_iconst (pc := 39) dX13_beside_39 ci_0 (s_callV (pc := 40) (As := [.int p1, .int p2, .int p3, .int p4, .int 0]) (rest := []) (d' := 1) (mc' := 0) (ms' := 0) dX13_beside_40 c_X13_350 (Nat.le_of_ble_eq_true rfl) rfl h24.1 rfl rfl (Nat.le_of_ble_eq_true rfl) (rm_ok rfl rfl) ⟨Nat.le_refl 0, Nat.le_refl 0⟩ (T_X13_meanBeside h24.2) (kkJ (fun r27 M26 h25 => s_goto (pc := 43) (tgt := 49) dX13_beside_43 rfl (s_lreturn (pc := 49) dX13_beside_49 rfl (Nat.zero_le _) (Nat.zero_le _) ⟨_, rfl, h25⟩)))))))))))))) (fun c16 => have h17 := h11.2 c16; s_ldc2 (pc := 22) dX13_beside_22 k_X13_244 (s_lreturn (pc := 25) dX13_beside_25 rfl (Nat.zero_le _) (Nat.zero_le _) ⟨_, rfl, h17⟩)))))))))))))))))
/-! X13_heldBy -/
theorem dX13_heldBy_0 : cod mX13_heldBy 0 (.iload_n 0) 1 := by decide +kernel
theorem dX13_heldBy_1 : cod mX13_heldBy 1 (.iconst 1) 1 := by decide +kernel
theorem dX13_heldBy_2 : cod mX13_heldBy 2 (.if_icmp .ne 9) 3 := by decide +kernel
theorem dX13_heldBy_5 : cod mX13_heldBy 5 (.iload_n 1) 1 := by decide +kernel
theorem dX13_heldBy_6 : cod mX13_heldBy 6 (.iconst 1) 1 := by decide +kernel
theorem dX13_heldBy_7 : cod mX13_heldBy 7 (.isub) 1 := by decide +kernel
theorem dX13_heldBy_8 : cod mX13_heldBy 8 (.goto 15) 3 := by decide +kernel
theorem dX13_heldBy_11 : cod mX13_heldBy 11 (.iload_n 0) 1 := by decide +kernel
theorem dX13_heldBy_12 : cod mX13_heldBy 12 (.iconst 2) 1 := by decide +kernel
theorem dX13_heldBy_13 : cod mX13_heldBy 13 (.if_icmp .ne 9) 3 := by decide +kernel
theorem dX13_heldBy_16 : cod mX13_heldBy 16 (.iload_n 1) 1 := by decide +kernel
theorem dX13_heldBy_17 : cod mX13_heldBy 17 (.iconst 1) 1 := by decide +kernel
theorem dX13_heldBy_18 : cod mX13_heldBy 18 (.iadd) 1 := by decide +kernel
theorem dX13_heldBy_19 : cod mX13_heldBy 19 (.goto 4) 3 := by decide +kernel
theorem dX13_heldBy_22 : cod mX13_heldBy 22 (.iload_n 1) 1 := by decide +kernel
theorem dX13_heldBy_23 : cod mX13_heldBy 23 (.ireturn) 1 := by decide +kernel
def wp_X13_heldBy (p0 : Int32) (p1 : Int32) (M : Mem) (Q : Int32 → Mem → Prop) : Prop := (¬ p0 = (1 : Int32) → (¬ p0 = (2 : Int32) → Q p1 M) ∧ (p0 = (2 : Int32) → Q (p1 + 1) M)) ∧ (p0 = (1 : Int32) → Q (p1 - 1) M)
theorem T_X13_heldBy {G : GG} {Q : Int32 → Mem → Prop} {M : Mem} {p0 : Int32} {p1 : Int32} (h : wp_X13_heldBy p0 p1 M Q) : PMet G mX13_heldBy 0 0 0 [.int p0, .int p1] M (QI Q) :=
  mk_met (by decide) rfl rfl (by
    intro w hw x9 e9
    subst e9
    simp at hw) (Nat.le_of_ble_eq_true rfl) (s_pad (L1 := [some (.int p0), some (.int p1)]) 2 rfl (s_iload_n (pc := 0) dX13_heldBy_0 rfl (s_iconst (pc := 1) dX13_heldBy_1 ci_1 (s_icmp_ne (pc := 2) (tgt := 11) dX13_heldBy_2 rfl (fun c1 => have h2 := h.1 c1; s_iload_n (pc := 11) dX13_heldBy_11 rfl (s_iconst (pc := 12) dX13_heldBy_12 ci_2 (s_icmp_ne (pc := 13) (tgt := 22) dX13_heldBy_13 rfl (fun c5 => have h6 := h2.1 c5; s_iload_n (pc := 22) dX13_heldBy_22 rfl (s_ireturn (pc := 23) dX13_heldBy_23 rfl (Nat.zero_le _) (Nat.zero_le _) ⟨_, rfl, h6⟩)) (fun c7 => have h8 := h2.2 c7; s_iload_n (pc := 16) dX13_heldBy_16 rfl (s_iconst (pc := 17) dX13_heldBy_17 ci_1 (s_iadd (pc := 18) dX13_heldBy_18 (s_goto (pc := 19) (tgt := 23) dX13_heldBy_19 rfl (s_ireturn (pc := 23) dX13_heldBy_23 rfl (Nat.zero_le _) (Nat.zero_le _) ⟨_, rfl, h8⟩)))))))) (fun c3 => have h4 := h.2 c3; s_iload_n (pc := 5) dX13_heldBy_5 rfl (s_iconst (pc := 6) dX13_heldBy_6 ci_1 (s_isub (pc := 7) dX13_heldBy_7 (s_goto (pc := 8) (tgt := 23) dX13_heldBy_8 rfl (s_ireturn (pc := 23) dX13_heldBy_23 rfl (Nat.zero_le _) (Nat.zero_le _) ⟨_, rfl, h4⟩)))))))))
/-! X13_partsTogether -/
theorem dX13_partsTogether_0 : cod mX13_partsTogether 0 (.iconst 0) 1 := by decide +kernel
theorem dX13_partsTogether_1 : cod mX13_partsTogether 1 (.istore_n 1) 1 := by decide +kernel
theorem dX13_partsTogether_2 : cod mX13_partsTogether 2 (.iconst 0) 1 := by decide +kernel
theorem dX13_partsTogether_3 : cod mX13_partsTogether 3 (.istore_n 2) 1 := by decide +kernel
theorem dX13_partsTogether_4 : cod mX13_partsTogether 4 (.iload_n 2) 1 := by decide +kernel
theorem dX13_partsTogether_5 : cod mX13_partsTogether 5 (.aload_n 0) 1 := by decide +kernel
theorem dX13_partsTogether_6 : cod mX13_partsTogether 6 (.getfield 128) 3 := by decide +kernel
theorem dX13_partsTogether_9 : cod mX13_partsTogether 9 (.if_icmp .ge 18) 3 := by decide +kernel
theorem dX13_partsTogether_12 : cod mX13_partsTogether 12 (.iload_n 1) 1 := by decide +kernel
theorem dX13_partsTogether_13 : cod mX13_partsTogether 13 (.aload_n 0) 1 := by decide +kernel
theorem dX13_partsTogether_14 : cod mX13_partsTogether 14 (.getfield 19) 3 := by decide +kernel
theorem dX13_partsTogether_17 : cod mX13_partsTogether 17 (.iload_n 2) 1 := by decide +kernel
theorem dX13_partsTogether_18 : cod mX13_partsTogether 18 (.iaload) 1 := by decide +kernel
theorem dX13_partsTogether_19 : cod mX13_partsTogether 19 (.iadd) 1 := by decide +kernel
theorem dX13_partsTogether_20 : cod mX13_partsTogether 20 (.istore_n 1) 1 := by decide +kernel
theorem dX13_partsTogether_21 : cod mX13_partsTogether 21 (.iinc 2 1) 3 := by decide +kernel
theorem dX13_partsTogether_24 : cod mX13_partsTogether 24 (.goto (-20)) 3 := by decide +kernel
theorem dX13_partsTogether_27 : cod mX13_partsTogether 27 (.iload_n 1) 1 := by decide +kernel
theorem dX13_partsTogether_28 : cod mX13_partsTogether 28 (.ireturn) 1 := by decide +kernel
def lp_X13_partsTogether_4 (Q : Int32 → Mem → Prop) : Nat → Nat → Int32 → Int32 → Mem → Prop
  | 0 => fun _ _ _ _ => False
  | n + 1 => fun x0 x1 x2 M => mK M x0 = 14 ∧ ((mI M x0 3) ≤ x2 → Q x1 M) ∧ (¬ (mI M x0 3) ≤ x2 → mK M (mR M x0 5) = 20 ∧ vp_in x2 (mN M (mR M x0 5)) ∧ ∀ y5 : Int32, y5 = x1 + (mI M (mR M x0 5) x2.toNatClampNeg) → (lp_X13_partsTogether_4 Q n) x0 y5 (x2 + 1) M)
theorem P_lp_X13_partsTogether_4 {G : GG} {Q : Int32 → Mem → Prop} : ∀ (n : Nat) (x0 : Nat) (x1 : Int32) (x2 : Int32) (M : Mem), lp_X13_partsTogether_4 Q n x0 x1 x2 M → PW G mX13_partsTogether (rmD 0 0 0) (QI Q) 4 [some (.ref x0), some (.int x1), some (.int x2)] [] M 0 0 := by
  intro n
  induction n with
  | zero => intro x0 x1 x2 M h; exact h.elim
  | succ n ih =>
    intro x0 x1 x2 M h
    exact (s_iload_n (pc := 4) dX13_partsTogether_4 rfl (s_aload_n (pc := 5) dX13_partsTogether_5 rfl (s_getI (pc := 6) dX13_partsTogether_6 f_X13_128 rfl h.1 (s_icmp_ge (pc := 9) (tgt := 27) dX13_partsTogether_9 rfl (fun c1 => have h2 := h.2.1 c1; s_iload_n (pc := 27) dX13_partsTogether_27 rfl (s_ireturn (pc := 28) dX13_partsTogether_28 rfl (Nat.zero_le _) (Nat.zero_le _) ⟨_, rfl, h2⟩)) (fun c3 => have h4 := h.2.2 c3; s_iload_n (pc := 12) dX13_partsTogether_12 rfl (s_aload_n (pc := 13) dX13_partsTogether_13 rfl (s_getR (pc := 14) dX13_partsTogether_14 f_X13_19 rfl h.1 (s_iload_n (pc := 17) dX13_partsTogether_17 rfl (s_ial (pc := 18) dX13_partsTogether_18 h4.1 h4.2.1 (s_iadd (pc := 19) dX13_partsTogether_19 (nmI (fun y5 e6 => have h7 := h4.2.2 y5 e6; s_istore_n (pc := 20) (L1 := [some (.ref x0), some (.int y5), some (.int x2)]) dX13_partsTogether_20 (Nat.le_of_ble_eq_true rfl) rfl (s_iinc (pc := 21) (L1 := [some (.ref x0), some (.int y5), some (.int (x2 + 1))]) dX13_partsTogether_21 rfl ci_1 (Nat.le_of_ble_eq_true rfl) rfl (s_goto (pc := 24) (tgt := 4) dX13_partsTogether_24 rfl (s_sel (L1 := [some (.ref x0), some (.int y5), some (.int (x2 + 1))]) [true, true, true] rfl (ih x0 y5 (x2 + 1) M h7))))))))))))))))
def wp_X13_partsTogether (p0 : Nat) (M : Mem) (Q : Int32 → Mem → Prop) : Prop := ∃ n8 : Nat, lp_X13_partsTogether_4 Q n8 p0 0 0 M
theorem T_X13_partsTogether {G : GG} {Q : Int32 → Mem → Prop} {M : Mem} {p0 : Nat} (h : wp_X13_partsTogether p0 M Q) : PMet G mX13_partsTogether 0 0 0 [.ref p0] M (QI Q) :=
  mk_met (by decide) rfl rfl (by
    intro w hw x9 e9
    subst e9
    simp at hw) (Nat.le_of_ble_eq_true rfl) (s_pad (L1 := [some (.ref p0), none, none]) 3 rfl (s_iconst (pc := 0) dX13_partsTogether_0 ci_0 (s_istore_n (pc := 1) (L1 := [some (.ref p0), some (.int 0), none]) dX13_partsTogether_1 (Nat.le_of_ble_eq_true rfl) rfl (s_iconst (pc := 2) dX13_partsTogether_2 ci_0 (s_istore_n (pc := 3) (L1 := [some (.ref p0), some (.int 0), some (.int 0)]) dX13_partsTogether_3 (Nat.le_of_ble_eq_true rfl) rfl (Exists.elim h (fun n8 hn => s_sel (L1 := [some (.ref p0), some (.int 0), some (.int 0)]) [true, true, true] rfl (P_lp_X13_partsTogether_4 n8 p0 0 0 M hn))))))))
/-! X13_hundredths -/
theorem dX13_hundredths_0 : cod mX13_hundredths 0 (.iload_n 1) 1 := by decide +kernel
theorem dX13_hundredths_1 : cod mX13_hundredths 1 (.ifCond .ne 13) 3 := by decide +kernel
theorem dX13_hundredths_4 : cod mX13_hundredths 4 (.bipush 100) 2 := by decide +kernel
theorem dX13_hundredths_6 : cod mX13_hundredths 6 (.aload_n 0) 1 := by decide +kernel
theorem dX13_hundredths_7 : cod mX13_hundredths 7 (.invokevirtual 168) 3 := by decide +kernel
theorem dX13_hundredths_10 : cod mX13_hundredths 10 (.isub) 1 := by decide +kernel
theorem dX13_hundredths_11 : cod mX13_hundredths 11 (.goto 4) 3 := by decide +kernel
theorem dX13_hundredths_14 : cod mX13_hundredths 14 (.iconst 0) 1 := by decide +kernel
theorem dX13_hundredths_15 : cod mX13_hundredths 15 (.istore 6) 2 := by decide +kernel
theorem dX13_hundredths_17 : cod mX13_hundredths 17 (.iconst 0) 1 := by decide +kernel
theorem dX13_hundredths_18 : cod mX13_hundredths 18 (.istore 7) 2 := by decide +kernel
theorem dX13_hundredths_20 : cod mX13_hundredths 20 (.iload 7) 2 := by decide +kernel
theorem dX13_hundredths_22 : cod mX13_hundredths 22 (.aload_n 0) 1 := by decide +kernel
theorem dX13_hundredths_23 : cod mX13_hundredths 23 (.getfield 128) 3 := by decide +kernel
theorem dX13_hundredths_26 : cod mX13_hundredths 26 (.if_icmp .ge 50) 3 := by decide +kernel
theorem dX13_hundredths_29 : cod mX13_hundredths 29 (.iload 6) 2 := by decide +kernel
theorem dX13_hundredths_31 : cod mX13_hundredths 31 (.aload_n 0) 1 := by decide +kernel
theorem dX13_hundredths_32 : cod mX13_hundredths 32 (.aload_n 0) 1 := by decide +kernel
theorem dX13_hundredths_33 : cod mX13_hundredths 33 (.iload 7) 2 := by decide +kernel
theorem dX13_hundredths_35 : cod mX13_hundredths 35 (.aload_n 0) 1 := by decide +kernel
theorem dX13_hundredths_36 : cod mX13_hundredths 36 (.getfield 13) 3 := by decide +kernel
theorem dX13_hundredths_39 : cod mX13_hundredths 39 (.iload_n 2) 1 := by decide +kernel
theorem dX13_hundredths_40 : cod mX13_hundredths 40 (.iaload) 1 := by decide +kernel
theorem dX13_hundredths_41 : cod mX13_hundredths 41 (.iload_n 3) 1 := by decide +kernel
theorem dX13_hundredths_42 : cod mX13_hundredths 42 (.iload 4) 2 := by decide +kernel
theorem dX13_hundredths_44 : cod mX13_hundredths 44 (.invokevirtual 206) 3 := by decide +kernel
theorem dX13_hundredths_47 : cod mX13_hundredths 47 (.iload 5) 2 := by decide +kernel
theorem dX13_hundredths_49 : cod mX13_hundredths 49 (.invokevirtual 210) 3 := by decide +kernel
theorem dX13_hundredths_52 : cod mX13_hundredths 52 (.iload_n 1) 1 := by decide +kernel
theorem dX13_hundredths_53 : cod mX13_hundredths 53 (.if_icmp .ne 13) 3 := by decide +kernel
theorem dX13_hundredths_56 : cod mX13_hundredths 56 (.aload_n 0) 1 := by decide +kernel
theorem dX13_hundredths_57 : cod mX13_hundredths 57 (.getfield 19) 3 := by decide +kernel
theorem dX13_hundredths_60 : cod mX13_hundredths 60 (.iload 7) 2 := by decide +kernel
theorem dX13_hundredths_62 : cod mX13_hundredths 62 (.iaload) 1 := by decide +kernel
theorem dX13_hundredths_63 : cod mX13_hundredths 63 (.goto 4) 3 := by decide +kernel
theorem dX13_hundredths_66 : cod mX13_hundredths 66 (.iconst 0) 1 := by decide +kernel
theorem dX13_hundredths_67 : cod mX13_hundredths 67 (.iadd) 1 := by decide +kernel
theorem dX13_hundredths_68 : cod mX13_hundredths 68 (.istore 6) 2 := by decide +kernel
theorem dX13_hundredths_70 : cod mX13_hundredths 70 (.iinc 7 1) 3 := by decide +kernel
theorem dX13_hundredths_73 : cod mX13_hundredths 73 (.goto (-53)) 3 := by decide +kernel
theorem dX13_hundredths_76 : cod mX13_hundredths 76 (.iload 6) 2 := by decide +kernel
theorem dX13_hundredths_78 : cod mX13_hundredths 78 (.ireturn) 1 := by decide +kernel
def jn_X13_hundredths_67 (K20 : Nat → Int32 → Int32 → Int32 → Int32 → Int32 → Int32 → Int32 → Mem → Prop) (Q : Int32 → Mem → Prop) (x0 : Nat) (x1 : Int32) (x2 : Int32) (x3 : Int32) (x4 : Int32) (x5 : Int32) (x7 : Int32) (s0 : Int32) (s1 : Int32) (M : Mem) : Prop := ∀ y19 : Int32, y19 = s1 + s0 → K20 x0 x1 x2 x3 x4 x5 y19 (x7 + 1) M
theorem P_jn_X13_hundredths_67 {G : GG} {K20 : Nat → Int32 → Int32 → Int32 → Int32 → Int32 → Int32 → Int32 → Mem → Prop} {Q : Int32 → Mem → Prop} (hK20 : ∀ (x0 : Nat) (x1 : Int32) (x2 : Int32) (x3 : Int32) (x4 : Int32) (x5 : Int32) (x6 : Int32) (x7 : Int32) (M : Mem), K20 x0 x1 x2 x3 x4 x5 x6 x7 M → PW G mX13_hundredths (rmD 1 0 0) (QI Q) 20 [some (.ref x0), some (.int x1), some (.int x2), some (.int x3), some (.int x4), some (.int x5), some (.int x6), some (.int x7)] [] M 0 0) (x0 : Nat) (x1 : Int32) (x2 : Int32) (x3 : Int32) (x4 : Int32) (x5 : Int32) (x7 : Int32) (s0 : Int32) (s1 : Int32) (M : Mem) (h : jn_X13_hundredths_67 K20 Q x0 x1 x2 x3 x4 x5 x7 s0 s1 M) : PW G mX13_hundredths (rmD 1 0 0) (QI Q) 67 [some (.ref x0), some (.int x1), some (.int x2), some (.int x3), some (.int x4), some (.int x5), none, some (.int x7)] [.int s0, .int s1] M 0 0 := (s_iadd (pc := 67) dX13_hundredths_67 (nmI (fun y19 e20 => have h21 := h y19 e20; s_istore (pc := 68) (L1 := [some (.ref x0), some (.int x1), some (.int x2), some (.int x3), some (.int x4), some (.int x5), some (.int y19), some (.int x7)]) dX13_hundredths_68 (Nat.le_of_ble_eq_true rfl) rfl (s_iinc (pc := 70) (L1 := [some (.ref x0), some (.int x1), some (.int x2), some (.int x3), some (.int x4), some (.int x5), some (.int y19), some (.int (x7 + 1))]) dX13_hundredths_70 rfl ci_1 (Nat.le_of_ble_eq_true rfl) rfl (s_goto (pc := 73) (tgt := 20) dX13_hundredths_73 rfl (s_sel (L1 := [some (.ref x0), some (.int x1), some (.int x2), some (.int x3), some (.int x4), some (.int x5), some (.int y19), some (.int (x7 + 1))]) [true, true, true, true, true, true, true, true] rfl (hK20 x0 x1 x2 x3 x4 x5 y19 (x7 + 1) M h21)))))))
def lp_X13_hundredths_20 (Q : Int32 → Mem → Prop) : Nat → Nat → Int32 → Int32 → Int32 → Int32 → Int32 → Int32 → Int32 → Mem → Prop
  | 0 => fun _ _ _ _ _ _ _ _ _ => False
  | n + 1 => fun x0 x1 x2 x3 x4 x5 x6 x7 M => mK M x0 = 14 ∧ ((mI M x0 3) ≤ x7 → Q x6 M) ∧ (¬ (mI M x0 3) ≤ x7 → mK M (mR M x0 2) = 20 ∧ vp_in x2 (mN M (mR M x0 2)) ∧ wp_X13_dealt x0 x7 (mI M (mR M x0 2) x2.toNatClampNeg) x3 x4 M (fun r11 M10 => mK M10 x0 = 14 ∧ wp_X13_allowed x0 r11 x5 M10 (fun r14 M13 => (¬ r14 = x1 → jn_X13_hundredths_67 (fun fx0 fx1 fx2 fx3 fx4 fx5 fx6 fx7 fM => lp_X13_hundredths_20 Q n fx0 fx1 fx2 fx3 fx4 fx5 fx6 fx7 fM) Q x0 x1 x2 x3 x4 x5 x7 0 x6 M13) ∧ (r14 = x1 → mK M13 x0 = 14 ∧ mK M13 (mR M13 x0 5) = 20 ∧ vp_in x7 (mN M13 (mR M13 x0 5)) ∧ jn_X13_hundredths_67 (fun fx0 fx1 fx2 fx3 fx4 fx5 fx6 fx7 fM => lp_X13_hundredths_20 Q n fx0 fx1 fx2 fx3 fx4 fx5 fx6 fx7 fM) Q x0 x1 x2 x3 x4 x5 x7 (mI M13 (mR M13 x0 5) x7.toNatClampNeg) x6 M13))))
theorem P_lp_X13_hundredths_20 {G : GG} {Q : Int32 → Mem → Prop} : ∀ (n : Nat) (x0 : Nat) (x1 : Int32) (x2 : Int32) (x3 : Int32) (x4 : Int32) (x5 : Int32) (x6 : Int32) (x7 : Int32) (M : Mem), lp_X13_hundredths_20 Q n x0 x1 x2 x3 x4 x5 x6 x7 M → PW G mX13_hundredths (rmD 1 0 0) (QI Q) 20 [some (.ref x0), some (.int x1), some (.int x2), some (.int x3), some (.int x4), some (.int x5), some (.int x6), some (.int x7)] [] M 0 0 := by
  intro n
  induction n with
  | zero => intro x0 x1 x2 x3 x4 x5 x6 x7 M h; exact h.elim
  | succ n ih =>
    intro x0 x1 x2 x3 x4 x5 x6 x7 M h
    exact (s_iload (pc := 20) dX13_hundredths_20 rfl (s_aload_n (pc := 22) dX13_hundredths_22 rfl (s_getI (pc := 23) dX13_hundredths_23 f_X13_128 rfl h.1 (s_icmp_ge (pc := 26) (tgt := 76) dX13_hundredths_26 rfl (fun c5 => have h6 := h.2.1 c5; s_iload (pc := 76) dX13_hundredths_76 rfl (s_ireturn (pc := 78) dX13_hundredths_78 rfl (Nat.zero_le _) (Nat.zero_le _) ⟨_, rfl, h6⟩)) (fun c7 => have h8 := h.2.2 c7; s_iload (pc := 29) dX13_hundredths_29 rfl (s_aload_n (pc := 31) dX13_hundredths_31 rfl (s_aload_n (pc := 32) dX13_hundredths_32 rfl (s_iload (pc := 33) dX13_hundredths_33 rfl (s_aload_n (pc := 35) dX13_hundredths_35 rfl (s_getR (pc := 36) dX13_hundredths_36 f_X13_13 rfl h.1 (s_iload_n (pc := 39) dX13_hundredths_39 rfl (s_ial (pc := 40) dX13_hundredths_40 h8.1 h8.2.1 (s_iload_n (pc := 41) dX13_hundredths_41 rfl (s_iload (pc := 42) dX13_hundredths_42 rfl (s_callV (pc := 44) (As := [.int x7, .int (mI M (mR M x0 2) x2.toNatClampNeg), .int x3, .int x4]) (rest := [.ref x0, .int x6]) (d' := 0) (mc' := 0) (ms' := 0) dX13_hundredths_44 c_X13_206 (Nat.le_of_ble_eq_true rfl) rfl h.1 rfl rfl (Nat.le_of_ble_eq_true rfl) (rm_ok rfl rfl) ⟨Nat.le_refl 0, Nat.le_refl 0⟩ (T_X13_dealt h8.2.2) (kkI (fun r11 M10 h9 => s_iload (pc := 47) dX13_hundredths_47 rfl (s_callV (pc := 49) (As := [.int r11, .int x5]) (rest := [.int x6]) (d' := 0) (mc' := 0) (ms' := 0) dX13_hundredths_49 c_X13_210 (Nat.le_of_ble_eq_true rfl) rfl h9.1 rfl rfl (Nat.le_of_ble_eq_true rfl) (rm_ok rfl rfl) ⟨Nat.le_refl 0, Nat.le_refl 0⟩ (T_X13_allowed h9.2) (kkI (fun r14 M13 h12 => s_iload_n (pc := 52) dX13_hundredths_52 rfl (s_icmp_ne (pc := 53) (tgt := 66) dX13_hundredths_53 rfl (fun c15 => have h16 := h12.1 c15; s_iconst (pc := 66) dX13_hundredths_66 ci_0 (s_sel (L1 := [some (.ref x0), some (.int x1), some (.int x2), some (.int x3), some (.int x4), some (.int x5), none, some (.int x7)]) [true, true, true, true, true, true, false, true] rfl (P_jn_X13_hundredths_67 ih x0 x1 x2 x3 x4 x5 x7 0 x6 M13 h16))) (fun c17 => have h18 := h12.2 c17; s_aload_n (pc := 56) dX13_hundredths_56 rfl (s_getR (pc := 57) dX13_hundredths_57 f_X13_19 rfl h18.1 (s_iload (pc := 60) dX13_hundredths_60 rfl (s_ial (pc := 62) dX13_hundredths_62 h18.2.1 h18.2.2.1 (s_goto (pc := 63) (tgt := 67) dX13_hundredths_63 rfl (s_sel (L1 := [some (.ref x0), some (.int x1), some (.int x2), some (.int x3), some (.int x4), some (.int x5), none, some (.int x7)]) [true, true, true, true, true, true, false, true] rfl (P_jn_X13_hundredths_67 ih x0 x1 x2 x3 x4 x5 x7 (mI M13 (mR M13 x0 5) x7.toNatClampNeg) x6 M13 h18.2.2.2))))))))))))))))))))))))))))
def jn_X13_hundredths_15 (Q : Int32 → Mem → Prop) (x0 : Nat) (x1 : Int32) (x2 : Int32) (x3 : Int32) (x4 : Int32) (x5 : Int32) (s0 : Int32) (M : Mem) : Prop := ∃ n22 : Nat, lp_X13_hundredths_20 Q n22 x0 x1 x2 x3 x4 x5 s0 0 M
theorem P_jn_X13_hundredths_15 {G : GG} {Q : Int32 → Mem → Prop} (x0 : Nat) (x1 : Int32) (x2 : Int32) (x3 : Int32) (x4 : Int32) (x5 : Int32) (s0 : Int32) (M : Mem) (h : jn_X13_hundredths_15 Q x0 x1 x2 x3 x4 x5 s0 M) : PW G mX13_hundredths (rmD 1 0 0) (QI Q) 15 [some (.ref x0), some (.int x1), some (.int x2), some (.int x3), some (.int x4), some (.int x5), none, none] [.int s0] M 0 0 := (s_istore (pc := 15) (L1 := [some (.ref x0), some (.int x1), some (.int x2), some (.int x3), some (.int x4), some (.int x5), some (.int s0), none]) dX13_hundredths_15 (Nat.le_of_ble_eq_true rfl) rfl (s_iconst (pc := 17) dX13_hundredths_17 ci_0 (s_istore (pc := 18) (L1 := [some (.ref x0), some (.int x1), some (.int x2), some (.int x3), some (.int x4), some (.int x5), some (.int s0), some (.int 0)]) dX13_hundredths_18 (Nat.le_of_ble_eq_true rfl) rfl (Exists.elim h (fun n22 hn => s_sel (L1 := [some (.ref x0), some (.int x1), some (.int x2), some (.int x3), some (.int x4), some (.int x5), some (.int s0), some (.int 0)]) [true, true, true, true, true, true, true, true] rfl (P_lp_X13_hundredths_20 n22 x0 x1 x2 x3 x4 x5 s0 0 M hn))))))
def wp_X13_hundredths (p0 : Nat) (p1 : Int32) (p2 : Int32) (p3 : Int32) (p4 : Int32) (p5 : Int32) (M : Mem) (Q : Int32 → Mem → Prop) : Prop := (¬ p1 = (0 : Int32) → jn_X13_hundredths_15 Q p0 p1 p2 p3 p4 p5 0 M) ∧ (p1 = (0 : Int32) → mK M p0 = 14 ∧ wp_X13_partsTogether p0 M (fun r25 M24 => jn_X13_hundredths_15 Q p0 p1 p2 p3 p4 p5 (100 - r25) M24))
theorem T_X13_hundredths {G : GG} {Q : Int32 → Mem → Prop} {M : Mem} {p0 : Nat} {p1 : Int32} {p2 : Int32} {p3 : Int32} {p4 : Int32} {p5 : Int32} (h : wp_X13_hundredths p0 p1 p2 p3 p4 p5 M Q) : PMet G mX13_hundredths 1 0 0 [.ref p0, .int p1, .int p2, .int p3, .int p4, .int p5] M (QI Q) :=
  mk_met (by decide) rfl rfl (by
    intro w hw x9 e9
    subst e9
    simp at hw) (Nat.le_of_ble_eq_true rfl) (s_pad (L1 := [some (.ref p0), some (.int p1), some (.int p2), some (.int p3), some (.int p4), some (.int p5), none, none]) 8 rfl (s_iload_n (pc := 0) dX13_hundredths_0 rfl (s_if_ne (pc := 1) (tgt := 14) dX13_hundredths_1 rfl (fun c1 => have h2 := h.1 c1; s_iconst (pc := 14) dX13_hundredths_14 ci_0 (s_sel (L1 := [some (.ref p0), some (.int p1), some (.int p2), some (.int p3), some (.int p4), some (.int p5), none, none]) [true, true, true, true, true, true, false, false] rfl (P_jn_X13_hundredths_15 p0 p1 p2 p3 p4 p5 0 M h2))) (fun c3 => have h4 := h.2 c3; s_bipush (pc := 4) dX13_hundredths_4 cb_100 (s_aload_n (pc := 6) dX13_hundredths_6 rfl (s_callV (pc := 7) (As := []) (rest := [.int 100]) (d' := 0) (mc' := 0) (ms' := 0) dX13_hundredths_7 c_X13_168 (Nat.le_of_ble_eq_true rfl) rfl h4.1 rfl rfl (Nat.le_of_ble_eq_true rfl) (rm_ok rfl rfl) ⟨Nat.le_refl 0, Nat.le_refl 0⟩ (T_X13_partsTogether h4.2) (kkI (fun r25 M24 h23 => s_isub (pc := 10) dX13_hundredths_10 (s_goto (pc := 11) (tgt := 15) dX13_hundredths_11 rfl (s_sel (L1 := [some (.ref p0), some (.int p1), some (.int p2), some (.int p3), some (.int p4), some (.int p5), none, none]) [true, true, true, true, true, true, false, false] rfl (P_jn_X13_hundredths_15 p0 p1 p2 p3 p4 p5 (100 - r25) M24 h23)))))))))))
/-! X13_lastHour -/
theorem dX13_lastHour_0 : cod mX13_lastHour 0 (.lconst 0) 1 := by decide +kernel
theorem dX13_lastHour_1 : cod mX13_lastHour 1 (.lstore 5) 2 := by decide +kernel
theorem dX13_lastHour_3 : cod mX13_lastHour 3 (.iconst 0) 1 := by decide +kernel
theorem dX13_lastHour_4 : cod mX13_lastHour 4 (.istore 7) 2 := by decide +kernel
theorem dX13_lastHour_6 : cod mX13_lastHour 6 (.iload 7) 2 := by decide +kernel
theorem dX13_lastHour_8 : cod mX13_lastHour 8 (.aload_n 0) 1 := by decide +kernel
theorem dX13_lastHour_9 : cod mX13_lastHour 9 (.getfield 119) 3 := by decide +kernel
theorem dX13_lastHour_12 : cod mX13_lastHour 12 (.if_icmp .ge 130) 3 := by decide +kernel
theorem dX13_lastHour_15 : cod mX13_lastHour 15 (.iconst 0) 1 := by decide +kernel
theorem dX13_lastHour_16 : cod mX13_lastHour 16 (.istore 8) 2 := by decide +kernel
theorem dX13_lastHour_18 : cod mX13_lastHour 18 (.iload 8) 2 := by decide +kernel
theorem dX13_lastHour_20 : cod mX13_lastHour 20 (.iconst 3) 1 := by decide +kernel
theorem dX13_lastHour_21 : cod mX13_lastHour 21 (.if_icmp .ge 115) 3 := by decide +kernel
theorem dX13_lastHour_24 : cod mX13_lastHour 24 (.aload_n 0) 1 := by decide +kernel
theorem dX13_lastHour_25 : cod mX13_lastHour 25 (.getfield 79) 3 := by decide +kernel
theorem dX13_lastHour_28 : cod mX13_lastHour 28 (.iload 7) 2 := by decide +kernel
theorem dX13_lastHour_30 : cod mX13_lastHour 30 (.laload) 1 := by decide +kernel
theorem dX13_lastHour_31 : cod mX13_lastHour 31 (.lconst 0) 1 := by decide +kernel
theorem dX13_lastHour_32 : cod mX13_lastHour 32 (.lcmp) 1 := by decide +kernel
theorem dX13_lastHour_33 : cod mX13_lastHour 33 (.ifCond .le 103) 3 := by decide +kernel
theorem dX13_lastHour_36 : cod mX13_lastHour 36 (.iload 8) 2 := by decide +kernel
theorem dX13_lastHour_38 : cod mX13_lastHour 38 (.iload_n 3) 1 := by decide +kernel
theorem dX13_lastHour_39 : cod mX13_lastHour 39 (.invokestatic 241) 3 := by decide +kernel
theorem dX13_lastHour_42 : cod mX13_lastHour 42 (.istore 9) 2 := by decide +kernel
theorem dX13_lastHour_44 : cod mX13_lastHour 44 (.iload 4) 2 := by decide +kernel
theorem dX13_lastHour_46 : cod mX13_lastHour 46 (.iload 8) 2 := by decide +kernel
theorem dX13_lastHour_48 : cod mX13_lastHour 48 (.iconst 1) 1 := by decide +kernel
theorem dX13_lastHour_49 : cod mX13_lastHour 49 (.if_icmp .ne 7) 3 := by decide +kernel
theorem dX13_lastHour_52 : cod mX13_lastHour 52 (.iload_n 2) 1 := by decide +kernel
theorem dX13_lastHour_53 : cod mX13_lastHour 53 (.goto 15) 3 := by decide +kernel
theorem dX13_lastHour_56 : cod mX13_lastHour 56 (.iload 8) 2 := by decide +kernel
theorem dX13_lastHour_58 : cod mX13_lastHour 58 (.iconst 2) 1 := by decide +kernel
theorem dX13_lastHour_59 : cod mX13_lastHour 59 (.if_icmp .ne 8) 3 := by decide +kernel
theorem dX13_lastHour_62 : cod mX13_lastHour 62 (.iload_n 1) 1 := by decide +kernel
theorem dX13_lastHour_63 : cod mX13_lastHour 63 (.ineg) 1 := by decide +kernel
theorem dX13_lastHour_64 : cod mX13_lastHour 64 (.goto 4) 3 := by decide +kernel
theorem dX13_lastHour_67 : cod mX13_lastHour 67 (.iconst 0) 1 := by decide +kernel
theorem dX13_lastHour_68 : cod mX13_lastHour 68 (.iadd) 1 := by decide +kernel
theorem dX13_lastHour_69 : cod mX13_lastHour 69 (.aload_n 0) 1 := by decide +kernel
theorem dX13_lastHour_70 : cod mX13_lastHour 70 (.getfield 171) 3 := by decide +kernel
theorem dX13_lastHour_73 : cod mX13_lastHour 73 (.iload 9) 2 := by decide +kernel
theorem dX13_lastHour_75 : cod mX13_lastHour 75 (.ifCond .ge 9) 3 := by decide +kernel
theorem dX13_lastHour_78 : cod mX13_lastHour 78 (.iload 9) 2 := by decide +kernel
theorem dX13_lastHour_80 : cod mX13_lastHour 80 (.ineg) 1 := by decide +kernel
theorem dX13_lastHour_81 : cod mX13_lastHour 81 (.goto 5) 3 := by decide +kernel
theorem dX13_lastHour_84 : cod mX13_lastHour 84 (.iload 9) 2 := by decide +kernel
theorem dX13_lastHour_86 : cod mX13_lastHour 86 (.imul) 1 := by decide +kernel
theorem dX13_lastHour_87 : cod mX13_lastHour 87 (.isub) 1 := by decide +kernel
theorem dX13_lastHour_88 : cod mX13_lastHour 88 (.iload 9) 2 := by decide +kernel
theorem dX13_lastHour_90 : cod mX13_lastHour 90 (.aload_n 0) 1 := by decide +kernel
theorem dX13_lastHour_91 : cod mX13_lastHour 91 (.getfield 13) 3 := by decide +kernel
theorem dX13_lastHour_94 : cod mX13_lastHour 94 (.iload 7) 2 := by decide +kernel
theorem dX13_lastHour_96 : cod mX13_lastHour 96 (.iaload) 1 := by decide +kernel
theorem dX13_lastHour_97 : cod mX13_lastHour 97 (.imul) 1 := by decide +kernel
theorem dX13_lastHour_98 : cod mX13_lastHour 98 (.iadd) 1 := by decide +kernel
theorem dX13_lastHour_99 : cod mX13_lastHour 99 (.istore 10) 2 := by decide +kernel
theorem dX13_lastHour_101 : cod mX13_lastHour 101 (.lload 5) 2 := by decide +kernel
theorem dX13_lastHour_103 : cod mX13_lastHour 103 (.aload_n 0) 1 := by decide +kernel
theorem dX13_lastHour_104 : cod mX13_lastHour 104 (.getfield 79) 3 := by decide +kernel
theorem dX13_lastHour_107 : cod mX13_lastHour 107 (.iload 7) 2 := by decide +kernel
theorem dX13_lastHour_109 : cod mX13_lastHour 109 (.laload) 1 := by decide +kernel
theorem dX13_lastHour_110 : cod mX13_lastHour 110 (.aload_n 0) 1 := by decide +kernel
theorem dX13_lastHour_111 : cod mX13_lastHour 111 (.iload 8) 2 := by decide +kernel
theorem dX13_lastHour_113 : cod mX13_lastHour 113 (.iload 7) 2 := by decide +kernel
theorem dX13_lastHour_115 : cod mX13_lastHour 115 (.iload_n 1) 1 := by decide +kernel
theorem dX13_lastHour_116 : cod mX13_lastHour 116 (.iload_n 2) 1 := by decide +kernel
theorem dX13_lastHour_117 : cod mX13_lastHour 117 (.iload_n 3) 1 := by decide +kernel
theorem dX13_lastHour_118 : cod mX13_lastHour 118 (.invokevirtual 214) 3 := by decide +kernel
theorem dX13_lastHour_121 : cod mX13_lastHour 121 (.i2l) 1 := by decide +kernel
theorem dX13_lastHour_122 : cod mX13_lastHour 122 (.lmul) 1 := by decide +kernel
theorem dX13_lastHour_123 : cod mX13_lastHour 123 (.iload 10) 2 := by decide +kernel
theorem dX13_lastHour_125 : cod mX13_lastHour 125 (.i2l) 1 := by decide +kernel
theorem dX13_lastHour_126 : cod mX13_lastHour 126 (.lmul) 1 := by decide +kernel
theorem dX13_lastHour_127 : cod mX13_lastHour 127 (.ladd) 1 := by decide +kernel
theorem dX13_lastHour_128 : cod mX13_lastHour 128 (.lstore 5) 2 := by decide +kernel
theorem dX13_lastHour_130 : cod mX13_lastHour 130 (.iinc 8 1) 3 := by decide +kernel
theorem dX13_lastHour_133 : cod mX13_lastHour 133 (.goto (-115)) 3 := by decide +kernel
theorem dX13_lastHour_136 : cod mX13_lastHour 136 (.iinc 7 1) 3 := by decide +kernel
theorem dX13_lastHour_139 : cod mX13_lastHour 139 (.goto (-133)) 3 := by decide +kernel
theorem dX13_lastHour_142 : cod mX13_lastHour 142 (.lload 5) 2 := by decide +kernel
theorem dX13_lastHour_144 : cod mX13_lastHour 144 (.lreturn) 1 := by decide +kernel
def jn_X13_lastHour_136 (K6 : Nat → Int32 → Int32 → Int32 → Int32 → Int64 → Int32 → Mem → Prop) (Q : Int64 → Mem → Prop) (x0 : Nat) (x1 : Int32) (x2 : Int32) (x3 : Int32) (x4 : Int32) (x5 : Int64) (x7 : Int32) (M : Mem) : Prop := K6 x0 x1 x2 x3 x4 x5 (x7 + 1) M
theorem P_jn_X13_lastHour_136 {G : GG} {K6 : Nat → Int32 → Int32 → Int32 → Int32 → Int64 → Int32 → Mem → Prop} {Q : Int64 → Mem → Prop} (hK6 : ∀ (x0 : Nat) (x1 : Int32) (x2 : Int32) (x3 : Int32) (x4 : Int32) (x5 : Int64) (x7 : Int32) (M : Mem), K6 x0 x1 x2 x3 x4 x5 x7 M → PW G mX13_lastHour (rmD 2 0 0) (QJ Q) 6 [some (.ref x0), some (.int x1), some (.int x2), some (.int x3), some (.int x4), some (.long x5), none, some (.int x7), none, none, none] [] M 0 0) (x0 : Nat) (x1 : Int32) (x2 : Int32) (x3 : Int32) (x4 : Int32) (x5 : Int64) (x7 : Int32) (M : Mem) (h : jn_X13_lastHour_136 K6 Q x0 x1 x2 x3 x4 x5 x7 M) : PW G mX13_lastHour (rmD 2 0 0) (QJ Q) 136 [some (.ref x0), some (.int x1), some (.int x2), some (.int x3), some (.int x4), some (.long x5), none, some (.int x7), none, none, none] [] M 0 0 := (s_iinc (pc := 136) (L1 := [some (.ref x0), some (.int x1), some (.int x2), some (.int x3), some (.int x4), some (.long x5), none, some (.int (x7 + 1)), none, none, none]) dX13_lastHour_136 rfl ci_1 (Nat.le_of_ble_eq_true rfl) rfl (s_goto (pc := 139) (tgt := 6) dX13_lastHour_139 rfl (s_sel (L1 := [some (.ref x0), some (.int x1), some (.int x2), some (.int x3), some (.int x4), some (.long x5), none, some (.int (x7 + 1)), none, none, none]) [true, true, true, true, true, true, false, true, false, false, false] rfl (hK6 x0 x1 x2 x3 x4 x5 (x7 + 1) M h))))
def jn_X13_lastHour_86 (K6 : Nat → Int32 → Int32 → Int32 → Int32 → Int64 → Int32 → Mem → Prop) (K18 : Nat → Int32 → Int32 → Int32 → Int32 → Int64 → Int32 → Int32 → Mem → Prop) (Q : Int64 → Mem → Prop) (x0 : Nat) (x1 : Int32) (x2 : Int32) (x3 : Int32) (x4 : Int32) (x5 : Int64) (x7 : Int32) (x8 : Int32) (x9 : Int32) (s0 : Int32) (s1 : Int32) (s2 : Int32) (M : Mem) : Prop := mK M x0 = 14 ∧ mK M (mR M x0 2) = 20 ∧ vp_in x7 (mN M (mR M x0 2)) ∧ ∀ y28 : Int32, y28 = (s2 - (s1 * s0)) + (x9 * (mI M (mR M x0 2) x7.toNatClampNeg)) → mK M (mR M x0 37) = 21 ∧ vp_in x7 (mN M (mR M x0 37)) ∧ wp_X13_hundredths x0 x8 x7 x1 x2 x3 M (fun r33 M32 => ∀ y34 : Int64, y34 = x5 + (((mJ M (mR M x0 37) x7.toNatClampNeg) * r33.toInt64) * y28.toInt64) → K18 x0 x1 x2 x3 x4 y34 x7 (x8 + 1) M32)
theorem P_jn_X13_lastHour_86 {G : GG} {K6 : Nat → Int32 → Int32 → Int32 → Int32 → Int64 → Int32 → Mem → Prop} {K18 : Nat → Int32 → Int32 → Int32 → Int32 → Int64 → Int32 → Int32 → Mem → Prop} {Q : Int64 → Mem → Prop} (hK6 : ∀ (x0 : Nat) (x1 : Int32) (x2 : Int32) (x3 : Int32) (x4 : Int32) (x5 : Int64) (x7 : Int32) (M : Mem), K6 x0 x1 x2 x3 x4 x5 x7 M → PW G mX13_lastHour (rmD 2 0 0) (QJ Q) 6 [some (.ref x0), some (.int x1), some (.int x2), some (.int x3), some (.int x4), some (.long x5), none, some (.int x7), none, none, none] [] M 0 0) (hK18 : ∀ (x0 : Nat) (x1 : Int32) (x2 : Int32) (x3 : Int32) (x4 : Int32) (x5 : Int64) (x7 : Int32) (x8 : Int32) (M : Mem), K18 x0 x1 x2 x3 x4 x5 x7 x8 M → PW G mX13_lastHour (rmD 2 0 0) (QJ Q) 18 [some (.ref x0), some (.int x1), some (.int x2), some (.int x3), some (.int x4), some (.long x5), none, some (.int x7), some (.int x8), none, none] [] M 0 0) (x0 : Nat) (x1 : Int32) (x2 : Int32) (x3 : Int32) (x4 : Int32) (x5 : Int64) (x7 : Int32) (x8 : Int32) (x9 : Int32) (s0 : Int32) (s1 : Int32) (s2 : Int32) (M : Mem) (h : jn_X13_lastHour_86 K6 K18 Q x0 x1 x2 x3 x4 x5 x7 x8 x9 s0 s1 s2 M) : PW G mX13_lastHour (rmD 2 0 0) (QJ Q) 86 [some (.ref x0), some (.int x1), some (.int x2), some (.int x3), some (.int x4), some (.long x5), none, some (.int x7), some (.int x8), some (.int x9), none] [.int s0, .int s1, .int s2] M 0 0 := (s_imul (pc := 86) dX13_lastHour_86 (s_isub (pc := 87) dX13_lastHour_87 (s_iload (pc := 88) dX13_lastHour_88 rfl (s_aload_n (pc := 90) dX13_lastHour_90 rfl (s_getR (pc := 91) dX13_lastHour_91 f_X13_13 rfl h.1 (s_iload (pc := 94) dX13_lastHour_94 rfl (s_ial (pc := 96) dX13_lastHour_96 h.2.1 h.2.2.1 (s_imul (pc := 97) dX13_lastHour_97 (s_iadd (pc := 98) dX13_lastHour_98 (nmI (fun y28 e29 => have h30 := h.2.2.2 y28 e29; s_istore (pc := 99) (L1 := [some (.ref x0), some (.int x1), some (.int x2), some (.int x3), some (.int x4), some (.long x5), none, some (.int x7), some (.int x8), some (.int x9), some (.int y28)]) dX13_lastHour_99 (Nat.le_of_ble_eq_true rfl) rfl (s_lload (pc := 101) dX13_lastHour_101 rfl (s_aload_n (pc := 103) dX13_lastHour_103 rfl (s_getR (pc := 104) dX13_lastHour_104 f_X13_79 rfl h.1 (s_iload (pc := 107) dX13_lastHour_107 rfl (s_lal (pc := 109) dX13_lastHour_109 h30.1 h30.2.1 (s_aload_n (pc := 110) dX13_lastHour_110 rfl (s_iload (pc := 111) dX13_lastHour_111 rfl (s_iload (pc := 113) dX13_lastHour_113 rfl (s_iload_n (pc := 115) dX13_lastHour_115 rfl (s_iload_n (pc := 116) dX13_lastHour_116 rfl (s_iload_n (pc := 117) dX13_lastHour_117 rfl (s_callV (pc := 118) (As := [.int x8, .int x7, .int x1, .int x2, .int x3]) (rest := [.long (mJ M (mR M x0 37) x7.toNatClampNeg), .long x5]) (d' := 1) (mc' := 0) (ms' := 0) dX13_lastHour_118 c_X13_214 (Nat.le_of_ble_eq_true rfl) rfl h.1 rfl rfl (Nat.le_of_ble_eq_true rfl) (rm_ok rfl rfl) ⟨Nat.le_refl 0, Nat.le_refl 0⟩ (T_X13_hundredths h30.2.2) (kkI (fun r33 M32 h31 => s_i2l (pc := 121) dX13_lastHour_121 (s_lmul (pc := 122) dX13_lastHour_122 (s_iload (pc := 123) dX13_lastHour_123 rfl (s_i2l (pc := 125) dX13_lastHour_125 (s_lmul (pc := 126) dX13_lastHour_126 (s_ladd (pc := 127) dX13_lastHour_127 (nmJ (fun y34 e35 => have h36 := h31 y34 e35; s_lstore (pc := 128) (L1 := [some (.ref x0), some (.int x1), some (.int x2), some (.int x3), some (.int x4), some (.long y34), none, some (.int x7), some (.int x8), some (.int x9), some (.int y28)]) dX13_lastHour_128 (Nat.le_of_ble_eq_true rfl) rfl (s_iinc (pc := 130) (L1 := [some (.ref x0), some (.int x1), some (.int x2), some (.int x3), some (.int x4), some (.long y34), none, some (.int x7), some (.int (x8 + 1)), some (.int x9), some (.int y28)]) dX13_lastHour_130 rfl ci_1 (Nat.le_of_ble_eq_true rfl) rfl (s_goto (pc := 133) (tgt := 18) dX13_lastHour_133 rfl (s_sel (L1 := [some (.ref x0), some (.int x1), some (.int x2), some (.int x3), some (.int x4), some (.long y34), none, some (.int x7), some (.int (x8 + 1)), none, none]) [true, true, true, true, true, true, false, true, true, false, false] rfl (hK18 x0 x1 x2 x3 x4 y34 x7 (x8 + 1) M32 h36))))))))))))))))))))))))))))))))))))
def jn_X13_lastHour_68 (K6 : Nat → Int32 → Int32 → Int32 → Int32 → Int64 → Int32 → Mem → Prop) (K18 : Nat → Int32 → Int32 → Int32 → Int32 → Int64 → Int32 → Int32 → Mem → Prop) (Q : Int64 → Mem → Prop) (x0 : Nat) (x1 : Int32) (x2 : Int32) (x3 : Int32) (x4 : Int32) (x5 : Int64) (x7 : Int32) (x8 : Int32) (x9 : Int32) (s0 : Int32) (s1 : Int32) (M : Mem) : Prop := mK M x0 = 14 ∧ ((0 : Int32) ≤ x9 → jn_X13_lastHour_86 K6 K18 Q x0 x1 x2 x3 x4 x5 x7 x8 x9 x9 (mI M x0 8) (s1 + s0) M) ∧ (¬ (0 : Int32) ≤ x9 → jn_X13_lastHour_86 K6 K18 Q x0 x1 x2 x3 x4 x5 x7 x8 x9 (-x9) (mI M x0 8) (s1 + s0) M)
theorem P_jn_X13_lastHour_68 {G : GG} {K6 : Nat → Int32 → Int32 → Int32 → Int32 → Int64 → Int32 → Mem → Prop} {K18 : Nat → Int32 → Int32 → Int32 → Int32 → Int64 → Int32 → Int32 → Mem → Prop} {Q : Int64 → Mem → Prop} (hK6 : ∀ (x0 : Nat) (x1 : Int32) (x2 : Int32) (x3 : Int32) (x4 : Int32) (x5 : Int64) (x7 : Int32) (M : Mem), K6 x0 x1 x2 x3 x4 x5 x7 M → PW G mX13_lastHour (rmD 2 0 0) (QJ Q) 6 [some (.ref x0), some (.int x1), some (.int x2), some (.int x3), some (.int x4), some (.long x5), none, some (.int x7), none, none, none] [] M 0 0) (hK18 : ∀ (x0 : Nat) (x1 : Int32) (x2 : Int32) (x3 : Int32) (x4 : Int32) (x5 : Int64) (x7 : Int32) (x8 : Int32) (M : Mem), K18 x0 x1 x2 x3 x4 x5 x7 x8 M → PW G mX13_lastHour (rmD 2 0 0) (QJ Q) 18 [some (.ref x0), some (.int x1), some (.int x2), some (.int x3), some (.int x4), some (.long x5), none, some (.int x7), some (.int x8), none, none] [] M 0 0) (x0 : Nat) (x1 : Int32) (x2 : Int32) (x3 : Int32) (x4 : Int32) (x5 : Int64) (x7 : Int32) (x8 : Int32) (x9 : Int32) (s0 : Int32) (s1 : Int32) (M : Mem) (h : jn_X13_lastHour_68 K6 K18 Q x0 x1 x2 x3 x4 x5 x7 x8 x9 s0 s1 M) : PW G mX13_lastHour (rmD 2 0 0) (QJ Q) 68 [some (.ref x0), some (.int x1), some (.int x2), some (.int x3), some (.int x4), some (.long x5), none, some (.int x7), some (.int x8), some (.int x9), none] [.int s0, .int s1] M 0 0 := (s_iadd (pc := 68) dX13_lastHour_68 (s_aload_n (pc := 69) dX13_lastHour_69 rfl (s_getI (pc := 70) dX13_lastHour_70 f_X13_171 rfl h.1 (s_iload (pc := 73) dX13_lastHour_73 rfl (s_if_ge (pc := 75) (tgt := 84) dX13_lastHour_75 rfl (fun c24 => have h25 := h.2.1 c24; s_iload (pc := 84) dX13_lastHour_84 rfl (s_sel (L1 := [some (.ref x0), some (.int x1), some (.int x2), some (.int x3), some (.int x4), some (.long x5), none, some (.int x7), some (.int x8), some (.int x9), none]) [true, true, true, true, true, true, false, true, true, true, false] rfl (P_jn_X13_lastHour_86 hK6 hK18 x0 x1 x2 x3 x4 x5 x7 x8 x9 x9 (mI M x0 8) (s1 + s0) M h25))) (fun c26 => have h27 := h.2.2 c26; s_iload (pc := 78) dX13_lastHour_78 rfl (s_ineg (pc := 80) dX13_lastHour_80 (s_goto (pc := 81) (tgt := 86) dX13_lastHour_81 rfl (s_sel (L1 := [some (.ref x0), some (.int x1), some (.int x2), some (.int x3), some (.int x4), some (.long x5), none, some (.int x7), some (.int x8), some (.int x9), none]) [true, true, true, true, true, true, false, true, true, true, false] rfl (P_jn_X13_lastHour_86 hK6 hK18 x0 x1 x2 x3 x4 x5 x7 x8 x9 (-x9) (mI M x0 8) (s1 + s0) M h27))))))))))
def lp_X13_lastHour_18 (K6 : Nat → Int32 → Int32 → Int32 → Int32 → Int64 → Int32 → Mem → Prop) (Q : Int64 → Mem → Prop) : Nat → Nat → Int32 → Int32 → Int32 → Int32 → Int64 → Int32 → Int32 → Mem → Prop
  | 0 => fun _ _ _ _ _ _ _ _ _ => False
  | n + 1 => fun x0 x1 x2 x3 x4 x5 x7 x8 M => ((3 : Int32) ≤ x8 → jn_X13_lastHour_136 K6 Q x0 x1 x2 x3 x4 x5 x7 M) ∧ (¬ (3 : Int32) ≤ x8 → mK M x0 = 14 ∧ mK M (mR M x0 37) = 21 ∧ vp_in x7 (mN M (mR M x0 37)) ∧ ((mJ M (mR M x0 37) x7.toNatClampNeg) ≤ (0 : Int64) → jn_X13_lastHour_136 K6 Q x0 x1 x2 x3 x4 x5 x7 M) ∧ (¬ (mJ M (mR M x0 37) x7.toNatClampNeg) ≤ (0 : Int64) → wp_X13_heldBy x8 x3 M (fun r15 M14 => (¬ x8 = (1 : Int32) → (¬ x8 = (2 : Int32) → jn_X13_lastHour_68 K6 (fun fx0 fx1 fx2 fx3 fx4 fx5 fx7 fx8 fM => lp_X13_lastHour_18 K6 Q n fx0 fx1 fx2 fx3 fx4 fx5 fx7 fx8 fM) Q x0 x1 x2 x3 x4 x5 x7 x8 r15 0 x4 M14) ∧ (x8 = (2 : Int32) → jn_X13_lastHour_68 K6 (fun fx0 fx1 fx2 fx3 fx4 fx5 fx7 fx8 fM => lp_X13_lastHour_18 K6 Q n fx0 fx1 fx2 fx3 fx4 fx5 fx7 fx8 fM) Q x0 x1 x2 x3 x4 x5 x7 x8 r15 (-x1) x4 M14)) ∧ (x8 = (1 : Int32) → jn_X13_lastHour_68 K6 (fun fx0 fx1 fx2 fx3 fx4 fx5 fx7 fx8 fM => lp_X13_lastHour_18 K6 Q n fx0 fx1 fx2 fx3 fx4 fx5 fx7 fx8 fM) Q x0 x1 x2 x3 x4 x5 x7 x8 r15 x2 x4 M14))))
theorem P_lp_X13_lastHour_18 {G : GG} {K6 : Nat → Int32 → Int32 → Int32 → Int32 → Int64 → Int32 → Mem → Prop} {Q : Int64 → Mem → Prop} (hK6 : ∀ (x0 : Nat) (x1 : Int32) (x2 : Int32) (x3 : Int32) (x4 : Int32) (x5 : Int64) (x7 : Int32) (M : Mem), K6 x0 x1 x2 x3 x4 x5 x7 M → PW G mX13_lastHour (rmD 2 0 0) (QJ Q) 6 [some (.ref x0), some (.int x1), some (.int x2), some (.int x3), some (.int x4), some (.long x5), none, some (.int x7), none, none, none] [] M 0 0) : ∀ (n : Nat) (x0 : Nat) (x1 : Int32) (x2 : Int32) (x3 : Int32) (x4 : Int32) (x5 : Int64) (x7 : Int32) (x8 : Int32) (M : Mem), lp_X13_lastHour_18 K6 Q n x0 x1 x2 x3 x4 x5 x7 x8 M → PW G mX13_lastHour (rmD 2 0 0) (QJ Q) 18 [some (.ref x0), some (.int x1), some (.int x2), some (.int x3), some (.int x4), some (.long x5), none, some (.int x7), some (.int x8), none, none] [] M 0 0 := by
  intro n
  induction n with
  | zero => intro x0 x1 x2 x3 x4 x5 x7 x8 M h; exact h.elim
  | succ n ih =>
    intro x0 x1 x2 x3 x4 x5 x7 x8 M h
    exact (s_iload (pc := 18) dX13_lastHour_18 rfl (s_iconst (pc := 20) dX13_lastHour_20 ci_3 (s_icmp_ge (pc := 21) (tgt := 136) dX13_lastHour_21 rfl (fun c5 => have h6 := h.1 c5; s_sel (L1 := [some (.ref x0), some (.int x1), some (.int x2), some (.int x3), some (.int x4), some (.long x5), none, some (.int x7), none, none, none]) [true, true, true, true, true, true, false, true, false, false, false] rfl (P_jn_X13_lastHour_136 hK6 x0 x1 x2 x3 x4 x5 x7 M h6)) (fun c7 => have h8 := h.2 c7; s_aload_n (pc := 24) dX13_lastHour_24 rfl (s_getR (pc := 25) dX13_lastHour_25 f_X13_79 rfl h8.1 (s_iload (pc := 28) dX13_lastHour_28 rfl (s_lal (pc := 30) dX13_lastHour_30 h8.2.1 h8.2.2.1 (s_lconst (pc := 31) (v := 0) dX13_lastHour_31 rfl (s_lif_le (pc := 32) (tgt := 136) dX13_lastHour_32 dX13_lastHour_33 rfl (fun c9 => have h10 := h8.2.2.2.1 c9; s_sel (L1 := [some (.ref x0), some (.int x1), some (.int x2), some (.int x3), some (.int x4), some (.long x5), none, some (.int x7), none, none, none]) [true, true, true, true, true, true, false, true, false, false, false] rfl (P_jn_X13_lastHour_136 hK6 x0 x1 x2 x3 x4 x5 x7 M h10)) (fun c11 => have h12 := h8.2.2.2.2 c11; s_iload (pc := 36) dX13_lastHour_36 rfl (s_iload_n (pc := 38) dX13_lastHour_38 rfl (s_callS (pc := 39) (As := [.int x8, .int x3]) (rest := []) (d' := 0) (mc' := 0) (ms' := 0) dX13_lastHour_39 c_X13_241 rfl rfl (Nat.le_of_ble_eq_true rfl) (rm_ok rfl rfl) ⟨Nat.le_refl 0, Nat.le_refl 0⟩ (T_X13_heldBy h12) (kkI (fun r15 M14 h13 => s_istore (pc := 42) (L1 := [some (.ref x0), some (.int x1), some (.int x2), some (.int x3), some (.int x4), some (.long x5), none, some (.int x7), some (.int x8), some (.int r15), none]) dX13_lastHour_42 (Nat.le_of_ble_eq_true rfl) rfl (s_iload (pc := 44) dX13_lastHour_44 rfl (s_iload (pc := 46) dX13_lastHour_46 rfl (s_iconst (pc := 48) dX13_lastHour_48 ci_1 (s_icmp_ne (pc := 49) (tgt := 56) dX13_lastHour_49 rfl (fun c16 => have h17 := h13.1 c16; s_iload (pc := 56) dX13_lastHour_56 rfl (s_iconst (pc := 58) dX13_lastHour_58 ci_2 (s_icmp_ne (pc := 59) (tgt := 67) dX13_lastHour_59 rfl (fun c20 => have h21 := h17.1 c20; s_iconst (pc := 67) dX13_lastHour_67 ci_0 (s_sel (L1 := [some (.ref x0), some (.int x1), some (.int x2), some (.int x3), some (.int x4), some (.long x5), none, some (.int x7), some (.int x8), some (.int r15), none]) [true, true, true, true, true, true, false, true, true, true, false] rfl (P_jn_X13_lastHour_68 hK6 ih x0 x1 x2 x3 x4 x5 x7 x8 r15 0 x4 M14 h21))) (fun c22 => have h23 := h17.2 c22; s_iload_n (pc := 62) dX13_lastHour_62 rfl (s_ineg (pc := 63) dX13_lastHour_63 (s_goto (pc := 64) (tgt := 68) dX13_lastHour_64 rfl (s_sel (L1 := [some (.ref x0), some (.int x1), some (.int x2), some (.int x3), some (.int x4), some (.long x5), none, some (.int x7), some (.int x8), some (.int r15), none]) [true, true, true, true, true, true, false, true, true, true, false] rfl (P_jn_X13_lastHour_68 hK6 ih x0 x1 x2 x3 x4 x5 x7 x8 r15 (-x1) x4 M14 h23)))))))) (fun c18 => have h19 := h13.2 c18; s_iload_n (pc := 52) dX13_lastHour_52 rfl (s_goto (pc := 53) (tgt := 68) dX13_lastHour_53 rfl (s_sel (L1 := [some (.ref x0), some (.int x1), some (.int x2), some (.int x3), some (.int x4), some (.long x5), none, some (.int x7), some (.int x8), some (.int r15), none]) [true, true, true, true, true, true, false, true, true, true, false] rfl (P_jn_X13_lastHour_68 hK6 ih x0 x1 x2 x3 x4 x5 x7 x8 r15 x2 x4 M14 h19))))))))))))))))))))))
def lp_X13_lastHour_6 (Q : Int64 → Mem → Prop) : Nat → Nat → Int32 → Int32 → Int32 → Int32 → Int64 → Int32 → Mem → Prop
  | 0 => fun _ _ _ _ _ _ _ _ => False
  | n + 1 => fun x0 x1 x2 x3 x4 x5 x7 M => mK M x0 = 14 ∧ ((mI M x0 0) ≤ x7 → Q x5 M) ∧ (¬ (mI M x0 0) ≤ x7 → ∃ n37 : Nat, lp_X13_lastHour_18 (fun fx0 fx1 fx2 fx3 fx4 fx5 fx7 fM => lp_X13_lastHour_6 Q n fx0 fx1 fx2 fx3 fx4 fx5 fx7 fM) Q n37 x0 x1 x2 x3 x4 x5 x7 0 M)
theorem P_lp_X13_lastHour_6 {G : GG} {Q : Int64 → Mem → Prop} : ∀ (n : Nat) (x0 : Nat) (x1 : Int32) (x2 : Int32) (x3 : Int32) (x4 : Int32) (x5 : Int64) (x7 : Int32) (M : Mem), lp_X13_lastHour_6 Q n x0 x1 x2 x3 x4 x5 x7 M → PW G mX13_lastHour (rmD 2 0 0) (QJ Q) 6 [some (.ref x0), some (.int x1), some (.int x2), some (.int x3), some (.int x4), some (.long x5), none, some (.int x7), none, none, none] [] M 0 0 := by
  intro n
  induction n with
  | zero => intro x0 x1 x2 x3 x4 x5 x7 M h; exact h.elim
  | succ n ih =>
    intro x0 x1 x2 x3 x4 x5 x7 M h
    exact (s_iload (pc := 6) dX13_lastHour_6 rfl (s_aload_n (pc := 8) dX13_lastHour_8 rfl (s_getI (pc := 9) dX13_lastHour_9 f_X13_119 rfl h.1 (s_icmp_ge (pc := 12) (tgt := 142) dX13_lastHour_12 rfl (fun c1 => have h2 := h.2.1 c1; s_lload (pc := 142) dX13_lastHour_142 rfl (s_lreturn (pc := 144) dX13_lastHour_144 rfl (Nat.zero_le _) (Nat.zero_le _) ⟨_, rfl, h2⟩)) (fun c3 => have h4 := h.2.2 c3; s_iconst (pc := 15) dX13_lastHour_15 ci_0 (s_istore (pc := 16) (L1 := [some (.ref x0), some (.int x1), some (.int x2), some (.int x3), some (.int x4), some (.long x5), none, some (.int x7), some (.int 0), none, none]) dX13_lastHour_16 (Nat.le_of_ble_eq_true rfl) rfl (Exists.elim h4 (fun n37 hn => s_sel (L1 := [some (.ref x0), some (.int x1), some (.int x2), some (.int x3), some (.int x4), some (.long x5), none, some (.int x7), some (.int 0), none, none]) [true, true, true, true, true, true, false, true, true, false, false] rfl (P_lp_X13_lastHour_18 ih n37 x0 x1 x2 x3 x4 x5 x7 0 M hn)))))))))
def wp_X13_lastHour (p0 : Nat) (p1 : Int32) (p2 : Int32) (p3 : Int32) (p4 : Int32) (M : Mem) (Q : Int64 → Mem → Prop) : Prop := ∃ n38 : Nat, lp_X13_lastHour_6 Q n38 p0 p1 p2 p3 p4 0 0 M
theorem T_X13_lastHour {G : GG} {Q : Int64 → Mem → Prop} {M : Mem} {p0 : Nat} {p1 : Int32} {p2 : Int32} {p3 : Int32} {p4 : Int32} (h : wp_X13_lastHour p0 p1 p2 p3 p4 M Q) : PMet G mX13_lastHour 2 0 0 [.ref p0, .int p1, .int p2, .int p3, .int p4] M (QJ Q) :=
  mk_met (by decide) rfl rfl (by
    intro w hw x9 e9
    subst e9
    simp at hw) (Nat.le_of_ble_eq_true rfl) (s_pad (L1 := [some (.ref p0), some (.int p1), some (.int p2), some (.int p3), some (.int p4), none, none, none, none, none, none]) 11 rfl (s_lconst (pc := 0) (v := 0) dX13_lastHour_0 rfl (s_lstore (pc := 1) (L1 := [some (.ref p0), some (.int p1), some (.int p2), some (.int p3), some (.int p4), some (.long 0), none, none, none, none, none]) dX13_lastHour_1 (Nat.le_of_ble_eq_true rfl) rfl (s_iconst (pc := 3) dX13_lastHour_3 ci_0 (s_istore (pc := 4) (L1 := [some (.ref p0), some (.int p1), some (.int p2), some (.int p3), some (.int p4), some (.long 0), none, some (.int 0), none, none, none]) dX13_lastHour_4 (Nat.le_of_ble_eq_true rfl) rfl (Exists.elim h (fun n38 hn => s_sel (L1 := [some (.ref p0), some (.int p1), some (.int p2), some (.int p3), some (.int p4), some (.long 0), none, some (.int 0), none, none, none]) [true, true, true, true, true, true, false, true, false, false, false] rfl (P_lp_X13_lastHour_6 n38 p0 p1 p2 p3 p4 0 0 M hn))))))))
/-! X13_bestLast -/
theorem dX13_bestLast_0 : cod mX13_bestLast 0 (.iconst 0) 1 := by decide +kernel
theorem dX13_bestLast_1 : cod mX13_bestLast 1 (.istore 4) 2 := by decide +kernel
theorem dX13_bestLast_3 : cod mX13_bestLast 3 (.lconst 0) 1 := by decide +kernel
theorem dX13_bestLast_4 : cod mX13_bestLast 4 (.lstore 5) 2 := by decide +kernel
theorem dX13_bestLast_6 : cod mX13_bestLast 6 (.iconst 0) 1 := by decide +kernel
theorem dX13_bestLast_7 : cod mX13_bestLast 7 (.istore 7) 2 := by decide +kernel
theorem dX13_bestLast_9 : cod mX13_bestLast 9 (.iload 7) 2 := by decide +kernel
theorem dX13_bestLast_11 : cod mX13_bestLast 11 (.bipush 100) 2 := by decide +kernel
theorem dX13_bestLast_13 : cod mX13_bestLast 13 (.if_icmp .gt 66) 3 := by decide +kernel
theorem dX13_bestLast_16 : cod mX13_bestLast 16 (.iload 7) 2 := by decide +kernel
theorem dX13_bestLast_18 : cod mX13_bestLast 18 (.iload_n 1) 1 := by decide +kernel
theorem dX13_bestLast_19 : cod mX13_bestLast 19 (.iadd) 1 := by decide +kernel
theorem dX13_bestLast_20 : cod mX13_bestLast 20 (.istore 8) 2 := by decide +kernel
theorem dX13_bestLast_22 : cod mX13_bestLast 22 (.iload 8) 2 := by decide +kernel
theorem dX13_bestLast_24 : cod mX13_bestLast 24 (.bipush 100) 2 := by decide +kernel
theorem dX13_bestLast_26 : cod mX13_bestLast 26 (.if_icmp .gt 44) 3 := by decide +kernel
theorem dX13_bestLast_29 : cod mX13_bestLast 29 (.aload_n 0) 1 := by decide +kernel
theorem dX13_bestLast_30 : cod mX13_bestLast 30 (.iload 7) 2 := by decide +kernel
theorem dX13_bestLast_32 : cod mX13_bestLast 32 (.iload 8) 2 := by decide +kernel
theorem dX13_bestLast_34 : cod mX13_bestLast 34 (.iload_n 2) 1 := by decide +kernel
theorem dX13_bestLast_35 : cod mX13_bestLast 35 (.iload_n 3) 1 := by decide +kernel
theorem dX13_bestLast_36 : cod mX13_bestLast 36 (.invokevirtual 319) 3 := by decide +kernel
theorem dX13_bestLast_39 : cod mX13_bestLast 39 (.lstore 9) 2 := by decide +kernel
theorem dX13_bestLast_41 : cod mX13_bestLast 41 (.iload 4) 2 := by decide +kernel
theorem dX13_bestLast_43 : cod mX13_bestLast 43 (.ifCond .eq 11) 3 := by decide +kernel
theorem dX13_bestLast_46 : cod mX13_bestLast 46 (.lload 9) 2 := by decide +kernel
theorem dX13_bestLast_48 : cod mX13_bestLast 48 (.lload 5) 2 := by decide +kernel
theorem dX13_bestLast_50 : cod mX13_bestLast 50 (.lcmp) 1 := by decide +kernel
theorem dX13_bestLast_51 : cod mX13_bestLast 51 (.ifCond .le 10) 3 := by decide +kernel
theorem dX13_bestLast_54 : cod mX13_bestLast 54 (.iconst 1) 1 := by decide +kernel
theorem dX13_bestLast_55 : cod mX13_bestLast 55 (.istore 4) 2 := by decide +kernel
theorem dX13_bestLast_57 : cod mX13_bestLast 57 (.lload 9) 2 := by decide +kernel
theorem dX13_bestLast_59 : cod mX13_bestLast 59 (.lstore 5) 2 := by decide +kernel
theorem dX13_bestLast_61 : cod mX13_bestLast 61 (.iload 8) 2 := by decide +kernel
theorem dX13_bestLast_63 : cod mX13_bestLast 63 (.iload_n 1) 1 := by decide +kernel
theorem dX13_bestLast_64 : cod mX13_bestLast 64 (.iadd) 1 := by decide +kernel
theorem dX13_bestLast_65 : cod mX13_bestLast 65 (.istore 8) 2 := by decide +kernel
theorem dX13_bestLast_67 : cod mX13_bestLast 67 (.goto (-45)) 3 := by decide +kernel
theorem dX13_bestLast_70 : cod mX13_bestLast 70 (.iload 7) 2 := by decide +kernel
theorem dX13_bestLast_72 : cod mX13_bestLast 72 (.iload_n 1) 1 := by decide +kernel
theorem dX13_bestLast_73 : cod mX13_bestLast 73 (.iadd) 1 := by decide +kernel
theorem dX13_bestLast_74 : cod mX13_bestLast 74 (.istore 7) 2 := by decide +kernel
theorem dX13_bestLast_76 : cod mX13_bestLast 76 (.goto (-67)) 3 := by decide +kernel
theorem dX13_bestLast_79 : cod mX13_bestLast 79 (.lload 5) 2 := by decide +kernel
theorem dX13_bestLast_81 : cod mX13_bestLast 81 (.lreturn) 1 := by decide +kernel
def jn_X13_bestLast_61 (K9 : Nat → Int32 → Int32 → Int32 → Int32 → Int64 → Int32 → Mem → Prop) (K22 : Nat → Int32 → Int32 → Int32 → Int32 → Int64 → Int32 → Int32 → Mem → Prop) (Q : Int64 → Mem → Prop) (x0 : Nat) (x1 : Int32) (x2 : Int32) (x3 : Int32) (x4 : Int32) (x5 : Int64) (x7 : Int32) (x8 : Int32) (M : Mem) : Prop := ∀ y22 : Int32, y22 = x8 + x1 → K22 x0 x1 x2 x3 x4 x5 x7 y22 M
theorem P_jn_X13_bestLast_61 {G : GG} {K9 : Nat → Int32 → Int32 → Int32 → Int32 → Int64 → Int32 → Mem → Prop} {K22 : Nat → Int32 → Int32 → Int32 → Int32 → Int64 → Int32 → Int32 → Mem → Prop} {Q : Int64 → Mem → Prop} (hK9 : ∀ (x0 : Nat) (x1 : Int32) (x2 : Int32) (x3 : Int32) (x4 : Int32) (x5 : Int64) (x7 : Int32) (M : Mem), K9 x0 x1 x2 x3 x4 x5 x7 M → PW G mX13_bestLast (rmD 3 0 0) (QJ Q) 9 [some (.ref x0), some (.int x1), some (.int x2), some (.int x3), some (.int x4), some (.long x5), none, some (.int x7), none, none, none] [] M 0 0) (hK22 : ∀ (x0 : Nat) (x1 : Int32) (x2 : Int32) (x3 : Int32) (x4 : Int32) (x5 : Int64) (x7 : Int32) (x8 : Int32) (M : Mem), K22 x0 x1 x2 x3 x4 x5 x7 x8 M → PW G mX13_bestLast (rmD 3 0 0) (QJ Q) 22 [some (.ref x0), some (.int x1), some (.int x2), some (.int x3), some (.int x4), some (.long x5), none, some (.int x7), some (.int x8), none, none] [] M 0 0) (x0 : Nat) (x1 : Int32) (x2 : Int32) (x3 : Int32) (x4 : Int32) (x5 : Int64) (x7 : Int32) (x8 : Int32) (M : Mem) (h : jn_X13_bestLast_61 K9 K22 Q x0 x1 x2 x3 x4 x5 x7 x8 M) : PW G mX13_bestLast (rmD 3 0 0) (QJ Q) 61 [some (.ref x0), some (.int x1), some (.int x2), some (.int x3), some (.int x4), some (.long x5), none, some (.int x7), some (.int x8), none, none] [] M 0 0 := (s_iload (pc := 61) dX13_bestLast_61 rfl (s_iload_n (pc := 63) dX13_bestLast_63 rfl (s_iadd (pc := 64) dX13_bestLast_64 (nmI (fun y22 e23 => have h24 := h y22 e23; s_istore (pc := 65) (L1 := [some (.ref x0), some (.int x1), some (.int x2), some (.int x3), some (.int x4), some (.long x5), none, some (.int x7), some (.int y22), none, none]) dX13_bestLast_65 (Nat.le_of_ble_eq_true rfl) rfl (s_goto (pc := 67) (tgt := 22) dX13_bestLast_67 rfl (s_sel (L1 := [some (.ref x0), some (.int x1), some (.int x2), some (.int x3), some (.int x4), some (.long x5), none, some (.int x7), some (.int y22), none, none]) [true, true, true, true, true, true, false, true, true, false, false] rfl (hK22 x0 x1 x2 x3 x4 x5 x7 y22 M h24))))))))
def jn_X13_bestLast_54 (K9 : Nat → Int32 → Int32 → Int32 → Int32 → Int64 → Int32 → Mem → Prop) (K22 : Nat → Int32 → Int32 → Int32 → Int32 → Int64 → Int32 → Int32 → Mem → Prop) (Q : Int64 → Mem → Prop) (x0 : Nat) (x1 : Int32) (x2 : Int32) (x3 : Int32) (x7 : Int32) (x8 : Int32) (x9 : Int64) (M : Mem) : Prop := jn_X13_bestLast_61 K9 K22 Q x0 x1 x2 x3 1 x9 x7 x8 M
theorem P_jn_X13_bestLast_54 {G : GG} {K9 : Nat → Int32 → Int32 → Int32 → Int32 → Int64 → Int32 → Mem → Prop} {K22 : Nat → Int32 → Int32 → Int32 → Int32 → Int64 → Int32 → Int32 → Mem → Prop} {Q : Int64 → Mem → Prop} (hK9 : ∀ (x0 : Nat) (x1 : Int32) (x2 : Int32) (x3 : Int32) (x4 : Int32) (x5 : Int64) (x7 : Int32) (M : Mem), K9 x0 x1 x2 x3 x4 x5 x7 M → PW G mX13_bestLast (rmD 3 0 0) (QJ Q) 9 [some (.ref x0), some (.int x1), some (.int x2), some (.int x3), some (.int x4), some (.long x5), none, some (.int x7), none, none, none] [] M 0 0) (hK22 : ∀ (x0 : Nat) (x1 : Int32) (x2 : Int32) (x3 : Int32) (x4 : Int32) (x5 : Int64) (x7 : Int32) (x8 : Int32) (M : Mem), K22 x0 x1 x2 x3 x4 x5 x7 x8 M → PW G mX13_bestLast (rmD 3 0 0) (QJ Q) 22 [some (.ref x0), some (.int x1), some (.int x2), some (.int x3), some (.int x4), some (.long x5), none, some (.int x7), some (.int x8), none, none] [] M 0 0) (x0 : Nat) (x1 : Int32) (x2 : Int32) (x3 : Int32) (x7 : Int32) (x8 : Int32) (x9 : Int64) (M : Mem) (h : jn_X13_bestLast_54 K9 K22 Q x0 x1 x2 x3 x7 x8 x9 M) : PW G mX13_bestLast (rmD 3 0 0) (QJ Q) 54 [some (.ref x0), some (.int x1), some (.int x2), some (.int x3), none, none, none, some (.int x7), some (.int x8), some (.long x9), none] [] M 0 0 := (s_iconst (pc := 54) dX13_bestLast_54 ci_1 (s_istore (pc := 55) (L1 := [some (.ref x0), some (.int x1), some (.int x2), some (.int x3), some (.int 1), none, none, some (.int x7), some (.int x8), some (.long x9), none]) dX13_bestLast_55 (Nat.le_of_ble_eq_true rfl) rfl (s_lload (pc := 57) dX13_bestLast_57 rfl (s_lstore (pc := 59) (L1 := [some (.ref x0), some (.int x1), some (.int x2), some (.int x3), some (.int 1), some (.long x9), none, some (.int x7), some (.int x8), some (.long x9), none]) dX13_bestLast_59 (Nat.le_of_ble_eq_true rfl) rfl (s_sel (L1 := [some (.ref x0), some (.int x1), some (.int x2), some (.int x3), some (.int 1), some (.long x9), none, some (.int x7), some (.int x8), none, none]) [true, true, true, true, true, true, false, true, true, false, false] rfl (P_jn_X13_bestLast_61 hK9 hK22 x0 x1 x2 x3 1 x9 x7 x8 M h))))))
def lp_X13_bestLast_22 (K9 : Nat → Int32 → Int32 → Int32 → Int32 → Int64 → Int32 → Mem → Prop) (Q : Int64 → Mem → Prop) : Nat → Nat → Int32 → Int32 → Int32 → Int32 → Int64 → Int32 → Int32 → Mem → Prop
  | 0 => fun _ _ _ _ _ _ _ _ _ => False
  | n + 1 => fun x0 x1 x2 x3 x4 x5 x7 x8 M => ((100 : Int32) < x8 → ∀ y12 : Int32, y12 = x7 + x1 → K9 x0 x1 x2 x3 x4 x5 y12 M) ∧ (¬ (100 : Int32) < x8 → mK M x0 = 14 ∧ wp_X13_lastHour x0 x7 x8 x2 x3 M (fun r17 M16 => (x4 = (0 : Int32) → jn_X13_bestLast_54 K9 (fun fx0 fx1 fx2 fx3 fx4 fx5 fx7 fx8 fM => lp_X13_bestLast_22 K9 Q n fx0 fx1 fx2 fx3 fx4 fx5 fx7 fx8 fM) Q x0 x1 x2 x3 x7 x8 r17 M16) ∧ (¬ x4 = (0 : Int32) → (r17 ≤ x5 → jn_X13_bestLast_61 K9 (fun fx0 fx1 fx2 fx3 fx4 fx5 fx7 fx8 fM => lp_X13_bestLast_22 K9 Q n fx0 fx1 fx2 fx3 fx4 fx5 fx7 fx8 fM) Q x0 x1 x2 x3 x4 x5 x7 x8 M16) ∧ (¬ r17 ≤ x5 → jn_X13_bestLast_54 K9 (fun fx0 fx1 fx2 fx3 fx4 fx5 fx7 fx8 fM => lp_X13_bestLast_22 K9 Q n fx0 fx1 fx2 fx3 fx4 fx5 fx7 fx8 fM) Q x0 x1 x2 x3 x7 x8 r17 M16))))
theorem P_lp_X13_bestLast_22 {G : GG} {K9 : Nat → Int32 → Int32 → Int32 → Int32 → Int64 → Int32 → Mem → Prop} {Q : Int64 → Mem → Prop} (hK9 : ∀ (x0 : Nat) (x1 : Int32) (x2 : Int32) (x3 : Int32) (x4 : Int32) (x5 : Int64) (x7 : Int32) (M : Mem), K9 x0 x1 x2 x3 x4 x5 x7 M → PW G mX13_bestLast (rmD 3 0 0) (QJ Q) 9 [some (.ref x0), some (.int x1), some (.int x2), some (.int x3), some (.int x4), some (.long x5), none, some (.int x7), none, none, none] [] M 0 0) : ∀ (n : Nat) (x0 : Nat) (x1 : Int32) (x2 : Int32) (x3 : Int32) (x4 : Int32) (x5 : Int64) (x7 : Int32) (x8 : Int32) (M : Mem), lp_X13_bestLast_22 K9 Q n x0 x1 x2 x3 x4 x5 x7 x8 M → PW G mX13_bestLast (rmD 3 0 0) (QJ Q) 22 [some (.ref x0), some (.int x1), some (.int x2), some (.int x3), some (.int x4), some (.long x5), none, some (.int x7), some (.int x8), none, none] [] M 0 0 := by
  intro n
  induction n with
  | zero => intro x0 x1 x2 x3 x4 x5 x7 x8 M h; exact h.elim
  | succ n ih =>
    intro x0 x1 x2 x3 x4 x5 x7 x8 M h
    exact (s_iload (pc := 22) dX13_bestLast_22 rfl (s_bipush (pc := 24) dX13_bestLast_24 cb_100 (s_icmp_gt (pc := 26) (tgt := 70) dX13_bestLast_26 rfl (fun c8 => have h9 := h.1 c8; s_iload (pc := 70) dX13_bestLast_70 rfl (s_iload_n (pc := 72) dX13_bestLast_72 rfl (s_iadd (pc := 73) dX13_bestLast_73 (nmI (fun y12 e13 => have h14 := h9 y12 e13; s_istore (pc := 74) (L1 := [some (.ref x0), some (.int x1), some (.int x2), some (.int x3), some (.int x4), some (.long x5), none, some (.int y12), some (.int x8), none, none]) dX13_bestLast_74 (Nat.le_of_ble_eq_true rfl) rfl (s_goto (pc := 76) (tgt := 9) dX13_bestLast_76 rfl (s_sel (L1 := [some (.ref x0), some (.int x1), some (.int x2), some (.int x3), some (.int x4), some (.long x5), none, some (.int y12), none, none, none]) [true, true, true, true, true, true, false, true, false, false, false] rfl (hK9 x0 x1 x2 x3 x4 x5 y12 M h14)))))))) (fun c10 => have h11 := h.2 c10; s_aload_n (pc := 29) dX13_bestLast_29 rfl (s_iload (pc := 30) dX13_bestLast_30 rfl (s_iload (pc := 32) dX13_bestLast_32 rfl (s_iload_n (pc := 34) dX13_bestLast_34 rfl (s_iload_n (pc := 35) dX13_bestLast_35 rfl (s_callV (pc := 36) (As := [.int x7, .int x8, .int x2, .int x3]) (rest := []) (d' := 2) (mc' := 0) (ms' := 0) dX13_bestLast_36 c_X13_319 (Nat.le_of_ble_eq_true rfl) rfl h11.1 rfl rfl (Nat.le_of_ble_eq_true rfl) (rm_ok rfl rfl) ⟨Nat.le_refl 0, Nat.le_refl 0⟩ (T_X13_lastHour h11.2) (kkJ (fun r17 M16 h15 => s_lstore (pc := 39) (L1 := [some (.ref x0), some (.int x1), some (.int x2), some (.int x3), some (.int x4), some (.long x5), none, some (.int x7), some (.int x8), some (.long r17), none]) dX13_bestLast_39 (Nat.le_of_ble_eq_true rfl) rfl (s_iload (pc := 41) dX13_bestLast_41 rfl (s_if_eq (pc := 43) (tgt := 54) dX13_bestLast_43 rfl (fun c18 => have h19 := h15.1 c18; s_sel (L1 := [some (.ref x0), some (.int x1), some (.int x2), some (.int x3), none, none, none, some (.int x7), some (.int x8), some (.long r17), none]) [true, true, true, true, false, false, false, true, true, true, false] rfl (P_jn_X13_bestLast_54 hK9 ih x0 x1 x2 x3 x7 x8 r17 M16 h19)) (fun c20 => have h21 := h15.2 c20; s_lload (pc := 46) dX13_bestLast_46 rfl (s_lload (pc := 48) dX13_bestLast_48 rfl (s_lif_le (pc := 50) (tgt := 61) dX13_bestLast_50 dX13_bestLast_51 rfl (fun c25 => have h26 := h21.1 c25; s_sel (L1 := [some (.ref x0), some (.int x1), some (.int x2), some (.int x3), some (.int x4), some (.long x5), none, some (.int x7), some (.int x8), none, none]) [true, true, true, true, true, true, false, true, true, false, false] rfl (P_jn_X13_bestLast_61 hK9 ih x0 x1 x2 x3 x4 x5 x7 x8 M16 h26)) (fun c27 => have h28 := h21.2 c27; s_sel (L1 := [some (.ref x0), some (.int x1), some (.int x2), some (.int x3), none, none, none, some (.int x7), some (.int x8), some (.long r17), none]) [true, true, true, true, false, false, false, true, true, true, false] rfl (P_jn_X13_bestLast_54 hK9 ih x0 x1 x2 x3 x7 x8 r17 M16 h28))))))))))))))))))
def lp_X13_bestLast_9 (Q : Int64 → Mem → Prop) : Nat → Nat → Int32 → Int32 → Int32 → Int32 → Int64 → Int32 → Mem → Prop
  | 0 => fun _ _ _ _ _ _ _ _ => False
  | n + 1 => fun x0 x1 x2 x3 x4 x5 x7 M => ((100 : Int32) < x7 → Q x5 M) ∧ (¬ (100 : Int32) < x7 → ∀ y5 : Int32, y5 = x7 + x1 → ∃ n29 : Nat, lp_X13_bestLast_22 (fun fx0 fx1 fx2 fx3 fx4 fx5 fx7 fM => lp_X13_bestLast_9 Q n fx0 fx1 fx2 fx3 fx4 fx5 fx7 fM) Q n29 x0 x1 x2 x3 x4 x5 x7 y5 M)
theorem P_lp_X13_bestLast_9 {G : GG} {Q : Int64 → Mem → Prop} : ∀ (n : Nat) (x0 : Nat) (x1 : Int32) (x2 : Int32) (x3 : Int32) (x4 : Int32) (x5 : Int64) (x7 : Int32) (M : Mem), lp_X13_bestLast_9 Q n x0 x1 x2 x3 x4 x5 x7 M → PW G mX13_bestLast (rmD 3 0 0) (QJ Q) 9 [some (.ref x0), some (.int x1), some (.int x2), some (.int x3), some (.int x4), some (.long x5), none, some (.int x7), none, none, none] [] M 0 0 := by
  intro n
  induction n with
  | zero => intro x0 x1 x2 x3 x4 x5 x7 M h; exact h.elim
  | succ n ih =>
    intro x0 x1 x2 x3 x4 x5 x7 M h
    exact (s_iload (pc := 9) dX13_bestLast_9 rfl (s_bipush (pc := 11) dX13_bestLast_11 cb_100 (s_icmp_gt (pc := 13) (tgt := 79) dX13_bestLast_13 rfl (fun c1 => have h2 := h.1 c1; s_lload (pc := 79) dX13_bestLast_79 rfl (s_lreturn (pc := 81) dX13_bestLast_81 rfl (Nat.zero_le _) (Nat.zero_le _) ⟨_, rfl, h2⟩)) (fun c3 => have h4 := h.2 c3; s_iload (pc := 16) dX13_bestLast_16 rfl (s_iload_n (pc := 18) dX13_bestLast_18 rfl (s_iadd (pc := 19) dX13_bestLast_19 (nmI (fun y5 e6 => have h7 := h4 y5 e6; s_istore (pc := 20) (L1 := [some (.ref x0), some (.int x1), some (.int x2), some (.int x3), some (.int x4), some (.long x5), none, some (.int x7), some (.int y5), none, none]) dX13_bestLast_20 (Nat.le_of_ble_eq_true rfl) rfl (Exists.elim h7 (fun n29 hn => s_sel (L1 := [some (.ref x0), some (.int x1), some (.int x2), some (.int x3), some (.int x4), some (.long x5), none, some (.int x7), some (.int y5), none, none]) [true, true, true, true, true, true, false, true, true, false, false] rfl (P_lp_X13_bestLast_22 ih n29 x0 x1 x2 x3 x4 x5 x7 y5 M hn)))))))))))
def wp_X13_bestLast (p0 : Nat) (p1 : Int32) (p2 : Int32) (p3 : Int32) (M : Mem) (Q : Int64 → Mem → Prop) : Prop := ∃ n30 : Nat, lp_X13_bestLast_9 Q n30 p0 p1 p2 p3 0 0 0 M
theorem T_X13_bestLast {G : GG} {Q : Int64 → Mem → Prop} {M : Mem} {p0 : Nat} {p1 : Int32} {p2 : Int32} {p3 : Int32} (h : wp_X13_bestLast p0 p1 p2 p3 M Q) : PMet G mX13_bestLast 3 0 0 [.ref p0, .int p1, .int p2, .int p3] M (QJ Q) :=
  mk_met (by decide) rfl rfl (by
    intro w hw x9 e9
    subst e9
    simp at hw) (Nat.le_of_ble_eq_true rfl) (s_pad (L1 := [some (.ref p0), some (.int p1), some (.int p2), some (.int p3), none, none, none, none, none, none, none]) 11 rfl (s_iconst (pc := 0) dX13_bestLast_0 ci_0 (s_istore (pc := 1) (L1 := [some (.ref p0), some (.int p1), some (.int p2), some (.int p3), some (.int 0), none, none, none, none, none, none]) dX13_bestLast_1 (Nat.le_of_ble_eq_true rfl) rfl (s_lconst (pc := 3) (v := 0) dX13_bestLast_3 rfl (s_lstore (pc := 4) (L1 := [some (.ref p0), some (.int p1), some (.int p2), some (.int p3), some (.int 0), some (.long 0), none, none, none, none, none]) dX13_bestLast_4 (Nat.le_of_ble_eq_true rfl) rfl (s_iconst (pc := 6) dX13_bestLast_6 ci_0 (s_istore (pc := 7) (L1 := [some (.ref p0), some (.int p1), some (.int p2), some (.int p3), some (.int 0), some (.long 0), none, some (.int 0), none, none, none]) dX13_bestLast_7 (Nat.le_of_ble_eq_true rfl) rfl (Exists.elim h (fun n30 hn => s_sel (L1 := [some (.ref p0), some (.int p1), some (.int p2), some (.int p3), some (.int 0), some (.long 0), none, some (.int 0), none, none, none]) [true, true, true, true, true, true, false, true, false, false, false] rfl (P_lp_X13_bestLast_9 n30 p0 p1 p2 p3 0 0 0 M hn))))))))))
/-! X13_twoHours -/
theorem dX13_twoHours_0 : cod mX13_twoHours 0 (.lconst 0) 1 := by decide +kernel
theorem dX13_twoHours_1 : cod mX13_twoHours 1 (.lstore 4) 2 := by decide +kernel
theorem dX13_twoHours_3 : cod mX13_twoHours 3 (.iconst 0) 1 := by decide +kernel
theorem dX13_twoHours_4 : cod mX13_twoHours 4 (.istore 6) 2 := by decide +kernel
theorem dX13_twoHours_6 : cod mX13_twoHours 6 (.iload 6) 2 := by decide +kernel
theorem dX13_twoHours_8 : cod mX13_twoHours 8 (.iconst 3) 1 := by decide +kernel
theorem dX13_twoHours_9 : cod mX13_twoHours 9 (.if_icmp .ge 143) 3 := by decide +kernel
theorem dX13_twoHours_12 : cod mX13_twoHours 12 (.iconst 0) 1 := by decide +kernel
theorem dX13_twoHours_13 : cod mX13_twoHours 13 (.istore 7) 2 := by decide +kernel
theorem dX13_twoHours_15 : cod mX13_twoHours 15 (.iconst 0) 1 := by decide +kernel
theorem dX13_twoHours_16 : cod mX13_twoHours 16 (.istore 8) 2 := by decide +kernel
theorem dX13_twoHours_18 : cod mX13_twoHours 18 (.iload 8) 2 := by decide +kernel
theorem dX13_twoHours_20 : cod mX13_twoHours 20 (.aload_n 0) 1 := by decide +kernel
theorem dX13_twoHours_21 : cod mX13_twoHours 21 (.getfield 119) 3 := by decide +kernel
theorem dX13_twoHours_24 : cod mX13_twoHours 24 (.if_icmp .ge 61) 3 := by decide +kernel
theorem dX13_twoHours_27 : cod mX13_twoHours 27 (.aload_n 0) 1 := by decide +kernel
theorem dX13_twoHours_28 : cod mX13_twoHours 28 (.getfield 79) 3 := by decide +kernel
theorem dX13_twoHours_31 : cod mX13_twoHours 31 (.iload 8) 2 := by decide +kernel
theorem dX13_twoHours_33 : cod mX13_twoHours 33 (.aload_n 0) 1 := by decide +kernel
theorem dX13_twoHours_34 : cod mX13_twoHours 34 (.getfield 7) 3 := by decide +kernel
theorem dX13_twoHours_37 : cod mX13_twoHours 37 (.iload 8) 2 := by decide +kernel
theorem dX13_twoHours_39 : cod mX13_twoHours 39 (.iaload) 1 := by decide +kernel
theorem dX13_twoHours_40 : cod mX13_twoHours 40 (.i2l) 1 := by decide +kernel
theorem dX13_twoHours_41 : cod mX13_twoHours 41 (.aload_n 0) 1 := by decide +kernel
theorem dX13_twoHours_42 : cod mX13_twoHours 42 (.iload 6) 2 := by decide +kernel
theorem dX13_twoHours_44 : cod mX13_twoHours 44 (.iload 8) 2 := by decide +kernel
theorem dX13_twoHours_46 : cod mX13_twoHours 46 (.iload_n 2) 1 := by decide +kernel
theorem dX13_twoHours_47 : cod mX13_twoHours 47 (.iload_n 3) 1 := by decide +kernel
theorem dX13_twoHours_48 : cod mX13_twoHours 48 (.iconst 0) 1 := by decide +kernel
theorem dX13_twoHours_49 : cod mX13_twoHours 49 (.invokevirtual 214) 3 := by decide +kernel
theorem dX13_twoHours_52 : cod mX13_twoHours 52 (.i2l) 1 := by decide +kernel
theorem dX13_twoHours_53 : cod mX13_twoHours 53 (.lmul) 1 := by decide +kernel
theorem dX13_twoHours_54 : cod mX13_twoHours 54 (.lastore) 1 := by decide +kernel
theorem dX13_twoHours_55 : cod mX13_twoHours 55 (.iload 7) 2 := by decide +kernel
theorem dX13_twoHours_57 : cod mX13_twoHours 57 (.ifCond .ne 15) 3 := by decide +kernel
theorem dX13_twoHours_60 : cod mX13_twoHours 60 (.aload_n 0) 1 := by decide +kernel
theorem dX13_twoHours_61 : cod mX13_twoHours 61 (.getfield 79) 3 := by decide +kernel
theorem dX13_twoHours_64 : cod mX13_twoHours 64 (.iload 8) 2 := by decide +kernel
theorem dX13_twoHours_66 : cod mX13_twoHours 66 (.laload) 1 := by decide +kernel
theorem dX13_twoHours_67 : cod mX13_twoHours 67 (.lconst 0) 1 := by decide +kernel
theorem dX13_twoHours_68 : cod mX13_twoHours 68 (.lcmp) 1 := by decide +kernel
theorem dX13_twoHours_69 : cod mX13_twoHours 69 (.ifCond .le 7) 3 := by decide +kernel
theorem dX13_twoHours_72 : cod mX13_twoHours 72 (.iconst 1) 1 := by decide +kernel
theorem dX13_twoHours_73 : cod mX13_twoHours 73 (.goto 4) 3 := by decide +kernel
theorem dX13_twoHours_76 : cod mX13_twoHours 76 (.iconst 0) 1 := by decide +kernel
theorem dX13_twoHours_77 : cod mX13_twoHours 77 (.istore 7) 2 := by decide +kernel
theorem dX13_twoHours_79 : cod mX13_twoHours 79 (.iinc 8 1) 3 := by decide +kernel
theorem dX13_twoHours_82 : cod mX13_twoHours 82 (.goto (-64)) 3 := by decide +kernel
theorem dX13_twoHours_85 : cod mX13_twoHours 85 (.iload 7) 2 := by decide +kernel
theorem dX13_twoHours_87 : cod mX13_twoHours 87 (.ifCond .eq 59) 3 := by decide +kernel
theorem dX13_twoHours_90 : cod mX13_twoHours 90 (.iload 6) 2 := by decide +kernel
theorem dX13_twoHours_92 : cod mX13_twoHours 92 (.iconst 0) 1 := by decide +kernel
theorem dX13_twoHours_93 : cod mX13_twoHours 93 (.invokestatic 241) 3 := by decide +kernel
theorem dX13_twoHours_96 : cod mX13_twoHours 96 (.istore 8) 2 := by decide +kernel
theorem dX13_twoHours_98 : cod mX13_twoHours 98 (.lload 4) 2 := by decide +kernel
theorem dX13_twoHours_100 : cod mX13_twoHours 100 (.aload_n 0) 1 := by decide +kernel
theorem dX13_twoHours_101 : cod mX13_twoHours 101 (.iload_n 1) 1 := by decide +kernel
theorem dX13_twoHours_102 : cod mX13_twoHours 102 (.iload 8) 2 := by decide +kernel
theorem dX13_twoHours_104 : cod mX13_twoHours 104 (.iload 6) 2 := by decide +kernel
theorem dX13_twoHours_106 : cod mX13_twoHours 106 (.iconst 1) 1 := by decide +kernel
theorem dX13_twoHours_107 : cod mX13_twoHours 107 (.if_icmp .ne 7) 3 := by decide +kernel
theorem dX13_twoHours_110 : cod mX13_twoHours 110 (.iload_n 3) 1 := by decide +kernel
theorem dX13_twoHours_111 : cod mX13_twoHours 111 (.goto 15) 3 := by decide +kernel
theorem dX13_twoHours_114 : cod mX13_twoHours 114 (.iload 6) 2 := by decide +kernel
theorem dX13_twoHours_116 : cod mX13_twoHours 116 (.iconst 2) 1 := by decide +kernel
theorem dX13_twoHours_117 : cod mX13_twoHours 117 (.if_icmp .ne 8) 3 := by decide +kernel
theorem dX13_twoHours_120 : cod mX13_twoHours 120 (.iload_n 2) 1 := by decide +kernel
theorem dX13_twoHours_121 : cod mX13_twoHours 121 (.ineg) 1 := by decide +kernel
theorem dX13_twoHours_122 : cod mX13_twoHours 122 (.goto 4) 3 := by decide +kernel
theorem dX13_twoHours_125 : cod mX13_twoHours 125 (.iconst 0) 1 := by decide +kernel
theorem dX13_twoHours_126 : cod mX13_twoHours 126 (.iload 6) 2 := by decide +kernel
theorem dX13_twoHours_128 : cod mX13_twoHours 128 (.ifCond .le 10) 3 := by decide +kernel
theorem dX13_twoHours_131 : cod mX13_twoHours 131 (.aload_n 0) 1 := by decide +kernel
theorem dX13_twoHours_132 : cod mX13_twoHours 132 (.getfield 171) 3 := by decide +kernel
theorem dX13_twoHours_135 : cod mX13_twoHours 135 (.goto 4) 3 := by decide +kernel
theorem dX13_twoHours_138 : cod mX13_twoHours 138 (.iconst 0) 1 := by decide +kernel
theorem dX13_twoHours_139 : cod mX13_twoHours 139 (.isub) 1 := by decide +kernel
theorem dX13_twoHours_140 : cod mX13_twoHours 140 (.invokevirtual 323) 3 := by decide +kernel
theorem dX13_twoHours_143 : cod mX13_twoHours 143 (.ladd) 1 := by decide +kernel
theorem dX13_twoHours_144 : cod mX13_twoHours 144 (.lstore 4) 2 := by decide +kernel
theorem dX13_twoHours_146 : cod mX13_twoHours 146 (.iinc 6 1) 3 := by decide +kernel
theorem dX13_twoHours_149 : cod mX13_twoHours 149 (.goto (-143)) 3 := by decide +kernel
theorem dX13_twoHours_152 : cod mX13_twoHours 152 (.lload 4) 2 := by decide +kernel
theorem dX13_twoHours_154 : cod mX13_twoHours 154 (.lreturn) 1 := by decide +kernel
def jn_X13_twoHours_146 (K6 : Nat → Int32 → Int32 → Int32 → Int64 → Int32 → Mem → Prop) (Q : Int64 → Mem → Prop) (x0 : Nat) (x1 : Int32) (x2 : Int32) (x3 : Int32) (x4 : Int64) (x6 : Int32) (M : Mem) : Prop := K6 x0 x1 x2 x3 x4 (x6 + 1) M
theorem P_jn_X13_twoHours_146 {G : GG} {K6 : Nat → Int32 → Int32 → Int32 → Int64 → Int32 → Mem → Prop} {Q : Int64 → Mem → Prop} (hK6 : ∀ (x0 : Nat) (x1 : Int32) (x2 : Int32) (x3 : Int32) (x4 : Int64) (x6 : Int32) (M : Mem), K6 x0 x1 x2 x3 x4 x6 M → PW G mX13_twoHours (rmD 4 0 0) (QJ Q) 6 [some (.ref x0), some (.int x1), some (.int x2), some (.int x3), some (.long x4), none, some (.int x6), none, none] [] M 0 0) (x0 : Nat) (x1 : Int32) (x2 : Int32) (x3 : Int32) (x4 : Int64) (x6 : Int32) (M : Mem) (h : jn_X13_twoHours_146 K6 Q x0 x1 x2 x3 x4 x6 M) : PW G mX13_twoHours (rmD 4 0 0) (QJ Q) 146 [some (.ref x0), some (.int x1), some (.int x2), some (.int x3), some (.long x4), none, some (.int x6), none, none] [] M 0 0 := (s_iinc (pc := 146) (L1 := [some (.ref x0), some (.int x1), some (.int x2), some (.int x3), some (.long x4), none, some (.int (x6 + 1)), none, none]) dX13_twoHours_146 rfl ci_1 (Nat.le_of_ble_eq_true rfl) rfl (s_goto (pc := 149) (tgt := 6) dX13_twoHours_149 rfl (s_sel (L1 := [some (.ref x0), some (.int x1), some (.int x2), some (.int x3), some (.long x4), none, some (.int (x6 + 1)), none, none]) [true, true, true, true, true, false, true, false, false] rfl (hK6 x0 x1 x2 x3 x4 (x6 + 1) M h))))
def jn_X13_twoHours_139 (K6 : Nat → Int32 → Int32 → Int32 → Int64 → Int32 → Mem → Prop) (Q : Int64 → Mem → Prop) (x0 : Nat) (x1 : Int32) (x2 : Int32) (x3 : Int32) (x6 : Int32) (s0 : Int32) (s1 : Int32) (s2 : Int32) (s3 : Int32) (s4 : Nat) (s5 : Int64) (M : Mem) : Prop := mK M s4 = 14 ∧ wp_X13_bestLast s4 s3 s2 (s1 - s0) M (fun r30 M29 => ∀ y31 : Int64, y31 = s5 + r30 → jn_X13_twoHours_146 K6 Q x0 x1 x2 x3 y31 x6 M29)
theorem P_jn_X13_twoHours_139 {G : GG} {K6 : Nat → Int32 → Int32 → Int32 → Int64 → Int32 → Mem → Prop} {Q : Int64 → Mem → Prop} (hK6 : ∀ (x0 : Nat) (x1 : Int32) (x2 : Int32) (x3 : Int32) (x4 : Int64) (x6 : Int32) (M : Mem), K6 x0 x1 x2 x3 x4 x6 M → PW G mX13_twoHours (rmD 4 0 0) (QJ Q) 6 [some (.ref x0), some (.int x1), some (.int x2), some (.int x3), some (.long x4), none, some (.int x6), none, none] [] M 0 0) (x0 : Nat) (x1 : Int32) (x2 : Int32) (x3 : Int32) (x6 : Int32) (s0 : Int32) (s1 : Int32) (s2 : Int32) (s3 : Int32) (s4 : Nat) (s5 : Int64) (M : Mem) (h : jn_X13_twoHours_139 K6 Q x0 x1 x2 x3 x6 s0 s1 s2 s3 s4 s5 M) : PW G mX13_twoHours (rmD 4 0 0) (QJ Q) 139 [some (.ref x0), some (.int x1), some (.int x2), some (.int x3), none, none, some (.int x6), none, none] [.int s0, .int s1, .int s2, .int s3, .ref s4, .long s5] M 0 0 := (s_isub (pc := 139) dX13_twoHours_139 (s_callV (pc := 140) (As := [.int s3, .int s2, .int (s1 - s0)]) (rest := [.long s5]) (d' := 3) (mc' := 0) (ms' := 0) dX13_twoHours_140 c_X13_323 (Nat.le_of_ble_eq_true rfl) rfl h.1 rfl rfl (Nat.le_of_ble_eq_true rfl) (rm_ok rfl rfl) ⟨Nat.le_refl 0, Nat.le_refl 0⟩ (T_X13_bestLast h.2) (kkJ (fun r30 M29 h28 => s_ladd (pc := 143) dX13_twoHours_143 (nmJ (fun y31 e32 => have h33 := h28 y31 e32; s_lstore (pc := 144) (L1 := [some (.ref x0), some (.int x1), some (.int x2), some (.int x3), some (.long y31), none, some (.int x6), none, none]) dX13_twoHours_144 (Nat.le_of_ble_eq_true rfl) rfl (s_sel (L1 := [some (.ref x0), some (.int x1), some (.int x2), some (.int x3), some (.long y31), none, some (.int x6), none, none]) [true, true, true, true, true, false, true, false, false] rfl (P_jn_X13_twoHours_146 hK6 x0 x1 x2 x3 y31 x6 M29 h33))))))))
def jn_X13_twoHours_126 (K6 : Nat → Int32 → Int32 → Int32 → Int64 → Int32 → Mem → Prop) (Q : Int64 → Mem → Prop) (x0 : Nat) (x1 : Int32) (x2 : Int32) (x3 : Int32) (x6 : Int32) (s0 : Int32) (s1 : Int32) (s2 : Int32) (s3 : Nat) (s4 : Int64) (M : Mem) : Prop := (x6 ≤ (0 : Int32) → jn_X13_twoHours_139 K6 Q x0 x1 x2 x3 x6 0 s0 s1 s2 s3 s4 M) ∧ (¬ x6 ≤ (0 : Int32) → mK M x0 = 14 ∧ jn_X13_twoHours_139 K6 Q x0 x1 x2 x3 x6 (mI M x0 8) s0 s1 s2 s3 s4 M)
theorem P_jn_X13_twoHours_126 {G : GG} {K6 : Nat → Int32 → Int32 → Int32 → Int64 → Int32 → Mem → Prop} {Q : Int64 → Mem → Prop} (hK6 : ∀ (x0 : Nat) (x1 : Int32) (x2 : Int32) (x3 : Int32) (x4 : Int64) (x6 : Int32) (M : Mem), K6 x0 x1 x2 x3 x4 x6 M → PW G mX13_twoHours (rmD 4 0 0) (QJ Q) 6 [some (.ref x0), some (.int x1), some (.int x2), some (.int x3), some (.long x4), none, some (.int x6), none, none] [] M 0 0) (x0 : Nat) (x1 : Int32) (x2 : Int32) (x3 : Int32) (x6 : Int32) (s0 : Int32) (s1 : Int32) (s2 : Int32) (s3 : Nat) (s4 : Int64) (M : Mem) (h : jn_X13_twoHours_126 K6 Q x0 x1 x2 x3 x6 s0 s1 s2 s3 s4 M) : PW G mX13_twoHours (rmD 4 0 0) (QJ Q) 126 [some (.ref x0), some (.int x1), some (.int x2), some (.int x3), none, none, some (.int x6), none, none] [.int s0, .int s1, .int s2, .ref s3, .long s4] M 0 0 := (s_iload (pc := 126) dX13_twoHours_126 rfl (s_if_le (pc := 128) (tgt := 138) dX13_twoHours_128 rfl (fun c24 => have h25 := h.1 c24; s_iconst (pc := 138) dX13_twoHours_138 ci_0 (s_sel (L1 := [some (.ref x0), some (.int x1), some (.int x2), some (.int x3), none, none, some (.int x6), none, none]) [true, true, true, true, false, false, true, false, false] rfl (P_jn_X13_twoHours_139 hK6 x0 x1 x2 x3 x6 0 s0 s1 s2 s3 s4 M h25))) (fun c26 => have h27 := h.2 c26; s_aload_n (pc := 131) dX13_twoHours_131 rfl (s_getI (pc := 132) dX13_twoHours_132 f_X13_171 rfl h27.1 (s_goto (pc := 135) (tgt := 139) dX13_twoHours_135 rfl (s_sel (L1 := [some (.ref x0), some (.int x1), some (.int x2), some (.int x3), none, none, some (.int x6), none, none]) [true, true, true, true, false, false, true, false, false] rfl (P_jn_X13_twoHours_139 hK6 x0 x1 x2 x3 x6 (mI M x0 8) s0 s1 s2 s3 s4 M h27.2)))))))
def jn_X13_twoHours_77 (K6 : Nat → Int32 → Int32 → Int32 → Int64 → Int32 → Mem → Prop) (K18 : Nat → Int32 → Int32 → Int32 → Int64 → Int32 → Int32 → Int32 → Mem → Prop) (Q : Int64 → Mem → Prop) (x0 : Nat) (x1 : Int32) (x2 : Int32) (x3 : Int32) (x4 : Int64) (x6 : Int32) (x8 : Int32) (s0 : Int32) (M : Mem) : Prop := K18 x0 x1 x2 x3 x4 x6 s0 (x8 + 1) M
theorem P_jn_X13_twoHours_77 {G : GG} {K6 : Nat → Int32 → Int32 → Int32 → Int64 → Int32 → Mem → Prop} {K18 : Nat → Int32 → Int32 → Int32 → Int64 → Int32 → Int32 → Int32 → Mem → Prop} {Q : Int64 → Mem → Prop} (hK6 : ∀ (x0 : Nat) (x1 : Int32) (x2 : Int32) (x3 : Int32) (x4 : Int64) (x6 : Int32) (M : Mem), K6 x0 x1 x2 x3 x4 x6 M → PW G mX13_twoHours (rmD 4 0 0) (QJ Q) 6 [some (.ref x0), some (.int x1), some (.int x2), some (.int x3), some (.long x4), none, some (.int x6), none, none] [] M 0 0) (hK18 : ∀ (x0 : Nat) (x1 : Int32) (x2 : Int32) (x3 : Int32) (x4 : Int64) (x6 : Int32) (x7 : Int32) (x8 : Int32) (M : Mem), K18 x0 x1 x2 x3 x4 x6 x7 x8 M → PW G mX13_twoHours (rmD 4 0 0) (QJ Q) 18 [some (.ref x0), some (.int x1), some (.int x2), some (.int x3), some (.long x4), none, some (.int x6), some (.int x7), some (.int x8)] [] M 0 0) (x0 : Nat) (x1 : Int32) (x2 : Int32) (x3 : Int32) (x4 : Int64) (x6 : Int32) (x8 : Int32) (s0 : Int32) (M : Mem) (h : jn_X13_twoHours_77 K6 K18 Q x0 x1 x2 x3 x4 x6 x8 s0 M) : PW G mX13_twoHours (rmD 4 0 0) (QJ Q) 77 [some (.ref x0), some (.int x1), some (.int x2), some (.int x3), some (.long x4), none, some (.int x6), none, some (.int x8)] [.int s0] M 0 0 := (s_istore (pc := 77) (L1 := [some (.ref x0), some (.int x1), some (.int x2), some (.int x3), some (.long x4), none, some (.int x6), some (.int s0), some (.int x8)]) dX13_twoHours_77 (Nat.le_of_ble_eq_true rfl) rfl (s_iinc (pc := 79) (L1 := [some (.ref x0), some (.int x1), some (.int x2), some (.int x3), some (.long x4), none, some (.int x6), some (.int s0), some (.int (x8 + 1))]) dX13_twoHours_79 rfl ci_1 (Nat.le_of_ble_eq_true rfl) rfl (s_goto (pc := 82) (tgt := 18) dX13_twoHours_82 rfl (s_sel (L1 := [some (.ref x0), some (.int x1), some (.int x2), some (.int x3), some (.long x4), none, some (.int x6), some (.int s0), some (.int (x8 + 1))]) [true, true, true, true, true, false, true, true, true] rfl (hK18 x0 x1 x2 x3 x4 x6 s0 (x8 + 1) M h)))))
def jn_X13_twoHours_72 (K6 : Nat → Int32 → Int32 → Int32 → Int64 → Int32 → Mem → Prop) (K18 : Nat → Int32 → Int32 → Int32 → Int64 → Int32 → Int32 → Int32 → Mem → Prop) (Q : Int64 → Mem → Prop) (x0 : Nat) (x1 : Int32) (x2 : Int32) (x3 : Int32) (x4 : Int64) (x6 : Int32) (x8 : Int32) (M : Mem) : Prop := jn_X13_twoHours_77 K6 K18 Q x0 x1 x2 x3 x4 x6 x8 1 M
theorem P_jn_X13_twoHours_72 {G : GG} {K6 : Nat → Int32 → Int32 → Int32 → Int64 → Int32 → Mem → Prop} {K18 : Nat → Int32 → Int32 → Int32 → Int64 → Int32 → Int32 → Int32 → Mem → Prop} {Q : Int64 → Mem → Prop} (hK6 : ∀ (x0 : Nat) (x1 : Int32) (x2 : Int32) (x3 : Int32) (x4 : Int64) (x6 : Int32) (M : Mem), K6 x0 x1 x2 x3 x4 x6 M → PW G mX13_twoHours (rmD 4 0 0) (QJ Q) 6 [some (.ref x0), some (.int x1), some (.int x2), some (.int x3), some (.long x4), none, some (.int x6), none, none] [] M 0 0) (hK18 : ∀ (x0 : Nat) (x1 : Int32) (x2 : Int32) (x3 : Int32) (x4 : Int64) (x6 : Int32) (x7 : Int32) (x8 : Int32) (M : Mem), K18 x0 x1 x2 x3 x4 x6 x7 x8 M → PW G mX13_twoHours (rmD 4 0 0) (QJ Q) 18 [some (.ref x0), some (.int x1), some (.int x2), some (.int x3), some (.long x4), none, some (.int x6), some (.int x7), some (.int x8)] [] M 0 0) (x0 : Nat) (x1 : Int32) (x2 : Int32) (x3 : Int32) (x4 : Int64) (x6 : Int32) (x8 : Int32) (M : Mem) (h : jn_X13_twoHours_72 K6 K18 Q x0 x1 x2 x3 x4 x6 x8 M) : PW G mX13_twoHours (rmD 4 0 0) (QJ Q) 72 [some (.ref x0), some (.int x1), some (.int x2), some (.int x3), some (.long x4), none, some (.int x6), none, some (.int x8)] [] M 0 0 := (s_iconst (pc := 72) dX13_twoHours_72 ci_1 (s_goto (pc := 73) (tgt := 77) dX13_twoHours_73 rfl (s_sel (L1 := [some (.ref x0), some (.int x1), some (.int x2), some (.int x3), some (.long x4), none, some (.int x6), none, some (.int x8)]) [true, true, true, true, true, false, true, false, true] rfl (P_jn_X13_twoHours_77 hK6 hK18 x0 x1 x2 x3 x4 x6 x8 1 M h))))
def lp_X13_twoHours_18 (K6 : Nat → Int32 → Int32 → Int32 → Int64 → Int32 → Mem → Prop) (Q : Int64 → Mem → Prop) : Nat → Nat → Int32 → Int32 → Int32 → Int64 → Int32 → Int32 → Int32 → Mem → Prop
  | 0 => fun _ _ _ _ _ _ _ _ _ => False
  | n + 1 => fun x0 x1 x2 x3 x4 x6 x7 x8 M => mK M x0 = 14 ∧ ((mI M x0 0) ≤ x8 → (x7 = (0 : Int32) → jn_X13_twoHours_146 K6 Q x0 x1 x2 x3 x4 x6 M) ∧ (¬ x7 = (0 : Int32) → wp_X13_heldBy x6 0 M (fun r15 M14 => (¬ x6 = (1 : Int32) → (¬ x6 = (2 : Int32) → jn_X13_twoHours_126 K6 Q x0 x1 x2 x3 x6 0 r15 x1 x0 x4 M14) ∧ (x6 = (2 : Int32) → jn_X13_twoHours_126 K6 Q x0 x1 x2 x3 x6 (-x2) r15 x1 x0 x4 M14)) ∧ (x6 = (1 : Int32) → jn_X13_twoHours_126 K6 Q x0 x1 x2 x3 x6 x3 r15 x1 x0 x4 M14)))) ∧ (¬ (mI M x0 0) ≤ x8 → mK M (mR M x0 1) = 20 ∧ vp_in x8 (mN M (mR M x0 1)) ∧ wp_X13_hundredths x0 x6 x8 x2 x3 0 M (fun r36 M35 => mK M35 (mR M x0 37) = 21 ∧ vp_in x8 (mN M35 (mR M x0 37)) ∧ ∀ M37 : Mem, M37 = uJ M35 (mR M x0 37) x8.toNatClampNeg (((mI M (mR M x0 1) x8.toNatClampNeg).toInt64) * r36.toInt64) → (¬ x7 = (0 : Int32) → jn_X13_twoHours_72 K6 (fun fx0 fx1 fx2 fx3 fx4 fx6 fx7 fx8 fM => lp_X13_twoHours_18 K6 Q n fx0 fx1 fx2 fx3 fx4 fx6 fx7 fx8 fM) Q x0 x1 x2 x3 x4 x6 x8 M37) ∧ (x7 = (0 : Int32) → mK M37 x0 = 14 ∧ mK M37 (mR M37 x0 37) = 21 ∧ vp_in x8 (mN M37 (mR M37 x0 37)) ∧ ((mJ M37 (mR M37 x0 37) x8.toNatClampNeg) ≤ (0 : Int64) → jn_X13_twoHours_77 K6 (fun fx0 fx1 fx2 fx3 fx4 fx6 fx7 fx8 fM => lp_X13_twoHours_18 K6 Q n fx0 fx1 fx2 fx3 fx4 fx6 fx7 fx8 fM) Q x0 x1 x2 x3 x4 x6 x8 0 M37) ∧ (¬ (mJ M37 (mR M37 x0 37) x8.toNatClampNeg) ≤ (0 : Int64) → jn_X13_twoHours_72 K6 (fun fx0 fx1 fx2 fx3 fx4 fx6 fx7 fx8 fM => lp_X13_twoHours_18 K6 Q n fx0 fx1 fx2 fx3 fx4 fx6 fx7 fx8 fM) Q x0 x1 x2 x3 x4 x6 x8 M37))))
theorem P_lp_X13_twoHours_18 {G : GG} {K6 : Nat → Int32 → Int32 → Int32 → Int64 → Int32 → Mem → Prop} {Q : Int64 → Mem → Prop} (hK6 : ∀ (x0 : Nat) (x1 : Int32) (x2 : Int32) (x3 : Int32) (x4 : Int64) (x6 : Int32) (M : Mem), K6 x0 x1 x2 x3 x4 x6 M → PW G mX13_twoHours (rmD 4 0 0) (QJ Q) 6 [some (.ref x0), some (.int x1), some (.int x2), some (.int x3), some (.long x4), none, some (.int x6), none, none] [] M 0 0) : ∀ (n : Nat) (x0 : Nat) (x1 : Int32) (x2 : Int32) (x3 : Int32) (x4 : Int64) (x6 : Int32) (x7 : Int32) (x8 : Int32) (M : Mem), lp_X13_twoHours_18 K6 Q n x0 x1 x2 x3 x4 x6 x7 x8 M → PW G mX13_twoHours (rmD 4 0 0) (QJ Q) 18 [some (.ref x0), some (.int x1), some (.int x2), some (.int x3), some (.long x4), none, some (.int x6), some (.int x7), some (.int x8)] [] M 0 0 := by
  intro n
  induction n with
  | zero => intro x0 x1 x2 x3 x4 x6 x7 x8 M h; exact h.elim
  | succ n ih =>
    intro x0 x1 x2 x3 x4 x6 x7 x8 M h
    exact (s_iload (pc := 18) dX13_twoHours_18 rfl (s_aload_n (pc := 20) dX13_twoHours_20 rfl (s_getI (pc := 21) dX13_twoHours_21 f_X13_119 rfl h.1 (s_icmp_ge (pc := 24) (tgt := 85) dX13_twoHours_24 rfl (fun c5 => have h6 := h.2.1 c5; s_iload (pc := 85) dX13_twoHours_85 rfl (s_if_eq (pc := 87) (tgt := 146) dX13_twoHours_87 rfl (fun c9 => have h10 := h6.1 c9; s_sel (L1 := [some (.ref x0), some (.int x1), some (.int x2), some (.int x3), some (.long x4), none, some (.int x6), none, none]) [true, true, true, true, true, false, true, false, false] rfl (P_jn_X13_twoHours_146 hK6 x0 x1 x2 x3 x4 x6 M h10)) (fun c11 => have h12 := h6.2 c11; s_iload (pc := 90) dX13_twoHours_90 rfl (s_iconst (pc := 92) dX13_twoHours_92 ci_0 (s_callS (pc := 93) (As := [.int x6, .int 0]) (rest := []) (d' := 0) (mc' := 0) (ms' := 0) dX13_twoHours_93 c_X13_241 rfl rfl (Nat.le_of_ble_eq_true rfl) (rm_ok rfl rfl) ⟨Nat.le_refl 0, Nat.le_refl 0⟩ (T_X13_heldBy h12) (kkI (fun r15 M14 h13 => s_istore (pc := 96) (L1 := [some (.ref x0), some (.int x1), some (.int x2), some (.int x3), some (.long x4), none, some (.int x6), some (.int x7), some (.int r15)]) dX13_twoHours_96 (Nat.le_of_ble_eq_true rfl) rfl (s_lload (pc := 98) dX13_twoHours_98 rfl (s_aload_n (pc := 100) dX13_twoHours_100 rfl (s_iload_n (pc := 101) dX13_twoHours_101 rfl (s_iload (pc := 102) dX13_twoHours_102 rfl (s_iload (pc := 104) dX13_twoHours_104 rfl (s_iconst (pc := 106) dX13_twoHours_106 ci_1 (s_icmp_ne (pc := 107) (tgt := 114) dX13_twoHours_107 rfl (fun c16 => have h17 := h13.1 c16; s_iload (pc := 114) dX13_twoHours_114 rfl (s_iconst (pc := 116) dX13_twoHours_116 ci_2 (s_icmp_ne (pc := 117) (tgt := 125) dX13_twoHours_117 rfl (fun c20 => have h21 := h17.1 c20; s_iconst (pc := 125) dX13_twoHours_125 ci_0 (s_sel (L1 := [some (.ref x0), some (.int x1), some (.int x2), some (.int x3), none, none, some (.int x6), none, none]) [true, true, true, true, false, false, true, false, false] rfl (P_jn_X13_twoHours_126 hK6 x0 x1 x2 x3 x6 0 r15 x1 x0 x4 M14 h21))) (fun c22 => have h23 := h17.2 c22; s_iload_n (pc := 120) dX13_twoHours_120 rfl (s_ineg (pc := 121) dX13_twoHours_121 (s_goto (pc := 122) (tgt := 126) dX13_twoHours_122 rfl (s_sel (L1 := [some (.ref x0), some (.int x1), some (.int x2), some (.int x3), none, none, some (.int x6), none, none]) [true, true, true, true, false, false, true, false, false] rfl (P_jn_X13_twoHours_126 hK6 x0 x1 x2 x3 x6 (-x2) r15 x1 x0 x4 M14 h23)))))))) (fun c18 => have h19 := h13.2 c18; s_iload_n (pc := 110) dX13_twoHours_110 rfl (s_goto (pc := 111) (tgt := 126) dX13_twoHours_111 rfl (s_sel (L1 := [some (.ref x0), some (.int x1), some (.int x2), some (.int x3), none, none, some (.int x6), none, none]) [true, true, true, true, false, false, true, false, false] rfl (P_jn_X13_twoHours_126 hK6 x0 x1 x2 x3 x6 x3 r15 x1 x0 x4 M14 h19)))))))))))))))))) (fun c7 => have h8 := h.2.2 c7; s_aload_n (pc := 27) dX13_twoHours_27 rfl (s_getR (pc := 28) dX13_twoHours_28 f_X13_79 rfl h.1 (s_iload (pc := 31) dX13_twoHours_31 rfl (s_aload_n (pc := 33) dX13_twoHours_33 rfl (s_getR (pc := 34) dX13_twoHours_34 f_X13_7 rfl h.1 (s_iload (pc := 37) dX13_twoHours_37 rfl (s_ial (pc := 39) dX13_twoHours_39 h8.1 h8.2.1 (s_i2l (pc := 40) dX13_twoHours_40 (s_aload_n (pc := 41) dX13_twoHours_41 rfl (s_iload (pc := 42) dX13_twoHours_42 rfl (s_iload (pc := 44) dX13_twoHours_44 rfl (s_iload_n (pc := 46) dX13_twoHours_46 rfl (s_iload_n (pc := 47) dX13_twoHours_47 rfl (s_iconst (pc := 48) dX13_twoHours_48 ci_0 (s_callV (pc := 49) (As := [.int x6, .int x8, .int x2, .int x3, .int 0]) (rest := [.long ((mI M (mR M x0 1) x8.toNatClampNeg).toInt64), .int x8, .ref (mR M x0 37)]) (d' := 1) (mc' := 0) (ms' := 0) dX13_twoHours_49 c_X13_214 (Nat.le_of_ble_eq_true rfl) rfl h.1 rfl rfl (Nat.le_of_ble_eq_true rfl) (rm_ok rfl rfl) ⟨Nat.le_refl 0, Nat.le_refl 0⟩ (T_X13_hundredths h8.2.2) (kkI (fun r36 M35 h34 => s_i2l (pc := 52) dX13_twoHours_52 (s_lmul (pc := 53) dX13_twoHours_53 (s_las (pc := 54) dX13_twoHours_54 h34.1 h34.2.1 (nmM (fun M37 e38 => have h39 := (h34.2.2) M37 e38; s_iload (pc := 55) dX13_twoHours_55 rfl (s_if_ne (pc := 57) (tgt := 72) dX13_twoHours_57 rfl (fun c40 => have h41 := h39.1 c40; s_sel (L1 := [some (.ref x0), some (.int x1), some (.int x2), some (.int x3), some (.long x4), none, some (.int x6), none, some (.int x8)]) [true, true, true, true, true, false, true, false, true] rfl (P_jn_X13_twoHours_72 hK6 ih x0 x1 x2 x3 x4 x6 x8 M37 h41)) (fun c42 => have h43 := h39.2 c42; s_aload_n (pc := 60) dX13_twoHours_60 rfl (s_getR (pc := 61) dX13_twoHours_61 f_X13_79 rfl h43.1 (s_iload (pc := 64) dX13_twoHours_64 rfl (s_lal (pc := 66) dX13_twoHours_66 h43.2.1 h43.2.2.1 (s_lconst (pc := 67) (v := 0) dX13_twoHours_67 rfl (s_lif_le (pc := 68) (tgt := 76) dX13_twoHours_68 dX13_twoHours_69 rfl (fun c44 => have h45 := h43.2.2.2.1 c44; s_iconst (pc := 76) dX13_twoHours_76 ci_0 (s_sel (L1 := [some (.ref x0), some (.int x1), some (.int x2), some (.int x3), some (.long x4), none, some (.int x6), none, some (.int x8)]) [true, true, true, true, true, false, true, false, true] rfl (P_jn_X13_twoHours_77 hK6 ih x0 x1 x2 x3 x4 x6 x8 0 M37 h45))) (fun c46 => have h47 := h43.2.2.2.2 c46; s_sel (L1 := [some (.ref x0), some (.int x1), some (.int x2), some (.int x3), some (.long x4), none, some (.int x6), none, some (.int x8)]) [true, true, true, true, true, false, true, false, true] rfl (P_jn_X13_twoHours_72 hK6 ih x0 x1 x2 x3 x4 x6 x8 M37 h47))))))))))))))))))))))))))))))))))
def lp_X13_twoHours_6 (Q : Int64 → Mem → Prop) : Nat → Nat → Int32 → Int32 → Int32 → Int64 → Int32 → Mem → Prop
  | 0 => fun _ _ _ _ _ _ _ => False
  | n + 1 => fun x0 x1 x2 x3 x4 x6 M => ((3 : Int32) ≤ x6 → Q x4 M) ∧ (¬ (3 : Int32) ≤ x6 → ∃ n48 : Nat, lp_X13_twoHours_18 (fun fx0 fx1 fx2 fx3 fx4 fx6 fM => lp_X13_twoHours_6 Q n fx0 fx1 fx2 fx3 fx4 fx6 fM) Q n48 x0 x1 x2 x3 x4 x6 0 0 M)
theorem P_lp_X13_twoHours_6 {G : GG} {Q : Int64 → Mem → Prop} : ∀ (n : Nat) (x0 : Nat) (x1 : Int32) (x2 : Int32) (x3 : Int32) (x4 : Int64) (x6 : Int32) (M : Mem), lp_X13_twoHours_6 Q n x0 x1 x2 x3 x4 x6 M → PW G mX13_twoHours (rmD 4 0 0) (QJ Q) 6 [some (.ref x0), some (.int x1), some (.int x2), some (.int x3), some (.long x4), none, some (.int x6), none, none] [] M 0 0 := by
  intro n
  induction n with
  | zero => intro x0 x1 x2 x3 x4 x6 M h; exact h.elim
  | succ n ih =>
    intro x0 x1 x2 x3 x4 x6 M h
    exact (s_iload (pc := 6) dX13_twoHours_6 rfl (s_iconst (pc := 8) dX13_twoHours_8 ci_3 (s_icmp_ge (pc := 9) (tgt := 152) dX13_twoHours_9 rfl (fun c1 => have h2 := h.1 c1; s_lload (pc := 152) dX13_twoHours_152 rfl (s_lreturn (pc := 154) dX13_twoHours_154 rfl (Nat.zero_le _) (Nat.zero_le _) ⟨_, rfl, h2⟩)) (fun c3 => have h4 := h.2 c3; s_iconst (pc := 12) dX13_twoHours_12 ci_0 (s_istore (pc := 13) (L1 := [some (.ref x0), some (.int x1), some (.int x2), some (.int x3), some (.long x4), none, some (.int x6), some (.int 0), none]) dX13_twoHours_13 (Nat.le_of_ble_eq_true rfl) rfl (s_iconst (pc := 15) dX13_twoHours_15 ci_0 (s_istore (pc := 16) (L1 := [some (.ref x0), some (.int x1), some (.int x2), some (.int x3), some (.long x4), none, some (.int x6), some (.int 0), some (.int 0)]) dX13_twoHours_16 (Nat.le_of_ble_eq_true rfl) rfl (Exists.elim h4 (fun n48 hn => s_sel (L1 := [some (.ref x0), some (.int x1), some (.int x2), some (.int x3), some (.long x4), none, some (.int x6), some (.int 0), some (.int 0)]) [true, true, true, true, true, false, true, true, true] rfl (P_lp_X13_twoHours_18 ih n48 x0 x1 x2 x3 x4 x6 0 0 M hn))))))))))
def wp_X13_twoHours (p0 : Nat) (p1 : Int32) (p2 : Int32) (p3 : Int32) (M : Mem) (Q : Int64 → Mem → Prop) : Prop := ∃ n49 : Nat, lp_X13_twoHours_6 Q n49 p0 p1 p2 p3 0 0 M
theorem T_X13_twoHours {G : GG} {Q : Int64 → Mem → Prop} {M : Mem} {p0 : Nat} {p1 : Int32} {p2 : Int32} {p3 : Int32} (h : wp_X13_twoHours p0 p1 p2 p3 M Q) : PMet G mX13_twoHours 4 0 0 [.ref p0, .int p1, .int p2, .int p3] M (QJ Q) :=
  mk_met (by decide) rfl rfl (by
    intro w hw x9 e9
    subst e9
    simp at hw) (Nat.le_of_ble_eq_true rfl) (s_pad (L1 := [some (.ref p0), some (.int p1), some (.int p2), some (.int p3), none, none, none, none, none]) 9 rfl (s_lconst (pc := 0) (v := 0) dX13_twoHours_0 rfl (s_lstore (pc := 1) (L1 := [some (.ref p0), some (.int p1), some (.int p2), some (.int p3), some (.long 0), none, none, none, none]) dX13_twoHours_1 (Nat.le_of_ble_eq_true rfl) rfl (s_iconst (pc := 3) dX13_twoHours_3 ci_0 (s_istore (pc := 4) (L1 := [some (.ref p0), some (.int p1), some (.int p2), some (.int p3), some (.long 0), none, some (.int 0), none, none]) dX13_twoHours_4 (Nat.le_of_ble_eq_true rfl) rfl (Exists.elim h (fun n49 hn => s_sel (L1 := [some (.ref p0), some (.int p1), some (.int p2), some (.int p3), some (.long 0), none, some (.int 0), none, none]) [true, true, true, true, true, false, true, false, false] rfl (P_lp_X13_twoHours_6 n49 p0 p1 p2 p3 0 0 M hn))))))))
/-! X13_findBest -/
theorem dX13_findBest_0 : cod mX13_findBest 0 (.iconst 0) 1 := by decide +kernel
theorem dX13_findBest_1 : cod mX13_findBest 1 (.istore_n 3) 1 := by decide +kernel
theorem dX13_findBest_2 : cod mX13_findBest 2 (.iconst 0) 1 := by decide +kernel
theorem dX13_findBest_3 : cod mX13_findBest 3 (.istore 4) 2 := by decide +kernel
theorem dX13_findBest_5 : cod mX13_findBest 5 (.iload 4) 2 := by decide +kernel
theorem dX13_findBest_7 : cod mX13_findBest 7 (.bipush 100) 2 := by decide +kernel
theorem dX13_findBest_9 : cod mX13_findBest 9 (.if_icmp .gt 135) 3 := by decide +kernel
theorem dX13_findBest_12 : cod mX13_findBest 12 (.iload 4) 2 := by decide +kernel
theorem dX13_findBest_14 : cod mX13_findBest 14 (.iload_n 1) 1 := by decide +kernel
theorem dX13_findBest_15 : cod mX13_findBest 15 (.iadd) 1 := by decide +kernel
theorem dX13_findBest_16 : cod mX13_findBest 16 (.istore 5) 2 := by decide +kernel
theorem dX13_findBest_18 : cod mX13_findBest 18 (.iload 5) 2 := by decide +kernel
theorem dX13_findBest_20 : cod mX13_findBest 20 (.bipush 100) 2 := by decide +kernel
theorem dX13_findBest_22 : cod mX13_findBest 22 (.if_icmp .gt 113) 3 := by decide +kernel
theorem dX13_findBest_25 : cod mX13_findBest 25 (.lconst 0) 1 := by decide +kernel
theorem dX13_findBest_26 : cod mX13_findBest 26 (.lstore 6) 2 := by decide +kernel
theorem dX13_findBest_28 : cod mX13_findBest 28 (.iload_n 2) 1 := by decide +kernel
theorem dX13_findBest_29 : cod mX13_findBest 29 (.iconst 1) 1 := by decide +kernel
theorem dX13_findBest_30 : cod mX13_findBest 30 (.if_icmp .ne 51) 3 := by decide +kernel
theorem dX13_findBest_33 : cod mX13_findBest 33 (.iconst 0) 1 := by decide +kernel
theorem dX13_findBest_34 : cod mX13_findBest 34 (.istore 8) 2 := by decide +kernel
theorem dX13_findBest_36 : cod mX13_findBest 36 (.iload 8) 2 := by decide +kernel
theorem dX13_findBest_38 : cod mX13_findBest 38 (.aload_n 0) 1 := by decide +kernel
theorem dX13_findBest_39 : cod mX13_findBest 39 (.getfield 119) 3 := by decide +kernel
theorem dX13_findBest_42 : cod mX13_findBest 42 (.if_icmp .ge 24) 3 := by decide +kernel
theorem dX13_findBest_45 : cod mX13_findBest 45 (.aload_n 0) 1 := by decide +kernel
theorem dX13_findBest_46 : cod mX13_findBest 46 (.getfield 79) 3 := by decide +kernel
theorem dX13_findBest_49 : cod mX13_findBest 49 (.iload 8) 2 := by decide +kernel
theorem dX13_findBest_51 : cod mX13_findBest 51 (.aload_n 0) 1 := by decide +kernel
theorem dX13_findBest_52 : cod mX13_findBest 52 (.getfield 7) 3 := by decide +kernel
theorem dX13_findBest_55 : cod mX13_findBest 55 (.iload 8) 2 := by decide +kernel
theorem dX13_findBest_57 : cod mX13_findBest 57 (.iaload) 1 := by decide +kernel
theorem dX13_findBest_58 : cod mX13_findBest 58 (.i2l) 1 := by decide +kernel
theorem dX13_findBest_59 : cod mX13_findBest 59 (.lastore) 1 := by decide +kernel
theorem dX13_findBest_60 : cod mX13_findBest 60 (.iinc 8 1) 3 := by decide +kernel
theorem dX13_findBest_63 : cod mX13_findBest 63 (.goto (-27)) 3 := by decide +kernel
theorem dX13_findBest_66 : cod mX13_findBest 66 (.aload_n 0) 1 := by decide +kernel
theorem dX13_findBest_67 : cod mX13_findBest 67 (.iload 4) 2 := by decide +kernel
theorem dX13_findBest_69 : cod mX13_findBest 69 (.iload 5) 2 := by decide +kernel
theorem dX13_findBest_71 : cod mX13_findBest 71 (.iconst 0) 1 := by decide +kernel
theorem dX13_findBest_72 : cod mX13_findBest 72 (.iconst 0) 1 := by decide +kernel
theorem dX13_findBest_73 : cod mX13_findBest 73 (.invokevirtual 319) 3 := by decide +kernel
theorem dX13_findBest_76 : cod mX13_findBest 76 (.lstore 6) 2 := by decide +kernel
theorem dX13_findBest_78 : cod mX13_findBest 78 (.goto 14) 3 := by decide +kernel
theorem dX13_findBest_81 : cod mX13_findBest 81 (.aload_n 0) 1 := by decide +kernel
theorem dX13_findBest_82 : cod mX13_findBest 82 (.iload_n 1) 1 := by decide +kernel
theorem dX13_findBest_83 : cod mX13_findBest 83 (.iload 4) 2 := by decide +kernel
theorem dX13_findBest_85 : cod mX13_findBest 85 (.iload 5) 2 := by decide +kernel
theorem dX13_findBest_87 : cod mX13_findBest 87 (.invokevirtual 327) 3 := by decide +kernel
theorem dX13_findBest_90 : cod mX13_findBest 90 (.lstore 6) 2 := by decide +kernel
theorem dX13_findBest_92 : cod mX13_findBest 92 (.iload_n 3) 1 := by decide +kernel
theorem dX13_findBest_93 : cod mX13_findBest 93 (.ifCond .eq 13) 3 := by decide +kernel
theorem dX13_findBest_96 : cod mX13_findBest 96 (.lload 6) 2 := by decide +kernel
theorem dX13_findBest_98 : cod mX13_findBest 98 (.aload_n 0) 1 := by decide +kernel
theorem dX13_findBest_99 : cod mX13_findBest 99 (.getfield 330) 3 := by decide +kernel
theorem dX13_findBest_102 : cod mX13_findBest 102 (.lcmp) 1 := by decide +kernel
theorem dX13_findBest_103 : cod mX13_findBest 103 (.ifCond .le 23) 3 := by decide +kernel
theorem dX13_findBest_106 : cod mX13_findBest 106 (.iconst 1) 1 := by decide +kernel
theorem dX13_findBest_107 : cod mX13_findBest 107 (.istore_n 3) 1 := by decide +kernel
theorem dX13_findBest_108 : cod mX13_findBest 108 (.aload_n 0) 1 := by decide +kernel
theorem dX13_findBest_109 : cod mX13_findBest 109 (.lload 6) 2 := by decide +kernel
theorem dX13_findBest_111 : cod mX13_findBest 111 (.putfield 330) 3 := by decide +kernel
theorem dX13_findBest_114 : cod mX13_findBest 114 (.aload_n 0) 1 := by decide +kernel
theorem dX13_findBest_115 : cod mX13_findBest 115 (.iload 4) 2 := by decide +kernel
theorem dX13_findBest_117 : cod mX13_findBest 117 (.putfield 333) 3 := by decide +kernel
theorem dX13_findBest_120 : cod mX13_findBest 120 (.aload_n 0) 1 := by decide +kernel
theorem dX13_findBest_121 : cod mX13_findBest 121 (.iload 5) 2 := by decide +kernel
theorem dX13_findBest_123 : cod mX13_findBest 123 (.putfield 336) 3 := by decide +kernel
theorem dX13_findBest_126 : cod mX13_findBest 126 (.iload 5) 2 := by decide +kernel
theorem dX13_findBest_128 : cod mX13_findBest 128 (.iload_n 1) 1 := by decide +kernel
theorem dX13_findBest_129 : cod mX13_findBest 129 (.iadd) 1 := by decide +kernel
theorem dX13_findBest_130 : cod mX13_findBest 130 (.istore 5) 2 := by decide +kernel
theorem dX13_findBest_132 : cod mX13_findBest 132 (.goto (-114)) 3 := by decide +kernel
theorem dX13_findBest_135 : cod mX13_findBest 135 (.iload 4) 2 := by decide +kernel
theorem dX13_findBest_137 : cod mX13_findBest 137 (.iload_n 1) 1 := by decide +kernel
theorem dX13_findBest_138 : cod mX13_findBest 138 (.iadd) 1 := by decide +kernel
theorem dX13_findBest_139 : cod mX13_findBest 139 (.istore 4) 2 := by decide +kernel
theorem dX13_findBest_141 : cod mX13_findBest 141 (.goto (-136)) 3 := by decide +kernel
theorem dX13_findBest_144 : cod mX13_findBest 144 (.return_) 1 := by decide +kernel
def jn_X13_findBest_126 (K5 : Nat → Int32 → Int32 → Int32 → Int32 → Mem → Prop) (K18 : Nat → Int32 → Int32 → Int32 → Int32 → Int32 → Mem → Prop) (Q : Mem → Prop) (x0 : Nat) (x1 : Int32) (x2 : Int32) (x3 : Int32) (x4 : Int32) (x5 : Int32) (M : Mem) : Prop := ∀ y35 : Int32, y35 = x5 + x1 → K18 x0 x1 x2 x3 x4 y35 M
theorem P_jn_X13_findBest_126 {G : GG} {K5 : Nat → Int32 → Int32 → Int32 → Int32 → Mem → Prop} {K18 : Nat → Int32 → Int32 → Int32 → Int32 → Int32 → Mem → Prop} {Q : Mem → Prop} (hK5 : ∀ (x0 : Nat) (x1 : Int32) (x2 : Int32) (x3 : Int32) (x4 : Int32) (M : Mem), K5 x0 x1 x2 x3 x4 M → PW G mX13_findBest (rmD 5 0 0) (QV Q) 5 [some (.ref x0), some (.int x1), some (.int x2), some (.int x3), some (.int x4), none, none, none, none] [] M 0 0) (hK18 : ∀ (x0 : Nat) (x1 : Int32) (x2 : Int32) (x3 : Int32) (x4 : Int32) (x5 : Int32) (M : Mem), K18 x0 x1 x2 x3 x4 x5 M → PW G mX13_findBest (rmD 5 0 0) (QV Q) 18 [some (.ref x0), some (.int x1), some (.int x2), some (.int x3), some (.int x4), some (.int x5), none, none, none] [] M 0 0) (x0 : Nat) (x1 : Int32) (x2 : Int32) (x3 : Int32) (x4 : Int32) (x5 : Int32) (M : Mem) (h : jn_X13_findBest_126 K5 K18 Q x0 x1 x2 x3 x4 x5 M) : PW G mX13_findBest (rmD 5 0 0) (QV Q) 126 [some (.ref x0), some (.int x1), some (.int x2), some (.int x3), some (.int x4), some (.int x5), none, none, none] [] M 0 0 := (s_iload (pc := 126) dX13_findBest_126 rfl (s_iload_n (pc := 128) dX13_findBest_128 rfl (s_iadd (pc := 129) dX13_findBest_129 (nmI (fun y35 e36 => have h37 := h y35 e36; s_istore (pc := 130) (L1 := [some (.ref x0), some (.int x1), some (.int x2), some (.int x3), some (.int x4), some (.int y35), none, none, none]) dX13_findBest_130 (Nat.le_of_ble_eq_true rfl) rfl (s_goto (pc := 132) (tgt := 18) dX13_findBest_132 rfl (s_sel (L1 := [some (.ref x0), some (.int x1), some (.int x2), some (.int x3), some (.int x4), some (.int y35), none, none, none]) [true, true, true, true, true, true, false, false, false] rfl (hK18 x0 x1 x2 x3 x4 y35 M h37))))))))
def jn_X13_findBest_106 (K5 : Nat → Int32 → Int32 → Int32 → Int32 → Mem → Prop) (K18 : Nat → Int32 → Int32 → Int32 → Int32 → Int32 → Mem → Prop) (Q : Mem → Prop) (x0 : Nat) (x1 : Int32) (x2 : Int32) (x4 : Int32) (x5 : Int32) (x6 : Int64) (M : Mem) : Prop := mK M x0 = 14 ∧ ∀ M26 : Mem, M26 = uJ M x0 40 x6 → ∀ M29 : Mem, M29 = uI M26 x0 38 x4 → ∀ M32 : Mem, M32 = uI M29 x0 39 x5 → jn_X13_findBest_126 K5 K18 Q x0 x1 x2 1 x4 x5 M32
theorem P_jn_X13_findBest_106 {G : GG} {K5 : Nat → Int32 → Int32 → Int32 → Int32 → Mem → Prop} {K18 : Nat → Int32 → Int32 → Int32 → Int32 → Int32 → Mem → Prop} {Q : Mem → Prop} (hK5 : ∀ (x0 : Nat) (x1 : Int32) (x2 : Int32) (x3 : Int32) (x4 : Int32) (M : Mem), K5 x0 x1 x2 x3 x4 M → PW G mX13_findBest (rmD 5 0 0) (QV Q) 5 [some (.ref x0), some (.int x1), some (.int x2), some (.int x3), some (.int x4), none, none, none, none] [] M 0 0) (hK18 : ∀ (x0 : Nat) (x1 : Int32) (x2 : Int32) (x3 : Int32) (x4 : Int32) (x5 : Int32) (M : Mem), K18 x0 x1 x2 x3 x4 x5 M → PW G mX13_findBest (rmD 5 0 0) (QV Q) 18 [some (.ref x0), some (.int x1), some (.int x2), some (.int x3), some (.int x4), some (.int x5), none, none, none] [] M 0 0) (x0 : Nat) (x1 : Int32) (x2 : Int32) (x4 : Int32) (x5 : Int32) (x6 : Int64) (M : Mem) (h : jn_X13_findBest_106 K5 K18 Q x0 x1 x2 x4 x5 x6 M) : PW G mX13_findBest (rmD 5 0 0) (QV Q) 106 [some (.ref x0), some (.int x1), some (.int x2), none, some (.int x4), some (.int x5), some (.long x6), none, none] [] M 0 0 := (s_iconst (pc := 106) dX13_findBest_106 ci_1 (s_istore_n (pc := 107) (L1 := [some (.ref x0), some (.int x1), some (.int x2), some (.int 1), some (.int x4), some (.int x5), some (.long x6), none, none]) dX13_findBest_107 (Nat.le_of_ble_eq_true rfl) rfl (s_aload_n (pc := 108) dX13_findBest_108 rfl (s_lload (pc := 109) dX13_findBest_109 rfl (s_putJ (pc := 111) dX13_findBest_111 f_X13_330 (Or.inl rfl) rfl h.1 (nmM (fun M26 e27 => have h28 := h.2 M26 e27; s_aload_n (pc := 114) dX13_findBest_114 rfl (s_iload (pc := 115) dX13_findBest_115 rfl (s_putI (pc := 117) dX13_findBest_117 f_X13_333 (Or.inl rfl) (Or.inl rfl) ((congrFun (congrArg mK e27) x0).trans h.1) (nmM (fun M29 e30 => have h31 := h28 M29 e30; s_aload_n (pc := 120) dX13_findBest_120 rfl (s_iload (pc := 121) dX13_findBest_121 rfl (s_putI (pc := 123) dX13_findBest_123 f_X13_336 (Or.inl rfl) (Or.inl rfl) ((congrFun (congrArg mK e30) x0).trans ((congrFun (congrArg mK e27) x0).trans h.1)) (nmM (fun M32 e33 => have h34 := h31 M32 e33; s_sel (L1 := [some (.ref x0), some (.int x1), some (.int x2), some (.int 1), some (.int x4), some (.int x5), none, none, none]) [true, true, true, true, true, true, false, false, false] rfl (P_jn_X13_findBest_126 hK5 hK18 x0 x1 x2 1 x4 x5 M32 h34))))))))))))))))
def jn_X13_findBest_92 (K5 : Nat → Int32 → Int32 → Int32 → Int32 → Mem → Prop) (K18 : Nat → Int32 → Int32 → Int32 → Int32 → Int32 → Mem → Prop) (Q : Mem → Prop) (x0 : Nat) (x1 : Int32) (x2 : Int32) (x3 : Int32) (x4 : Int32) (x5 : Int32) (x6 : Int64) (M : Mem) : Prop := (x3 = (0 : Int32) → jn_X13_findBest_106 K5 K18 Q x0 x1 x2 x4 x5 x6 M) ∧ (¬ x3 = (0 : Int32) → mK M x0 = 14 ∧ (x6 ≤ (mJ M x0 40) → jn_X13_findBest_126 K5 K18 Q x0 x1 x2 x3 x4 x5 M) ∧ (¬ x6 ≤ (mJ M x0 40) → jn_X13_findBest_106 K5 K18 Q x0 x1 x2 x4 x5 x6 M))
theorem P_jn_X13_findBest_92 {G : GG} {K5 : Nat → Int32 → Int32 → Int32 → Int32 → Mem → Prop} {K18 : Nat → Int32 → Int32 → Int32 → Int32 → Int32 → Mem → Prop} {Q : Mem → Prop} (hK5 : ∀ (x0 : Nat) (x1 : Int32) (x2 : Int32) (x3 : Int32) (x4 : Int32) (M : Mem), K5 x0 x1 x2 x3 x4 M → PW G mX13_findBest (rmD 5 0 0) (QV Q) 5 [some (.ref x0), some (.int x1), some (.int x2), some (.int x3), some (.int x4), none, none, none, none] [] M 0 0) (hK18 : ∀ (x0 : Nat) (x1 : Int32) (x2 : Int32) (x3 : Int32) (x4 : Int32) (x5 : Int32) (M : Mem), K18 x0 x1 x2 x3 x4 x5 M → PW G mX13_findBest (rmD 5 0 0) (QV Q) 18 [some (.ref x0), some (.int x1), some (.int x2), some (.int x3), some (.int x4), some (.int x5), none, none, none] [] M 0 0) (x0 : Nat) (x1 : Int32) (x2 : Int32) (x3 : Int32) (x4 : Int32) (x5 : Int32) (x6 : Int64) (M : Mem) (h : jn_X13_findBest_92 K5 K18 Q x0 x1 x2 x3 x4 x5 x6 M) : PW G mX13_findBest (rmD 5 0 0) (QV Q) 92 [some (.ref x0), some (.int x1), some (.int x2), some (.int x3), some (.int x4), some (.int x5), some (.long x6), none, none] [] M 0 0 := (s_iload_n (pc := 92) dX13_findBest_92 rfl (s_if_eq (pc := 93) (tgt := 106) dX13_findBest_93 rfl (fun c22 => have h23 := h.1 c22; s_sel (L1 := [some (.ref x0), some (.int x1), some (.int x2), none, some (.int x4), some (.int x5), some (.long x6), none, none]) [true, true, true, false, true, true, true, false, false] rfl (P_jn_X13_findBest_106 hK5 hK18 x0 x1 x2 x4 x5 x6 M h23)) (fun c24 => have h25 := h.2 c24; s_lload (pc := 96) dX13_findBest_96 rfl (s_aload_n (pc := 98) dX13_findBest_98 rfl (s_getJ (pc := 99) dX13_findBest_99 f_X13_330 rfl h25.1 (s_lif_le (pc := 102) (tgt := 126) dX13_findBest_102 dX13_findBest_103 rfl (fun c38 => have h39 := h25.2.1 c38; s_sel (L1 := [some (.ref x0), some (.int x1), some (.int x2), some (.int x3), some (.int x4), some (.int x5), none, none, none]) [true, true, true, true, true, true, false, false, false] rfl (P_jn_X13_findBest_126 hK5 hK18 x0 x1 x2 x3 x4 x5 M h39)) (fun c40 => have h41 := h25.2.2 c40; s_sel (L1 := [some (.ref x0), some (.int x1), some (.int x2), none, some (.int x4), some (.int x5), some (.long x6), none, none]) [true, true, true, false, true, true, true, false, false] rfl (P_jn_X13_findBest_106 hK5 hK18 x0 x1 x2 x4 x5 x6 M h41))))))))
def lp_X13_findBest_36 (K5 : Nat → Int32 → Int32 → Int32 → Int32 → Mem → Prop) (K18 : Nat → Int32 → Int32 → Int32 → Int32 → Int32 → Mem → Prop) (Q : Mem → Prop) : Nat → Nat → Int32 → Int32 → Int32 → Int32 → Int32 → Int32 → Mem → Prop
  | 0 => fun _ _ _ _ _ _ _ _ => False
  | n + 1 => fun x0 x1 x2 x3 x4 x5 x8 M => mK M x0 = 14 ∧ ((mI M x0 0) ≤ x8 → wp_X13_lastHour x0 x4 x5 0 0 M (fun r48 M47 => jn_X13_findBest_92 K5 K18 Q x0 x1 x2 x3 x4 x5 r48 M47)) ∧ (¬ (mI M x0 0) ≤ x8 → mK M (mR M x0 1) = 20 ∧ vp_in x8 (mN M (mR M x0 1)) ∧ mK M (mR M x0 37) = 21 ∧ vp_in x8 (mN M (mR M x0 37)) ∧ ∀ M49 : Mem, M49 = uJ M (mR M x0 37) x8.toNatClampNeg ((mI M (mR M x0 1) x8.toNatClampNeg).toInt64) → (lp_X13_findBest_36 K5 K18 Q n) x0 x1 x2 x3 x4 x5 (x8 + 1) M49)
theorem P_lp_X13_findBest_36 {G : GG} {K5 : Nat → Int32 → Int32 → Int32 → Int32 → Mem → Prop} {K18 : Nat → Int32 → Int32 → Int32 → Int32 → Int32 → Mem → Prop} {Q : Mem → Prop} (hK5 : ∀ (x0 : Nat) (x1 : Int32) (x2 : Int32) (x3 : Int32) (x4 : Int32) (M : Mem), K5 x0 x1 x2 x3 x4 M → PW G mX13_findBest (rmD 5 0 0) (QV Q) 5 [some (.ref x0), some (.int x1), some (.int x2), some (.int x3), some (.int x4), none, none, none, none] [] M 0 0) (hK18 : ∀ (x0 : Nat) (x1 : Int32) (x2 : Int32) (x3 : Int32) (x4 : Int32) (x5 : Int32) (M : Mem), K18 x0 x1 x2 x3 x4 x5 M → PW G mX13_findBest (rmD 5 0 0) (QV Q) 18 [some (.ref x0), some (.int x1), some (.int x2), some (.int x3), some (.int x4), some (.int x5), none, none, none] [] M 0 0) : ∀ (n : Nat) (x0 : Nat) (x1 : Int32) (x2 : Int32) (x3 : Int32) (x4 : Int32) (x5 : Int32) (x8 : Int32) (M : Mem), lp_X13_findBest_36 K5 K18 Q n x0 x1 x2 x3 x4 x5 x8 M → PW G mX13_findBest (rmD 5 0 0) (QV Q) 36 [some (.ref x0), some (.int x1), some (.int x2), some (.int x3), some (.int x4), some (.int x5), none, none, some (.int x8)] [] M 0 0 := by
  intro n
  induction n with
  | zero => intro x0 x1 x2 x3 x4 x5 x8 M h; exact h.elim
  | succ n ih =>
    intro x0 x1 x2 x3 x4 x5 x8 M h
    exact (s_iload (pc := 36) dX13_findBest_36 rfl (s_aload_n (pc := 38) dX13_findBest_38 rfl (s_getI (pc := 39) dX13_findBest_39 f_X13_119 rfl h.1 (s_icmp_ge (pc := 42) (tgt := 66) dX13_findBest_42 rfl (fun c42 => have h43 := h.2.1 c42; s_aload_n (pc := 66) dX13_findBest_66 rfl (s_iload (pc := 67) dX13_findBest_67 rfl (s_iload (pc := 69) dX13_findBest_69 rfl (s_iconst (pc := 71) dX13_findBest_71 ci_0 (s_iconst (pc := 72) dX13_findBest_72 ci_0 (s_callV (pc := 73) (As := [.int x4, .int x5, .int 0, .int 0]) (rest := []) (d' := 2) (mc' := 0) (ms' := 0) dX13_findBest_73 c_X13_319 (Nat.le_of_ble_eq_true rfl) rfl h.1 rfl rfl (Nat.le_of_ble_eq_true rfl) (rm_ok rfl rfl) ⟨Nat.le_refl 0, Nat.le_refl 0⟩ (T_X13_lastHour h43) (kkJ (fun r48 M47 h46 => s_lstore (pc := 76) (L1 := [some (.ref x0), some (.int x1), some (.int x2), some (.int x3), some (.int x4), some (.int x5), some (.long r48), none, some (.int x8)]) dX13_findBest_76 (Nat.le_of_ble_eq_true rfl) rfl (s_goto (pc := 78) (tgt := 92) dX13_findBest_78 rfl (s_sel (L1 := [some (.ref x0), some (.int x1), some (.int x2), some (.int x3), some (.int x4), some (.int x5), some (.long r48), none, none]) [true, true, true, true, true, true, true, false, false] rfl (P_jn_X13_findBest_92 hK5 hK18 x0 x1 x2 x3 x4 x5 r48 M47 h46))))))))))) (fun c44 => have h45 := h.2.2 c44; s_aload_n (pc := 45) dX13_findBest_45 rfl (s_getR (pc := 46) dX13_findBest_46 f_X13_79 rfl h.1 (s_iload (pc := 49) dX13_findBest_49 rfl (s_aload_n (pc := 51) dX13_findBest_51 rfl (s_getR (pc := 52) dX13_findBest_52 f_X13_7 rfl h.1 (s_iload (pc := 55) dX13_findBest_55 rfl (s_ial (pc := 57) dX13_findBest_57 h45.1 h45.2.1 (s_i2l (pc := 58) dX13_findBest_58 (s_las (pc := 59) dX13_findBest_59 h45.2.2.1 h45.2.2.2.1 (nmM (fun M49 e50 => have h51 := (h45.2.2.2.2) M49 e50; s_iinc (pc := 60) (L1 := [some (.ref x0), some (.int x1), some (.int x2), some (.int x3), some (.int x4), some (.int x5), none, none, some (.int (x8 + 1))]) dX13_findBest_60 rfl ci_1 (Nat.le_of_ble_eq_true rfl) rfl (s_goto (pc := 63) (tgt := 36) dX13_findBest_63 rfl (s_sel (L1 := [some (.ref x0), some (.int x1), some (.int x2), some (.int x3), some (.int x4), some (.int x5), none, none, some (.int (x8 + 1))]) [true, true, true, true, true, true, false, false, true] rfl (ih x0 x1 x2 x3 x4 x5 (x8 + 1) M49 h51))))))))))))))))))
def lp_X13_findBest_18 (K5 : Nat → Int32 → Int32 → Int32 → Int32 → Mem → Prop) (Q : Mem → Prop) : Nat → Nat → Int32 → Int32 → Int32 → Int32 → Int32 → Mem → Prop
  | 0 => fun _ _ _ _ _ _ _ => False
  | n + 1 => fun x0 x1 x2 x3 x4 x5 M => ((100 : Int32) < x5 → ∀ y12 : Int32, y12 = x4 + x1 → K5 x0 x1 x2 x3 y12 M) ∧ (¬ (100 : Int32) < x5 → (¬ x2 = (1 : Int32) → mK M x0 = 14 ∧ wp_X13_twoHours x0 x1 x4 x5 M (fun r21 M20 => jn_X13_findBest_92 K5 (fun fx0 fx1 fx2 fx3 fx4 fx5 fM => lp_X13_findBest_18 K5 Q n fx0 fx1 fx2 fx3 fx4 fx5 fM) Q x0 x1 x2 x3 x4 x5 r21 M20)) ∧ (x2 = (1 : Int32) → ∃ n52 : Nat, lp_X13_findBest_36 K5 (fun fx0 fx1 fx2 fx3 fx4 fx5 fM => lp_X13_findBest_18 K5 Q n fx0 fx1 fx2 fx3 fx4 fx5 fM) Q n52 x0 x1 x2 x3 x4 x5 0 M))
theorem P_lp_X13_findBest_18 {G : GG} {K5 : Nat → Int32 → Int32 → Int32 → Int32 → Mem → Prop} {Q : Mem → Prop} (hK5 : ∀ (x0 : Nat) (x1 : Int32) (x2 : Int32) (x3 : Int32) (x4 : Int32) (M : Mem), K5 x0 x1 x2 x3 x4 M → PW G mX13_findBest (rmD 5 0 0) (QV Q) 5 [some (.ref x0), some (.int x1), some (.int x2), some (.int x3), some (.int x4), none, none, none, none] [] M 0 0) : ∀ (n : Nat) (x0 : Nat) (x1 : Int32) (x2 : Int32) (x3 : Int32) (x4 : Int32) (x5 : Int32) (M : Mem), lp_X13_findBest_18 K5 Q n x0 x1 x2 x3 x4 x5 M → PW G mX13_findBest (rmD 5 0 0) (QV Q) 18 [some (.ref x0), some (.int x1), some (.int x2), some (.int x3), some (.int x4), some (.int x5), none, none, none] [] M 0 0 := by
  intro n
  induction n with
  | zero => intro x0 x1 x2 x3 x4 x5 M h; exact h.elim
  | succ n ih =>
    intro x0 x1 x2 x3 x4 x5 M h
    exact (s_iload (pc := 18) dX13_findBest_18 rfl (s_bipush (pc := 20) dX13_findBest_20 cb_100 (s_icmp_gt (pc := 22) (tgt := 135) dX13_findBest_22 rfl (fun c8 => have h9 := h.1 c8; s_iload (pc := 135) dX13_findBest_135 rfl (s_iload_n (pc := 137) dX13_findBest_137 rfl (s_iadd (pc := 138) dX13_findBest_138 (nmI (fun y12 e13 => have h14 := h9 y12 e13; s_istore (pc := 139) (L1 := [some (.ref x0), some (.int x1), some (.int x2), some (.int x3), some (.int y12), some (.int x5), none, none, none]) dX13_findBest_139 (Nat.le_of_ble_eq_true rfl) rfl (s_goto (pc := 141) (tgt := 5) dX13_findBest_141 rfl (s_sel (L1 := [some (.ref x0), some (.int x1), some (.int x2), some (.int x3), some (.int y12), none, none, none, none]) [true, true, true, true, true, false, false, false, false] rfl (hK5 x0 x1 x2 x3 y12 M h14)))))))) (fun c10 => have h11 := h.2 c10; s_lconst (pc := 25) (v := 0) dX13_findBest_25 rfl (s_lstore (pc := 26) (L1 := [some (.ref x0), some (.int x1), some (.int x2), some (.int x3), some (.int x4), some (.int x5), some (.long 0), none, none]) dX13_findBest_26 (Nat.le_of_ble_eq_true rfl) rfl (s_iload_n (pc := 28) dX13_findBest_28 rfl (s_iconst (pc := 29) dX13_findBest_29 ci_1 (s_icmp_ne (pc := 30) (tgt := 81) dX13_findBest_30 rfl (fun c15 => have h16 := h11.1 c15; s_aload_n (pc := 81) dX13_findBest_81 rfl (s_iload_n (pc := 82) dX13_findBest_82 rfl (s_iload (pc := 83) dX13_findBest_83 rfl (s_iload (pc := 85) dX13_findBest_85 rfl (s_callV (pc := 87) (As := [.int x1, .int x4, .int x5]) (rest := []) (d' := 4) (mc' := 0) (ms' := 0) dX13_findBest_87 c_X13_327 (Nat.le_of_ble_eq_true rfl) rfl h16.1 rfl rfl (Nat.le_of_ble_eq_true rfl) (rm_ok rfl rfl) ⟨Nat.le_refl 0, Nat.le_refl 0⟩ (T_X13_twoHours h16.2) (kkJ (fun r21 M20 h19 => s_lstore (pc := 90) (L1 := [some (.ref x0), some (.int x1), some (.int x2), some (.int x3), some (.int x4), some (.int x5), some (.long r21), none, none]) dX13_findBest_90 (Nat.le_of_ble_eq_true rfl) rfl (s_sel (L1 := [some (.ref x0), some (.int x1), some (.int x2), some (.int x3), some (.int x4), some (.int x5), some (.long r21), none, none]) [true, true, true, true, true, true, true, false, false] rfl (P_jn_X13_findBest_92 hK5 ih x0 x1 x2 x3 x4 x5 r21 M20 h19))))))))) (fun c17 => have h18 := h11.2 c17; s_iconst (pc := 33) dX13_findBest_33 ci_0 (s_istore (pc := 34) (L1 := [some (.ref x0), some (.int x1), some (.int x2), some (.int x3), some (.int x4), some (.int x5), some (.long 0), none, some (.int 0)]) dX13_findBest_34 (Nat.le_of_ble_eq_true rfl) rfl (Exists.elim h18 (fun n52 hn => s_sel (L1 := [some (.ref x0), some (.int x1), some (.int x2), some (.int x3), some (.int x4), some (.int x5), none, none, some (.int 0)]) [true, true, true, true, true, true, false, false, true] rfl (P_lp_X13_findBest_36 hK5 ih n52 x0 x1 x2 x3 x4 x5 0 M hn)))))))))))))
def lp_X13_findBest_5 (Q : Mem → Prop) : Nat → Nat → Int32 → Int32 → Int32 → Int32 → Mem → Prop
  | 0 => fun _ _ _ _ _ _ => False
  | n + 1 => fun x0 x1 x2 x3 x4 M => ((100 : Int32) < x4 → Q M) ∧ (¬ (100 : Int32) < x4 → ∀ y5 : Int32, y5 = x4 + x1 → ∃ n53 : Nat, lp_X13_findBest_18 (fun fx0 fx1 fx2 fx3 fx4 fM => lp_X13_findBest_5 Q n fx0 fx1 fx2 fx3 fx4 fM) Q n53 x0 x1 x2 x3 x4 y5 M)
theorem P_lp_X13_findBest_5 {G : GG} {Q : Mem → Prop} : ∀ (n : Nat) (x0 : Nat) (x1 : Int32) (x2 : Int32) (x3 : Int32) (x4 : Int32) (M : Mem), lp_X13_findBest_5 Q n x0 x1 x2 x3 x4 M → PW G mX13_findBest (rmD 5 0 0) (QV Q) 5 [some (.ref x0), some (.int x1), some (.int x2), some (.int x3), some (.int x4), none, none, none, none] [] M 0 0 := by
  intro n
  induction n with
  | zero => intro x0 x1 x2 x3 x4 M h; exact h.elim
  | succ n ih =>
    intro x0 x1 x2 x3 x4 M h
    exact (s_iload (pc := 5) dX13_findBest_5 rfl (s_bipush (pc := 7) dX13_findBest_7 cb_100 (s_icmp_gt (pc := 9) (tgt := 144) dX13_findBest_9 rfl (fun c1 => have h2 := h.1 c1; s_return (pc := 144) dX13_findBest_144 rfl (Nat.zero_le _) (Nat.zero_le _) ⟨rfl, h2⟩) (fun c3 => have h4 := h.2 c3; s_iload (pc := 12) dX13_findBest_12 rfl (s_iload_n (pc := 14) dX13_findBest_14 rfl (s_iadd (pc := 15) dX13_findBest_15 (nmI (fun y5 e6 => have h7 := h4 y5 e6; s_istore (pc := 16) (L1 := [some (.ref x0), some (.int x1), some (.int x2), some (.int x3), some (.int x4), some (.int y5), none, none, none]) dX13_findBest_16 (Nat.le_of_ble_eq_true rfl) rfl (Exists.elim h7 (fun n53 hn => s_sel (L1 := [some (.ref x0), some (.int x1), some (.int x2), some (.int x3), some (.int x4), some (.int y5), none, none, none]) [true, true, true, true, true, true, false, false, false] rfl (P_lp_X13_findBest_18 ih n53 x0 x1 x2 x3 x4 y5 M hn)))))))))))
def wp_X13_findBest (p0 : Nat) (p1 : Int32) (p2 : Int32) (M : Mem) (Q : Mem → Prop) : Prop := ∃ n54 : Nat, lp_X13_findBest_5 Q n54 p0 p1 p2 0 0 M
theorem T_X13_findBest {G : GG} {Q : Mem → Prop} {M : Mem} {p0 : Nat} {p1 : Int32} {p2 : Int32} (h : wp_X13_findBest p0 p1 p2 M Q) : PMet G mX13_findBest 5 0 0 [.ref p0, .int p1, .int p2] M (QV Q) :=
  mk_met (by decide) rfl rfl (by
    intro w hw x9 e9
    subst e9
    simp at hw) (Nat.le_of_ble_eq_true rfl) (s_pad (L1 := [some (.ref p0), some (.int p1), some (.int p2), none, none, none, none, none, none]) 9 rfl (s_iconst (pc := 0) dX13_findBest_0 ci_0 (s_istore_n (pc := 1) (L1 := [some (.ref p0), some (.int p1), some (.int p2), some (.int 0), none, none, none, none, none]) dX13_findBest_1 (Nat.le_of_ble_eq_true rfl) rfl (s_iconst (pc := 2) dX13_findBest_2 ci_0 (s_istore (pc := 3) (L1 := [some (.ref p0), some (.int p1), some (.int p2), some (.int 0), some (.int 0), none, none, none, none]) dX13_findBest_3 (Nat.le_of_ble_eq_true rfl) rfl (Exists.elim h (fun n54 hn => s_sel (L1 := [some (.ref p0), some (.int p1), some (.int p2), some (.int 0), some (.int 0), none, none, none, none]) [true, true, true, true, true, false, false, false, false] rfl (P_lp_X13_findBest_5 n54 p0 p1 p2 0 0 M hn))))))))
/-! X13_best -/
theorem dX13_best_0 : cod mX13_best 0 (.aload_n 0) 1 := by decide +kernel
theorem dX13_best_1 : cod mX13_best 1 (.iconst 0) 1 := by decide +kernel
theorem dX13_best_2 : cod mX13_best 2 (.putfield 115) 3 := by decide +kernel
theorem dX13_best_5 : cod mX13_best 5 (.iload_n 1) 1 := by decide +kernel
theorem dX13_best_6 : cod mX13_best 6 (.i2l) 1 := by decide +kernel
theorem dX13_best_7 : cod mX13_best 7 (.ldc2_w 339) 3 := by decide +kernel
theorem dX13_best_10 : cod mX13_best 10 (.ldc2_w 341) 3 := by decide +kernel
theorem dX13_best_13 : cod mX13_best 13 (.invokestatic 122) 3 := by decide +kernel
theorem dX13_best_16 : cod mX13_best 16 (.ifCond .eq 27) 3 := by decide +kernel
theorem dX13_best_19 : cod mX13_best 19 (.iload_n 2) 1 := by decide +kernel
theorem dX13_best_20 : cod mX13_best 20 (.i2l) 1 := by decide +kernel
theorem dX13_best_21 : cod mX13_best 21 (.lconst 1) 1 := by decide +kernel
theorem dX13_best_22 : cod mX13_best 22 (.ldc2_w 196) 3 := by decide +kernel
theorem dX13_best_25 : cod mX13_best 25 (.invokestatic 122) 3 := by decide +kernel
theorem dX13_best_28 : cod mX13_best 28 (.ifCond .eq 15) 3 := by decide +kernel
theorem dX13_best_31 : cod mX13_best 31 (.iload_n 3) 1 := by decide +kernel
theorem dX13_best_32 : cod mX13_best 32 (.i2l) 1 := by decide +kernel
theorem dX13_best_33 : cod mX13_best 33 (.lconst 0) 1 := by decide +kernel
theorem dX13_best_34 : cod mX13_best 34 (.ldc2_w 196) 3 := by decide +kernel
theorem dX13_best_37 : cod mX13_best 37 (.invokestatic 122) 3 := by decide +kernel
theorem dX13_best_40 : cod mX13_best 40 (.ifCond .ne 7) 3 := by decide +kernel
theorem dX13_best_43 : cod mX13_best 43 (.ldc2_w 244) 3 := by decide +kernel
theorem dX13_best_46 : cod mX13_best 46 (.lreturn) 1 := by decide +kernel
theorem dX13_best_47 : cod mX13_best 47 (.aload_n 0) 1 := by decide +kernel
theorem dX13_best_48 : cod mX13_best 48 (.invokevirtual 228) 3 := by decide +kernel
theorem dX13_best_51 : cod mX13_best 51 (.ifCond .ne 7) 3 := by decide +kernel
theorem dX13_best_54 : cod mX13_best 54 (.ldc2_w 246) 3 := by decide +kernel
theorem dX13_best_57 : cod mX13_best 57 (.lreturn) 1 := by decide +kernel
theorem dX13_best_58 : cod mX13_best 58 (.aload_n 0) 1 := by decide +kernel
theorem dX13_best_59 : cod mX13_best 59 (.iload_n 1) 1 := by decide +kernel
theorem dX13_best_60 : cod mX13_best 60 (.iload_n 2) 1 := by decide +kernel
theorem dX13_best_61 : cod mX13_best 61 (.invokevirtual 343) 3 := by decide +kernel
theorem dX13_best_64 : cod mX13_best 64 (.iload_n 3) 1 := by decide +kernel
theorem dX13_best_65 : cod mX13_best 65 (.ifCond .ne 11) 3 := by decide +kernel
theorem dX13_best_68 : cod mX13_best 68 (.aload_n 0) 1 := by decide +kernel
theorem dX13_best_69 : cod mX13_best 69 (.getfield 333) 3 := by decide +kernel
theorem dX13_best_72 : cod mX13_best 72 (.i2l) 1 := by decide +kernel
theorem dX13_best_73 : cod mX13_best 73 (.goto 20) 3 := by decide +kernel
theorem dX13_best_76 : cod mX13_best 76 (.iload_n 3) 1 := by decide +kernel
theorem dX13_best_77 : cod mX13_best 77 (.iconst 1) 1 := by decide +kernel
theorem dX13_best_78 : cod mX13_best 78 (.if_icmp .ne 11) 3 := by decide +kernel
theorem dX13_best_81 : cod mX13_best 81 (.aload_n 0) 1 := by decide +kernel
theorem dX13_best_82 : cod mX13_best 82 (.getfield 336) 3 := by decide +kernel
theorem dX13_best_85 : cod mX13_best 85 (.i2l) 1 := by decide +kernel
theorem dX13_best_86 : cod mX13_best 86 (.goto 7) 3 := by decide +kernel
theorem dX13_best_89 : cod mX13_best 89 (.aload_n 0) 1 := by decide +kernel
theorem dX13_best_90 : cod mX13_best 90 (.getfield 330) 3 := by decide +kernel
theorem dX13_best_93 : cod mX13_best 93 (.lreturn) 1 := by decide +kernel
def wp_X13_best (p0 : Nat) (p1 : Int32) (p2 : Int32) (p3 : Int32) (M : Mem) (Q : Int64 → Mem → Prop) : Prop := mK M p0 = 14 ∧ ∀ M1 : Mem, M1 = uI M p0 12 0 → wp_X13_in p1.toInt64 10 50 M1 (fun r6 M5 => (r6 = (0 : Int32) → Q (-4000000000000000001) M5) ∧ (¬ r6 = (0 : Int32) → wp_X13_in p2.toInt64 1 2 M5 (fun r13 M12 => (r13 = (0 : Int32) → Q (-4000000000000000001) M12) ∧ (¬ r13 = (0 : Int32) → wp_X13_in p3.toInt64 0 2 M12 (fun r20 M19 => (¬ r20 = (0 : Int32) → mK M19 p0 = 14 ∧ wp_X13_isReady p0 M19 (fun r27 M26 => (¬ r27 = (0 : Int32) → mK M26 p0 = 14 ∧ wp_X13_findBest p0 p1 p2 M26 (fun M33 => (¬ p3 = (0 : Int32) → (¬ p3 = (1 : Int32) → mK M33 p0 = 14 ∧ Q (mJ M33 p0 40) M33) ∧ (p3 = (1 : Int32) → mK M33 p0 = 14 ∧ Q ((mI M33 p0 39).toInt64) M33)) ∧ (p3 = (0 : Int32) → mK M33 p0 = 14 ∧ Q ((mI M33 p0 38).toInt64) M33))) ∧ (r27 = (0 : Int32) → Q (-4000000000000000003) M26))) ∧ (r20 = (0 : Int32) → Q (-4000000000000000001) M19))))))
theorem T_X13_best {G : GG} {Q : Int64 → Mem → Prop} {M : Mem} {p0 : Nat} {p1 : Int32} {p2 : Int32} {p3 : Int32} (h : wp_X13_best p0 p1 p2 p3 M Q) : PMet G mX13_best 6 0 0 [.ref p0, .int p1, .int p2, .int p3] M (QJ Q) :=
  mk_met (by decide) rfl rfl (by
    intro w hw x9 e9
    subst e9
    simp at hw) (Nat.le_of_ble_eq_true rfl) (s_pad (L1 := [some (.ref p0), some (.int p1), some (.int p2), some (.int p3)]) 4 rfl (s_aload_n (pc := 0) dX13_best_0 rfl (s_iconst (pc := 1) dX13_best_1 ci_0 (s_putI (pc := 2) dX13_best_2 f_X13_115 (Or.inl rfl) (Or.inl rfl) h.1 (nmM (fun M1 e2 => have h3 := h.2 M1 e2; s_iload_n (pc := 5) dX13_best_5 rfl (s_i2l (pc := 6) dX13_best_6 (s_ldc2 (pc := 7) dX13_best_7 k_X13_339 (s_ldc2 (pc := 10) dX13_best_10 k_X13_341 (s_callS (pc := 13) (As := [.long p1.toInt64, .long 10, .long 50]) (rest := []) (d' := 0) (mc' := 0) (ms' := 0) dX13_best_13 c_X13_122 rfl rfl (Nat.le_of_ble_eq_true rfl) (rm_ok rfl rfl) ⟨Nat.le_refl 0, Nat.le_refl 0⟩ (T_X13_in h3) (kkI (fun r6 M5 h4 => s_if_eq (pc := 16) (tgt := 43) dX13_best_16 rfl (fun c7 => have h8 := h4.1 c7; s_ldc2 (pc := 43) dX13_best_43 k_X13_244 (s_lreturn (pc := 46) dX13_best_46 rfl (Nat.zero_le _) (Nat.zero_le _) ⟨_, rfl, h8⟩)) (fun c9 => have h10 := h4.2 c9; s_iload_n (pc := 19) dX13_best_19 rfl (s_i2l (pc := 20) dX13_best_20 (s_lconst (pc := 21) (v := 1) dX13_best_21 rfl (s_ldc2 (pc := 22) dX13_best_22 k_X13_196 (s_callS (pc := 25) (As := [.long p2.toInt64, .long 1, .long 2]) (rest := []) (d' := 0) (mc' := 0) (ms' := 0) dX13_best_25 c_X13_122 rfl rfl (Nat.le_of_ble_eq_true rfl) (rm_ok rfl rfl) ⟨Nat.le_refl 0, Nat.le_refl 0⟩ (T_X13_in h10) (kkI (fun r13 M12 h11 => s_if_eq (pc := 28) (tgt := 43) dX13_best_28 rfl (fun c14 => have h15 := h11.1 c14; s_ldc2 (pc := 43) dX13_best_43 k_X13_244 (s_lreturn (pc := 46) dX13_best_46 rfl (Nat.zero_le _) (Nat.zero_le _) ⟨_, rfl, h15⟩)) (fun c16 => have h17 := h11.2 c16; s_iload_n (pc := 31) dX13_best_31 rfl (s_i2l (pc := 32) dX13_best_32 (s_lconst (pc := 33) (v := 0) dX13_best_33 rfl (s_ldc2 (pc := 34) dX13_best_34 k_X13_196 (s_callS (pc := 37) (As := [.long p3.toInt64, .long 0, .long 2]) (rest := []) (d' := 0) (mc' := 0) (ms' := 0) dX13_best_37 c_X13_122 rfl rfl (Nat.le_of_ble_eq_true rfl) (rm_ok rfl rfl) ⟨Nat.le_refl 0, Nat.le_refl 0⟩ (T_X13_in h17) (kkI (fun r20 M19 h18 => s_if_ne (pc := 40) (tgt := 47) dX13_best_40 rfl (fun c21 => have h22 := h18.1 c21; s_aload_n (pc := 47) dX13_best_47 rfl (s_callV (pc := 48) (As := []) (rest := []) (d' := 1) (mc' := 0) (ms' := 0) dX13_best_48 c_X13_228 (Nat.le_of_ble_eq_true rfl) rfl h22.1 rfl rfl (Nat.le_of_ble_eq_true rfl) (rm_ok rfl rfl) ⟨Nat.le_refl 0, Nat.le_refl 0⟩ (T_X13_isReady h22.2) (kkI (fun r27 M26 h25 => s_if_ne (pc := 51) (tgt := 58) dX13_best_51 rfl (fun c28 => have h29 := h25.1 c28; s_aload_n (pc := 58) dX13_best_58 rfl (s_iload_n (pc := 59) dX13_best_59 rfl (s_iload_n (pc := 60) dX13_best_60 rfl (s_callV (pc := 61) (As := [.int p1, .int p2]) (rest := []) (d' := 5) (mc' := 0) (ms' := 0) dX13_best_61 c_X13_343 (Nat.le_of_ble_eq_true rfl) rfl h29.1 rfl rfl (Nat.le_of_ble_eq_true rfl) (rm_ok rfl rfl) ⟨Nat.le_refl 0, Nat.le_refl 0⟩ (T_X13_findBest h29.2) (kkV (fun M33 h32 => s_iload_n (pc := 64) dX13_best_64 rfl (s_if_ne (pc := 65) (tgt := 76) dX13_best_65 rfl (fun c34 => have h35 := h32.1 c34; s_iload_n (pc := 76) dX13_best_76 rfl (s_iconst (pc := 77) dX13_best_77 ci_1 (s_icmp_ne (pc := 78) (tgt := 89) dX13_best_78 rfl (fun c38 => have h39 := h35.1 c38; s_aload_n (pc := 89) dX13_best_89 rfl (s_getJ (pc := 90) dX13_best_90 f_X13_330 rfl h39.1 (s_lreturn (pc := 93) dX13_best_93 rfl (Nat.zero_le _) (Nat.zero_le _) ⟨_, rfl, h39.2⟩))) (fun c40 => have h41 := h35.2 c40; s_aload_n (pc := 81) dX13_best_81 rfl (s_getI (pc := 82) dX13_best_82 f_X13_336 rfl h41.1 (s_i2l (pc := 85) dX13_best_85 (s_goto (pc := 86) (tgt := 93) dX13_best_86 rfl (s_lreturn (pc := 93) dX13_best_93 rfl (Nat.zero_le _) (Nat.zero_le _) ⟨_, rfl, h41.2⟩)))))))) (fun c36 => have h37 := h32.2 c36; s_aload_n (pc := 68) dX13_best_68 rfl (s_getI (pc := 69) dX13_best_69 f_X13_333 rfl h37.1 (s_i2l (pc := 72) dX13_best_72 (s_goto (pc := 73) (tgt := 93) dX13_best_73 rfl (s_lreturn (pc := 93) dX13_best_93 rfl (Nat.zero_le _) (Nat.zero_le _) ⟨_, rfl, h37.2⟩)))))))))))) (fun c30 => have h31 := h25.2 c30; s_ldc2 (pc := 54) dX13_best_54 k_X13_246 (s_lreturn (pc := 57) dX13_best_57 rfl (Nat.zero_le _) (Nat.zero_le _) ⟨_, rfl, h31⟩)))))) (fun c23 => have h24 := h18.2 c23; s_ldc2 (pc := 43) dX13_best_43 k_X13_244 (s_lreturn (pc := 46) dX13_best_46 rfl (Nat.zero_le _) (Nat.zero_le _) ⟨_, rfl, h24⟩))))))))))))))))))))))))))))
/-! X13_wrongRow -/
theorem dX13_wrongRow_0 : cod mX13_wrongRow 0 (.iload_n 1) 1 := by decide +kernel
theorem dX13_wrongRow_1 : cod mX13_wrongRow 1 (.i2l) 1 := by decide +kernel
theorem dX13_wrongRow_2 : cod mX13_wrongRow 2 (.lconst 0) 1 := by decide +kernel
theorem dX13_wrongRow_3 : cod mX13_wrongRow 3 (.ldc2_w 273) 3 := by decide +kernel
theorem dX13_wrongRow_6 : cod mX13_wrongRow 6 (.invokestatic 122) 3 := by decide +kernel
theorem dX13_wrongRow_9 : cod mX13_wrongRow 9 (.ifCond .ne 7) 3 := by decide +kernel
theorem dX13_wrongRow_12 : cod mX13_wrongRow 12 (.iconst (-1)) 1 := by decide +kernel
theorem dX13_wrongRow_13 : cod mX13_wrongRow 13 (.goto 33) 3 := by decide +kernel
theorem dX13_wrongRow_16 : cod mX13_wrongRow 16 (.aload_n 0) 1 := by decide +kernel
theorem dX13_wrongRow_17 : cod mX13_wrongRow 17 (.getfield 94) 3 := by decide +kernel
theorem dX13_wrongRow_20 : cod mX13_wrongRow 20 (.iload_n 1) 1 := by decide +kernel
theorem dX13_wrongRow_21 : cod mX13_wrongRow 21 (.iaload) 1 := by decide +kernel
theorem dX13_wrongRow_22 : cod mX13_wrongRow 22 (.ifCond .ne 8) 3 := by decide +kernel
theorem dX13_wrongRow_25 : cod mX13_wrongRow 25 (.bipush (-11)) 2 := by decide +kernel
theorem dX13_wrongRow_27 : cod mX13_wrongRow 27 (.goto 19) 3 := by decide +kernel
theorem dX13_wrongRow_30 : cod mX13_wrongRow 30 (.aload_n 0) 1 := by decide +kernel
theorem dX13_wrongRow_31 : cod mX13_wrongRow 31 (.getfield 94) 3 := by decide +kernel
theorem dX13_wrongRow_34 : cod mX13_wrongRow 34 (.iload_n 1) 1 := by decide +kernel
theorem dX13_wrongRow_35 : cod mX13_wrongRow 35 (.iaload) 1 := by decide +kernel
theorem dX13_wrongRow_36 : cod mX13_wrongRow 36 (.iconst 2) 1 := by decide +kernel
theorem dX13_wrongRow_37 : cod mX13_wrongRow 37 (.if_icmp .eq 8) 3 := by decide +kernel
theorem dX13_wrongRow_40 : cod mX13_wrongRow 40 (.bipush (-12)) 2 := by decide +kernel
theorem dX13_wrongRow_42 : cod mX13_wrongRow 42 (.goto 4) 3 := by decide +kernel
theorem dX13_wrongRow_45 : cod mX13_wrongRow 45 (.iconst 0) 1 := by decide +kernel
theorem dX13_wrongRow_46 : cod mX13_wrongRow 46 (.ireturn) 1 := by decide +kernel
def wp_X13_wrongRow (p0 : Nat) (p1 : Int32) (M : Mem) (Q : Int32 → Mem → Prop) : Prop := wp_X13_in p1.toInt64 0 7 M (fun r3 M2 => (¬ r3 = (0 : Int32) → mK M2 p0 = 14 ∧ mK M2 (mR M2 p0 49) = 20 ∧ vp_in p1 (mN M2 (mR M2 p0 49)) ∧ (¬ (mI M2 (mR M2 p0 49) p1.toNatClampNeg) = (0 : Int32) → vp_in p1 (mN M2 (mR M2 p0 49)) ∧ ((mI M2 (mR M2 p0 49) p1.toNatClampNeg) = (2 : Int32) → Q 0 M2) ∧ (¬ (mI M2 (mR M2 p0 49) p1.toNatClampNeg) = (2 : Int32) → Q (-12) M2)) ∧ ((mI M2 (mR M2 p0 49) p1.toNatClampNeg) = (0 : Int32) → Q (-11) M2)) ∧ (r3 = (0 : Int32) → Q (-1) M2))
theorem T_X13_wrongRow {G : GG} {Q : Int32 → Mem → Prop} {M : Mem} {p0 : Nat} {p1 : Int32} (h : wp_X13_wrongRow p0 p1 M Q) : PMet G mX13_wrongRow 1 0 0 [.ref p0, .int p1] M (QI Q) :=
  mk_met (by decide) rfl rfl (by
    intro w hw x9 e9
    subst e9
    simp at hw) (Nat.le_of_ble_eq_true rfl) (s_pad (L1 := [some (.ref p0), some (.int p1)]) 2 rfl (s_iload_n (pc := 0) dX13_wrongRow_0 rfl (s_i2l (pc := 1) dX13_wrongRow_1 (s_lconst (pc := 2) (v := 0) dX13_wrongRow_2 rfl (s_ldc2 (pc := 3) dX13_wrongRow_3 k_X13_273 (s_callS (pc := 6) (As := [.long p1.toInt64, .long 0, .long 7]) (rest := []) (d' := 0) (mc' := 0) (ms' := 0) dX13_wrongRow_6 c_X13_122 rfl rfl (Nat.le_of_ble_eq_true rfl) (rm_ok rfl rfl) ⟨Nat.le_refl 0, Nat.le_refl 0⟩ (T_X13_in h) (kkI (fun r3 M2 h1 => s_if_ne (pc := 9) (tgt := 16) dX13_wrongRow_9 rfl (fun c4 => have h5 := h1.1 c4; s_aload_n (pc := 16) dX13_wrongRow_16 rfl (s_getR (pc := 17) dX13_wrongRow_17 f_X13_94 rfl h5.1 (s_iload_n (pc := 20) dX13_wrongRow_20 rfl (s_ial (pc := 21) dX13_wrongRow_21 h5.2.1 h5.2.2.1 (s_if_ne (pc := 22) (tgt := 30) dX13_wrongRow_22 rfl (fun c8 => have h9 := h5.2.2.2.1 c8; s_aload_n (pc := 30) dX13_wrongRow_30 rfl (s_getR (pc := 31) dX13_wrongRow_31 f_X13_94 rfl h5.1 (s_iload_n (pc := 34) dX13_wrongRow_34 rfl (s_ial (pc := 35) dX13_wrongRow_35 h5.2.1 h9.1 (s_iconst (pc := 36) dX13_wrongRow_36 ci_2 (s_icmp_eq (pc := 37) (tgt := 45) dX13_wrongRow_37 rfl (fun c12 => have h13 := h9.2.1 c12; s_iconst (pc := 45) dX13_wrongRow_45 ci_0 (s_ireturn (pc := 46) dX13_wrongRow_46 rfl (Nat.zero_le _) (Nat.zero_le _) ⟨_, rfl, h13⟩)) (fun c14 => have h15 := h9.2.2 c14; s_bipush (pc := 40) dX13_wrongRow_40 cb_m12 (s_goto (pc := 42) (tgt := 46) dX13_wrongRow_42 rfl (s_ireturn (pc := 46) dX13_wrongRow_46 rfl (Nat.zero_le _) (Nat.zero_le _) ⟨_, rfl, h15⟩))))))))) (fun c10 => have h11 := h5.2.2.2.2 c10; s_bipush (pc := 25) dX13_wrongRow_25 cb_m11 (s_goto (pc := 27) (tgt := 46) dX13_wrongRow_27 rfl (s_ireturn (pc := 46) dX13_wrongRow_46 rfl (Nat.zero_le _) (Nat.zero_le _) ⟨_, rfl, h11⟩)))))))) (fun c6 => have h7 := h1.2 c6; s_iconst (pc := 12) dX13_wrongRow_12 ci_m1 (s_goto (pc := 13) (tgt := 46) dX13_wrongRow_13 rfl (s_ireturn (pc := 46) dX13_wrongRow_46 rfl (Nat.zero_le _) (Nat.zero_le _) ⟨_, rfl, h7⟩)))))))))))
/-! X13_findChanceMean -/
theorem dX13_findChanceMean_0 : cod mX13_findChanceMean 0 (.iconst 0) 1 := by decide +kernel
theorem dX13_findChanceMean_1 : cod mX13_findChanceMean 1 (.istore_n 1) 1 := by decide +kernel
theorem dX13_findChanceMean_2 : cod mX13_findChanceMean 2 (.iconst 0) 1 := by decide +kernel
theorem dX13_findChanceMean_3 : cod mX13_findChanceMean 3 (.istore_n 2) 1 := by decide +kernel
theorem dX13_findChanceMean_4 : cod mX13_findChanceMean 4 (.iload_n 2) 1 := by decide +kernel
theorem dX13_findChanceMean_5 : cod mX13_findChanceMean 5 (.aload_n 0) 1 := by decide +kernel
theorem dX13_findChanceMean_6 : cod mX13_findChanceMean 6 (.getfield 119) 3 := by decide +kernel
theorem dX13_findChanceMean_9 : cod mX13_findChanceMean 9 (.if_icmp .ge 25) 3 := by decide +kernel
theorem dX13_findChanceMean_12 : cod mX13_findChanceMean 12 (.iload_n 1) 1 := by decide +kernel
theorem dX13_findChanceMean_13 : cod mX13_findChanceMean 13 (.aload_n 0) 1 := by decide +kernel
theorem dX13_findChanceMean_14 : cod mX13_findChanceMean 14 (.getfield 7) 3 := by decide +kernel
theorem dX13_findChanceMean_17 : cod mX13_findChanceMean 17 (.iload_n 2) 1 := by decide +kernel
theorem dX13_findChanceMean_18 : cod mX13_findChanceMean 18 (.iaload) 1 := by decide +kernel
theorem dX13_findChanceMean_19 : cod mX13_findChanceMean 19 (.aload_n 0) 1 := by decide +kernel
theorem dX13_findChanceMean_20 : cod mX13_findChanceMean 20 (.getfield 13) 3 := by decide +kernel
theorem dX13_findChanceMean_23 : cod mX13_findChanceMean 23 (.iload_n 2) 1 := by decide +kernel
theorem dX13_findChanceMean_24 : cod mX13_findChanceMean 24 (.iaload) 1 := by decide +kernel
theorem dX13_findChanceMean_25 : cod mX13_findChanceMean 25 (.imul) 1 := by decide +kernel
theorem dX13_findChanceMean_26 : cod mX13_findChanceMean 26 (.iadd) 1 := by decide +kernel
theorem dX13_findChanceMean_27 : cod mX13_findChanceMean 27 (.istore_n 1) 1 := by decide +kernel
theorem dX13_findChanceMean_28 : cod mX13_findChanceMean 28 (.iinc 2 1) 3 := by decide +kernel
theorem dX13_findChanceMean_31 : cod mX13_findChanceMean 31 (.goto (-27)) 3 := by decide +kernel
theorem dX13_findChanceMean_34 : cod mX13_findChanceMean 34 (.aload_n 0) 1 := by decide +kernel
theorem dX13_findChanceMean_35 : cod mX13_findChanceMean 35 (.iload_n 1) 1 := by decide +kernel
theorem dX13_findChanceMean_36 : cod mX13_findChanceMean 36 (.bipush 100) 2 := by decide +kernel
theorem dX13_findChanceMean_38 : cod mX13_findChanceMean 38 (.idiv) 1 := by decide +kernel
theorem dX13_findChanceMean_39 : cod mX13_findChanceMean 39 (.putfield 261) 3 := by decide +kernel
theorem dX13_findChanceMean_42 : cod mX13_findChanceMean 42 (.return_) 1 := by decide +kernel
def lp_X13_findChanceMean_4 (Q : Mem → Prop) : Nat → Nat → Int32 → Int32 → Mem → Prop
  | 0 => fun _ _ _ _ => False
  | n + 1 => fun x0 x1 x2 M => mK M x0 = 14 ∧ ((mI M x0 0) ≤ x2 → ∀ M5 : Mem, M5 = uI M x0 26 (x1 / 100) → Q M5) ∧ (¬ (mI M x0 0) ≤ x2 → mK M (mR M x0 1) = 20 ∧ vp_in x2 (mN M (mR M x0 1)) ∧ mK M (mR M x0 2) = 20 ∧ vp_in x2 (mN M (mR M x0 2)) ∧ ∀ y8 : Int32, y8 = x1 + ((mI M (mR M x0 1) x2.toNatClampNeg) * (mI M (mR M x0 2) x2.toNatClampNeg)) → (lp_X13_findChanceMean_4 Q n) x0 y8 (x2 + 1) M)
theorem P_lp_X13_findChanceMean_4 {G : GG} {Q : Mem → Prop} : ∀ (n : Nat) (x0 : Nat) (x1 : Int32) (x2 : Int32) (M : Mem), lp_X13_findChanceMean_4 Q n x0 x1 x2 M → PW G mX13_findChanceMean (rmD 0 0 0) (QV Q) 4 [some (.ref x0), some (.int x1), some (.int x2)] [] M 0 0 := by
  intro n
  induction n with
  | zero => intro x0 x1 x2 M h; exact h.elim
  | succ n ih =>
    intro x0 x1 x2 M h
    exact (s_iload_n (pc := 4) dX13_findChanceMean_4 rfl (s_aload_n (pc := 5) dX13_findChanceMean_5 rfl (s_getI (pc := 6) dX13_findChanceMean_6 f_X13_119 rfl h.1 (s_icmp_ge (pc := 9) (tgt := 34) dX13_findChanceMean_9 rfl (fun c1 => have h2 := h.2.1 c1; s_aload_n (pc := 34) dX13_findChanceMean_34 rfl (s_iload_n (pc := 35) dX13_findChanceMean_35 rfl (s_bipush (pc := 36) dX13_findChanceMean_36 cb_100 (s_idiv (pc := 38) dX13_findChanceMean_38 (by decide) (s_putI (pc := 39) dX13_findChanceMean_39 f_X13_261 (Or.inl rfl) (Or.inl rfl) h.1 (nmM (fun M5 e6 => have h7 := h2 M5 e6; s_return (pc := 42) dX13_findChanceMean_42 rfl (Nat.zero_le _) (Nat.zero_le _) ⟨rfl, h7⟩))))))) (fun c3 => have h4 := h.2.2 c3; s_iload_n (pc := 12) dX13_findChanceMean_12 rfl (s_aload_n (pc := 13) dX13_findChanceMean_13 rfl (s_getR (pc := 14) dX13_findChanceMean_14 f_X13_7 rfl h.1 (s_iload_n (pc := 17) dX13_findChanceMean_17 rfl (s_ial (pc := 18) dX13_findChanceMean_18 h4.1 h4.2.1 (s_aload_n (pc := 19) dX13_findChanceMean_19 rfl (s_getR (pc := 20) dX13_findChanceMean_20 f_X13_13 rfl h.1 (s_iload_n (pc := 23) dX13_findChanceMean_23 rfl (s_ial (pc := 24) dX13_findChanceMean_24 h4.2.2.1 h4.2.2.2.1 (s_imul (pc := 25) dX13_findChanceMean_25 (s_iadd (pc := 26) dX13_findChanceMean_26 (nmI (fun y8 e9 => have h10 := h4.2.2.2.2 y8 e9; s_istore_n (pc := 27) (L1 := [some (.ref x0), some (.int y8), some (.int x2)]) dX13_findChanceMean_27 (Nat.le_of_ble_eq_true rfl) rfl (s_iinc (pc := 28) (L1 := [some (.ref x0), some (.int y8), some (.int (x2 + 1))]) dX13_findChanceMean_28 rfl ci_1 (Nat.le_of_ble_eq_true rfl) rfl (s_goto (pc := 31) (tgt := 4) dX13_findChanceMean_31 rfl (s_sel (L1 := [some (.ref x0), some (.int y8), some (.int (x2 + 1))]) [true, true, true] rfl (ih x0 y8 (x2 + 1) M h10)))))))))))))))))))))
def wp_X13_findChanceMean (p0 : Nat) (M : Mem) (Q : Mem → Prop) : Prop := ∃ n11 : Nat, lp_X13_findChanceMean_4 Q n11 p0 0 0 M
theorem T_X13_findChanceMean {G : GG} {Q : Mem → Prop} {M : Mem} {p0 : Nat} (h : wp_X13_findChanceMean p0 M Q) : PMet G mX13_findChanceMean 0 0 0 [.ref p0] M (QV Q) :=
  mk_met (by decide) rfl rfl (by
    intro w hw x9 e9
    subst e9
    simp at hw) (Nat.le_of_ble_eq_true rfl) (s_pad (L1 := [some (.ref p0), none, none]) 3 rfl (s_iconst (pc := 0) dX13_findChanceMean_0 ci_0 (s_istore_n (pc := 1) (L1 := [some (.ref p0), some (.int 0), none]) dX13_findChanceMean_1 (Nat.le_of_ble_eq_true rfl) rfl (s_iconst (pc := 2) dX13_findChanceMean_2 ci_0 (s_istore_n (pc := 3) (L1 := [some (.ref p0), some (.int 0), some (.int 0)]) dX13_findChanceMean_3 (Nat.le_of_ble_eq_true rfl) rfl (Exists.elim h (fun n11 hn => s_sel (L1 := [some (.ref p0), some (.int 0), some (.int 0)]) [true, true, true] rfl (P_lp_X13_findChanceMean_4 n11 p0 0 0 M hn))))))))
/-! X13_mindFrom -/
theorem dX13_mindFrom_0 : cod mX13_mindFrom 0 (.iconst 0) 1 := by decide +kernel
theorem dX13_mindFrom_1 : cod mX13_mindFrom 1 (.istore_n 2) 1 := by decide +kernel
theorem dX13_mindFrom_2 : cod mX13_mindFrom 2 (.iload_n 2) 1 := by decide +kernel
theorem dX13_mindFrom_3 : cod mX13_mindFrom 3 (.aload_n 0) 1 := by decide +kernel
theorem dX13_mindFrom_4 : cod mX13_mindFrom 4 (.getfield 119) 3 := by decide +kernel
theorem dX13_mindFrom_7 : cod mX13_mindFrom 7 (.if_icmp .ge 26) 3 := by decide +kernel
theorem dX13_mindFrom_10 : cod mX13_mindFrom 10 (.aload_n 0) 1 := by decide +kernel
theorem dX13_mindFrom_11 : cod mX13_mindFrom 11 (.getfield 51) 3 := by decide +kernel
theorem dX13_mindFrom_14 : cod mX13_mindFrom 14 (.iload_n 2) 1 := by decide +kernel
theorem dX13_mindFrom_15 : cod mX13_mindFrom 15 (.aload_n 0) 1 := by decide +kernel
theorem dX13_mindFrom_16 : cod mX13_mindFrom 16 (.getfield 54) 3 := by decide +kernel
theorem dX13_mindFrom_19 : cod mX13_mindFrom 19 (.bipush 6) 2 := by decide +kernel
theorem dX13_mindFrom_21 : cod mX13_mindFrom 21 (.iload_n 1) 1 := by decide +kernel
theorem dX13_mindFrom_22 : cod mX13_mindFrom 22 (.imul) 1 := by decide +kernel
theorem dX13_mindFrom_23 : cod mX13_mindFrom 23 (.iload_n 2) 1 := by decide +kernel
theorem dX13_mindFrom_24 : cod mX13_mindFrom 24 (.iadd) 1 := by decide +kernel
theorem dX13_mindFrom_25 : cod mX13_mindFrom 25 (.laload) 1 := by decide +kernel
theorem dX13_mindFrom_26 : cod mX13_mindFrom 26 (.lastore) 1 := by decide +kernel
theorem dX13_mindFrom_27 : cod mX13_mindFrom 27 (.iinc 2 1) 3 := by decide +kernel
theorem dX13_mindFrom_30 : cod mX13_mindFrom 30 (.goto (-28)) 3 := by decide +kernel
theorem dX13_mindFrom_33 : cod mX13_mindFrom 33 (.return_) 1 := by decide +kernel
def lp_X13_mindFrom_2 (Q : Mem → Prop) : Nat → Nat → Int32 → Int32 → Mem → Prop
  | 0 => fun _ _ _ _ => False
  | n + 1 => fun x0 x1 x2 M => mK M x0 = 14 ∧ ((mI M x0 0) ≤ x2 → Q M) ∧ (¬ (mI M x0 0) ≤ x2 → mK M (mR M x0 27) = 21 ∧ vp_in ((6 * x1) + x2) (mN M (mR M x0 27)) ∧ mK M (mR M x0 23) = 21 ∧ vp_in x2 (mN M (mR M x0 23)) ∧ ∀ M5 : Mem, M5 = uJ M (mR M x0 23) x2.toNatClampNeg (mJ M (mR M x0 27) ((6 * x1) + x2).toNatClampNeg) → (lp_X13_mindFrom_2 Q n) x0 x1 (x2 + 1) M5)
theorem P_lp_X13_mindFrom_2 {G : GG} {Q : Mem → Prop} : ∀ (n : Nat) (x0 : Nat) (x1 : Int32) (x2 : Int32) (M : Mem), lp_X13_mindFrom_2 Q n x0 x1 x2 M → PW G mX13_mindFrom (rmD 0 0 0) (QV Q) 2 [some (.ref x0), some (.int x1), some (.int x2)] [] M 0 0 := by
  intro n
  induction n with
  | zero => intro x0 x1 x2 M h; exact h.elim
  | succ n ih =>
    intro x0 x1 x2 M h
    exact (s_iload_n (pc := 2) dX13_mindFrom_2 rfl (s_aload_n (pc := 3) dX13_mindFrom_3 rfl (s_getI (pc := 4) dX13_mindFrom_4 f_X13_119 rfl h.1 (s_icmp_ge (pc := 7) (tgt := 33) dX13_mindFrom_7 rfl (fun c1 => have h2 := h.2.1 c1; s_return (pc := 33) dX13_mindFrom_33 rfl (Nat.zero_le _) (Nat.zero_le _) ⟨rfl, h2⟩) (fun c3 => have h4 := h.2.2 c3; s_aload_n (pc := 10) dX13_mindFrom_10 rfl (s_getR (pc := 11) dX13_mindFrom_11 f_X13_51 rfl h.1 (s_iload_n (pc := 14) dX13_mindFrom_14 rfl (s_aload_n (pc := 15) dX13_mindFrom_15 rfl (s_getR (pc := 16) dX13_mindFrom_16 f_X13_54 rfl h.1 (s_bipush (pc := 19) dX13_mindFrom_19 cb_6 (s_iload_n (pc := 21) dX13_mindFrom_21 rfl (s_imul (pc := 22) dX13_mindFrom_22 (s_iload_n (pc := 23) dX13_mindFrom_23 rfl (s_iadd (pc := 24) dX13_mindFrom_24 (s_lal (pc := 25) dX13_mindFrom_25 h4.1 h4.2.1 (s_las (pc := 26) dX13_mindFrom_26 h4.2.2.1 h4.2.2.2.1 (nmM (fun M5 e6 => have h7 := (h4.2.2.2.2) M5 e6; s_iinc (pc := 27) (L1 := [some (.ref x0), some (.int x1), some (.int (x2 + 1))]) dX13_mindFrom_27 rfl ci_1 (Nat.le_of_ble_eq_true rfl) rfl (s_goto (pc := 30) (tgt := 2) dX13_mindFrom_30 rfl (s_sel (L1 := [some (.ref x0), some (.int x1), some (.int (x2 + 1))]) [true, true, true] rfl (ih x0 x1 (x2 + 1) M5 h7)))))))))))))))))))))
def wp_X13_mindFrom (p0 : Nat) (p1 : Int32) (M : Mem) (Q : Mem → Prop) : Prop := ∃ n8 : Nat, lp_X13_mindFrom_2 Q n8 p0 p1 0 M
theorem T_X13_mindFrom {G : GG} {Q : Mem → Prop} {M : Mem} {p0 : Nat} {p1 : Int32} (h : wp_X13_mindFrom p0 p1 M Q) : PMet G mX13_mindFrom 0 0 0 [.ref p0, .int p1] M (QV Q) :=
  mk_met (by decide) rfl rfl (by
    intro w hw x9 e9
    subst e9
    simp at hw) (Nat.le_of_ble_eq_true rfl) (s_pad (L1 := [some (.ref p0), some (.int p1), none]) 3 rfl (s_iconst (pc := 0) dX13_mindFrom_0 ci_0 (s_istore_n (pc := 1) (L1 := [some (.ref p0), some (.int p1), some (.int 0)]) dX13_mindFrom_1 (Nat.le_of_ble_eq_true rfl) rfl (Exists.elim h (fun n8 hn => s_sel (L1 := [some (.ref p0), some (.int p1), some (.int 0)]) [true, true, true] rfl (P_lp_X13_mindFrom_2 n8 p0 p1 0 M hn))))))
/-! X13_clamped -/
theorem dX13_clamped_0 : cod mX13_clamped 0 (.iload_n 0) 1 := by decide +kernel
theorem dX13_clamped_1 : cod mX13_clamped 1 (.ifCond .ge 7) 3 := by decide +kernel
theorem dX13_clamped_4 : cod mX13_clamped 4 (.iconst 0) 1 := by decide +kernel
theorem dX13_clamped_5 : cod mX13_clamped 5 (.goto 15) 3 := by decide +kernel
theorem dX13_clamped_8 : cod mX13_clamped 8 (.iload_n 0) 1 := by decide +kernel
theorem dX13_clamped_9 : cod mX13_clamped 9 (.bipush 100) 2 := by decide +kernel
theorem dX13_clamped_11 : cod mX13_clamped 11 (.if_icmp .le 8) 3 := by decide +kernel
theorem dX13_clamped_14 : cod mX13_clamped 14 (.bipush 100) 2 := by decide +kernel
theorem dX13_clamped_16 : cod mX13_clamped 16 (.goto 4) 3 := by decide +kernel
theorem dX13_clamped_19 : cod mX13_clamped 19 (.iload_n 0) 1 := by decide +kernel
theorem dX13_clamped_20 : cod mX13_clamped 20 (.ireturn) 1 := by decide +kernel
def wp_X13_clamped (p0 : Int32) (M : Mem) (Q : Int32 → Mem → Prop) : Prop := ((0 : Int32) ≤ p0 → (p0 ≤ (100 : Int32) → Q p0 M) ∧ (¬ p0 ≤ (100 : Int32) → Q 100 M)) ∧ (¬ (0 : Int32) ≤ p0 → Q 0 M)
theorem T_X13_clamped {G : GG} {Q : Int32 → Mem → Prop} {M : Mem} {p0 : Int32} (h : wp_X13_clamped p0 M Q) : PMet G mX13_clamped 0 0 0 [.int p0] M (QI Q) :=
  mk_met (by decide) rfl rfl (by
    intro w hw x9 e9
    subst e9
    simp at hw) (Nat.le_of_ble_eq_true rfl) (s_pad (L1 := [some (.int p0)]) 1 rfl (s_iload_n (pc := 0) dX13_clamped_0 rfl (s_if_ge (pc := 1) (tgt := 8) dX13_clamped_1 rfl (fun c1 => have h2 := h.1 c1; s_iload_n (pc := 8) dX13_clamped_8 rfl (s_bipush (pc := 9) dX13_clamped_9 cb_100 (s_icmp_le (pc := 11) (tgt := 19) dX13_clamped_11 rfl (fun c5 => have h6 := h2.1 c5; s_iload_n (pc := 19) dX13_clamped_19 rfl (s_ireturn (pc := 20) dX13_clamped_20 rfl (Nat.zero_le _) (Nat.zero_le _) ⟨_, rfl, h6⟩)) (fun c7 => have h8 := h2.2 c7; s_bipush (pc := 14) dX13_clamped_14 cb_100 (s_goto (pc := 16) (tgt := 20) dX13_clamped_16 rfl (s_ireturn (pc := 20) dX13_clamped_20 rfl (Nat.zero_le _) (Nat.zero_le _) ⟨_, rfl, h8⟩)))))) (fun c3 => have h4 := h.2 c3; s_iconst (pc := 4) dX13_clamped_4 ci_0 (s_goto (pc := 5) (tgt := 20) dX13_clamped_5 rfl (s_ireturn (pc := 20) dX13_clamped_20 rfl (Nat.zero_le _) (Nat.zero_le _) ⟨_, rfl, h4⟩))))))
/-! X13_call -/
theorem dX13_call_0 : cod mX13_call 0 (.iconst 0) 1 := by decide +kernel
theorem dX13_call_1 : cod mX13_call 1 (.istore 4) 2 := by decide +kernel
theorem dX13_call_3 : cod mX13_call 3 (.bipush 100) 2 := by decide +kernel
theorem dX13_call_5 : cod mX13_call 5 (.istore 5) 2 := by decide +kernel
theorem dX13_call_7 : cod mX13_call 7 (.iload_n 1) 1 := by decide +kernel
theorem dX13_call_8 : cod mX13_call 8 (.iconst 3) 1 := by decide +kernel
theorem dX13_call_9 : cod mX13_call 9 (.if_icmp .ne 10) 3 := by decide +kernel
theorem dX13_call_12 : cod mX13_call 12 (.aload_n 0) 1 := by decide +kernel
theorem dX13_call_13 : cod mX13_call 13 (.invokevirtual 234) 3 := by decide +kernel
theorem dX13_call_16 : cod mX13_call 16 (.goto 7) 3 := by decide +kernel
theorem dX13_call_19 : cod mX13_call 19 (.aload_n 0) 1 := by decide +kernel
theorem dX13_call_20 : cod mX13_call 20 (.getfield 261) 3 := by decide +kernel
theorem dX13_call_23 : cod mX13_call 23 (.istore 6) 2 := by decide +kernel
theorem dX13_call_25 : cod mX13_call 25 (.iload_n 1) 1 := by decide +kernel
theorem dX13_call_26 : cod mX13_call 26 (.iconst 1) 1 := by decide +kernel
theorem dX13_call_27 : cod mX13_call 27 (.if_icmp .eq 13) 3 := by decide +kernel
theorem dX13_call_30 : cod mX13_call 30 (.iload_n 1) 1 := by decide +kernel
theorem dX13_call_31 : cod mX13_call 31 (.iconst 2) 1 := by decide +kernel
theorem dX13_call_32 : cod mX13_call 32 (.if_icmp .eq 8) 3 := by decide +kernel
theorem dX13_call_35 : cod mX13_call 35 (.iload_n 1) 1 := by decide +kernel
theorem dX13_call_36 : cod mX13_call 36 (.iconst 3) 1 := by decide +kernel
theorem dX13_call_37 : cod mX13_call 37 (.if_icmp .ne 35) 3 := by decide +kernel
theorem dX13_call_40 : cod mX13_call 40 (.iload_n 1) 1 := by decide +kernel
theorem dX13_call_41 : cod mX13_call 41 (.iconst 2) 1 := by decide +kernel
theorem dX13_call_42 : cod mX13_call 42 (.if_icmp .ne 7) 3 := by decide +kernel
theorem dX13_call_45 : cod mX13_call 45 (.iload_n 3) 1 := by decide +kernel
theorem dX13_call_46 : cod mX13_call 46 (.goto 4) 3 := by decide +kernel
theorem dX13_call_49 : cod mX13_call 49 (.iconst 0) 1 := by decide +kernel
theorem dX13_call_50 : cod mX13_call 50 (.istore 7) 2 := by decide +kernel
theorem dX13_call_52 : cod mX13_call 52 (.iload 6) 2 := by decide +kernel
theorem dX13_call_54 : cod mX13_call 54 (.iload_n 2) 1 := by decide +kernel
theorem dX13_call_55 : cod mX13_call 55 (.isub) 1 := by decide +kernel
theorem dX13_call_56 : cod mX13_call 56 (.iload 7) 2 := by decide +kernel
theorem dX13_call_58 : cod mX13_call 58 (.isub) 1 := by decide +kernel
theorem dX13_call_59 : cod mX13_call 59 (.istore 4) 2 := by decide +kernel
theorem dX13_call_61 : cod mX13_call 61 (.iload 6) 2 := by decide +kernel
theorem dX13_call_63 : cod mX13_call 63 (.iload_n 2) 1 := by decide +kernel
theorem dX13_call_64 : cod mX13_call 64 (.iadd) 1 := by decide +kernel
theorem dX13_call_65 : cod mX13_call 65 (.iconst 1) 1 := by decide +kernel
theorem dX13_call_66 : cod mX13_call 66 (.iadd) 1 := by decide +kernel
theorem dX13_call_67 : cod mX13_call 67 (.iload 7) 2 := by decide +kernel
theorem dX13_call_69 : cod mX13_call 69 (.isub) 1 := by decide +kernel
theorem dX13_call_70 : cod mX13_call 70 (.istore 5) 2 := by decide +kernel
theorem dX13_call_72 : cod mX13_call 72 (.iload_n 1) 1 := by decide +kernel
theorem dX13_call_73 : cod mX13_call 73 (.iconst 4) 1 := by decide +kernel
theorem dX13_call_74 : cod mX13_call 74 (.if_icmp .ne 46) 3 := by decide +kernel
theorem dX13_call_77 : cod mX13_call 77 (.aload_n 0) 1 := by decide +kernel
theorem dX13_call_78 : cod mX13_call 78 (.invokevirtual 255) 3 := by decide +kernel
theorem dX13_call_81 : cod mX13_call 81 (.istore 7) 2 := by decide +kernel
theorem dX13_call_83 : cod mX13_call 83 (.aload_n 0) 1 := by decide +kernel
theorem dX13_call_84 : cod mX13_call 84 (.invokevirtual 252) 3 := by decide +kernel
theorem dX13_call_87 : cod mX13_call 87 (.istore 8) 2 := by decide +kernel
theorem dX13_call_89 : cod mX13_call 89 (.iload 7) 2 := by decide +kernel
theorem dX13_call_91 : cod mX13_call 91 (.ifCond .ge 7) 3 := by decide +kernel
theorem dX13_call_94 : cod mX13_call 94 (.iconst 0) 1 := by decide +kernel
theorem dX13_call_95 : cod mX13_call 95 (.goto 5) 3 := by decide +kernel
theorem dX13_call_98 : cod mX13_call 98 (.iload 7) 2 := by decide +kernel
theorem dX13_call_100 : cod mX13_call 100 (.iload_n 2) 1 := by decide +kernel
theorem dX13_call_101 : cod mX13_call 101 (.isub) 1 := by decide +kernel
theorem dX13_call_102 : cod mX13_call 102 (.istore 4) 2 := by decide +kernel
theorem dX13_call_104 : cod mX13_call 104 (.iload 8) 2 := by decide +kernel
theorem dX13_call_106 : cod mX13_call 106 (.ifCond .ge 8) 3 := by decide +kernel
theorem dX13_call_109 : cod mX13_call 109 (.bipush 100) 2 := by decide +kernel
theorem dX13_call_111 : cod mX13_call 111 (.goto 5) 3 := by decide +kernel
theorem dX13_call_114 : cod mX13_call 114 (.iload 8) 2 := by decide +kernel
theorem dX13_call_116 : cod mX13_call 116 (.iload_n 2) 1 := by decide +kernel
theorem dX13_call_117 : cod mX13_call 117 (.iadd) 1 := by decide +kernel
theorem dX13_call_118 : cod mX13_call 118 (.istore 5) 2 := by decide +kernel
theorem dX13_call_120 : cod mX13_call 120 (.iload_n 1) 1 := by decide +kernel
theorem dX13_call_121 : cod mX13_call 121 (.iconst 5) 1 := by decide +kernel
theorem dX13_call_122 : cod mX13_call 122 (.if_icmp .ne 13) 3 := by decide +kernel
theorem dX13_call_125 : cod mX13_call 125 (.iload_n 2) 1 := by decide +kernel
theorem dX13_call_126 : cod mX13_call 126 (.istore 4) 2 := by decide +kernel
theorem dX13_call_128 : cod mX13_call 128 (.iconst 2) 1 := by decide +kernel
theorem dX13_call_129 : cod mX13_call 129 (.iload_n 2) 1 := by decide +kernel
theorem dX13_call_130 : cod mX13_call 130 (.imul) 1 := by decide +kernel
theorem dX13_call_131 : cod mX13_call 131 (.iconst 1) 1 := by decide +kernel
theorem dX13_call_132 : cod mX13_call 132 (.iadd) 1 := by decide +kernel
theorem dX13_call_133 : cod mX13_call 133 (.istore 5) 2 := by decide +kernel
theorem dX13_call_135 : cod mX13_call 135 (.aload_n 0) 1 := by decide +kernel
theorem dX13_call_136 : cod mX13_call 136 (.iload 4) 2 := by decide +kernel
theorem dX13_call_138 : cod mX13_call 138 (.invokestatic 264) 3 := by decide +kernel
theorem dX13_call_141 : cod mX13_call 141 (.putfield 267) 3 := by decide +kernel
theorem dX13_call_144 : cod mX13_call 144 (.aload_n 0) 1 := by decide +kernel
theorem dX13_call_145 : cod mX13_call 145 (.iload 5) 2 := by decide +kernel
theorem dX13_call_147 : cod mX13_call 147 (.invokestatic 264) 3 := by decide +kernel
theorem dX13_call_150 : cod mX13_call 150 (.putfield 270) 3 := by decide +kernel
theorem dX13_call_153 : cod mX13_call 153 (.aload_n 0) 1 := by decide +kernel
theorem dX13_call_154 : cod mX13_call 154 (.getfield 270) 3 := by decide +kernel
theorem dX13_call_157 : cod mX13_call 157 (.aload_n 0) 1 := by decide +kernel
theorem dX13_call_158 : cod mX13_call 158 (.getfield 267) 3 := by decide +kernel
theorem dX13_call_161 : cod mX13_call 161 (.if_icmp .gt 35) 3 := by decide +kernel
theorem dX13_call_164 : cod mX13_call 164 (.aload_n 0) 1 := by decide +kernel
theorem dX13_call_165 : cod mX13_call 165 (.aload_n 0) 1 := by decide +kernel
theorem dX13_call_166 : cod mX13_call 166 (.getfield 267) 3 := by decide +kernel
theorem dX13_call_169 : cod mX13_call 169 (.bipush 100) 2 := by decide +kernel
theorem dX13_call_171 : cod mX13_call 171 (.if_icmp .ne 8) 3 := by decide +kernel
theorem dX13_call_174 : cod mX13_call 174 (.bipush 99) 2 := by decide +kernel
theorem dX13_call_176 : cod mX13_call 176 (.goto 7) 3 := by decide +kernel
theorem dX13_call_179 : cod mX13_call 179 (.aload_n 0) 1 := by decide +kernel
theorem dX13_call_180 : cod mX13_call 180 (.getfield 267) 3 := by decide +kernel
theorem dX13_call_183 : cod mX13_call 183 (.putfield 267) 3 := by decide +kernel
theorem dX13_call_186 : cod mX13_call 186 (.aload_n 0) 1 := by decide +kernel
theorem dX13_call_187 : cod mX13_call 187 (.aload_n 0) 1 := by decide +kernel
theorem dX13_call_188 : cod mX13_call 188 (.getfield 267) 3 := by decide +kernel
theorem dX13_call_191 : cod mX13_call 191 (.iconst 1) 1 := by decide +kernel
theorem dX13_call_192 : cod mX13_call 192 (.iadd) 1 := by decide +kernel
theorem dX13_call_193 : cod mX13_call 193 (.putfield 270) 3 := by decide +kernel
theorem dX13_call_196 : cod mX13_call 196 (.return_) 1 := by decide +kernel
def jn_X13_call_183 (Q : Mem → Prop) (x0 : Nat) (s0 : Int32) (s1 : Nat) (M : Mem) : Prop := mK M s1 = 14 ∧ ∀ M47 : Mem, M47 = uI M s1 24 s0 → mK M47 x0 = 14 ∧ ∀ M50 : Mem, M50 = uI M47 x0 25 ((mI M47 x0 24) + 1) → Q M50
theorem P_jn_X13_call_183 {G : GG} {Q : Mem → Prop} (x0 : Nat) (s0 : Int32) (s1 : Nat) (M : Mem) (h : jn_X13_call_183 Q x0 s0 s1 M) : PW G mX13_call (rmD 3 0 0) (QV Q) 183 [some (.ref x0), none, none, none, none, none, none, none, none] [.int s0, .ref s1] M 0 0 := (s_putI (pc := 183) dX13_call_183 f_X13_267 (Or.inl rfl) (Or.inl rfl) h.1 (nmM (fun M47 e48 => have h49 := h.2 M47 e48; s_aload_n (pc := 186) dX13_call_186 rfl (s_aload_n (pc := 187) dX13_call_187 rfl (s_getI (pc := 188) dX13_call_188 f_X13_267 rfl h49.1 (s_iconst (pc := 191) dX13_call_191 ci_1 (s_iadd (pc := 192) dX13_call_192 (s_putI (pc := 193) dX13_call_193 f_X13_270 (Or.inl rfl) (Or.inl rfl) h49.1 (nmM (fun M50 e51 => have h52 := h49.2 M50 e51; s_return (pc := 196) dX13_call_196 rfl (Nat.zero_le _) (Nat.zero_le _) ⟨rfl, h52⟩))))))))))
def jn_X13_call_135 (Q : Mem → Prop) (x0 : Nat) (x4 : Int32) (x5 : Int32) (M : Mem) : Prop := wp_X13_clamped x4 M (fun r29 M28 => mK M28 x0 = 14 ∧ ∀ M30 : Mem, M30 = uI M28 x0 24 r29 → wp_X13_clamped x5 M30 (fun r35 M34 => mK M34 x0 = 14 ∧ ∀ M36 : Mem, M36 = uI M34 x0 25 r35 → ((mI M36 x0 24) < (mI M36 x0 25) → Q M36) ∧ (¬ (mI M36 x0 24) < (mI M36 x0 25) → (¬ (mI M36 x0 24) = (100 : Int32) → jn_X13_call_183 Q x0 (mI M36 x0 24) x0 M36) ∧ ((mI M36 x0 24) = (100 : Int32) → jn_X13_call_183 Q x0 99 x0 M36))))
theorem P_jn_X13_call_135 {G : GG} {Q : Mem → Prop} (x0 : Nat) (x4 : Int32) (x5 : Int32) (M : Mem) (h : jn_X13_call_135 Q x0 x4 x5 M) : PW G mX13_call (rmD 3 0 0) (QV Q) 135 [some (.ref x0), none, none, none, some (.int x4), some (.int x5), none, none, none] [] M 0 0 := (s_aload_n (pc := 135) dX13_call_135 rfl (s_iload (pc := 136) dX13_call_136 rfl (s_callS (pc := 138) (As := [.int x4]) (rest := [.ref x0]) (d' := 0) (mc' := 0) (ms' := 0) dX13_call_138 c_X13_264 rfl rfl (Nat.le_of_ble_eq_true rfl) (rm_ok rfl rfl) ⟨Nat.le_refl 0, Nat.le_refl 0⟩ (T_X13_clamped h) (kkI (fun r29 M28 h27 => s_putI (pc := 141) dX13_call_141 f_X13_267 (Or.inl rfl) (Or.inl rfl) h27.1 (nmM (fun M30 e31 => have h32 := h27.2 M30 e31; s_aload_n (pc := 144) dX13_call_144 rfl (s_iload (pc := 145) dX13_call_145 rfl (s_callS (pc := 147) (As := [.int x5]) (rest := [.ref x0]) (d' := 0) (mc' := 0) (ms' := 0) dX13_call_147 c_X13_264 rfl rfl (Nat.le_of_ble_eq_true rfl) (rm_ok rfl rfl) ⟨Nat.le_refl 0, Nat.le_refl 0⟩ (T_X13_clamped h32) (kkI (fun r35 M34 h33 => s_putI (pc := 150) dX13_call_150 f_X13_270 (Or.inl rfl) (Or.inl rfl) h33.1 (nmM (fun M36 e37 => have h38 := h33.2 M36 e37; s_aload_n (pc := 153) dX13_call_153 rfl (s_getI (pc := 154) dX13_call_154 f_X13_270 rfl ((congrFun (congrArg mK e37) x0).trans h33.1) (s_aload_n (pc := 157) dX13_call_157 rfl (s_getI (pc := 158) dX13_call_158 f_X13_267 rfl ((congrFun (congrArg mK e37) x0).trans h33.1) (s_icmp_gt (pc := 161) (tgt := 196) dX13_call_161 rfl (fun c39 => have h40 := h38.1 c39; s_return (pc := 196) dX13_call_196 rfl (Nat.zero_le _) (Nat.zero_le _) ⟨rfl, h40⟩) (fun c41 => have h42 := h38.2 c41; s_aload_n (pc := 164) dX13_call_164 rfl (s_aload_n (pc := 165) dX13_call_165 rfl (s_getI (pc := 166) dX13_call_166 f_X13_267 rfl ((congrFun (congrArg mK e37) x0).trans h33.1) (s_bipush (pc := 169) dX13_call_169 cb_100 (s_icmp_ne (pc := 171) (tgt := 179) dX13_call_171 rfl (fun c43 => have h44 := h42.1 c43; s_aload_n (pc := 179) dX13_call_179 rfl (s_getI (pc := 180) dX13_call_180 f_X13_267 rfl ((congrFun (congrArg mK e37) x0).trans h33.1) (s_sel (L1 := [some (.ref x0), none, none, none, none, none, none, none, none]) [true, false, false, false, false, false, false, false, false] rfl (P_jn_X13_call_183 x0 (mI M36 x0 24) x0 M36 h44)))) (fun c45 => have h46 := h42.2 c45; s_bipush (pc := 174) dX13_call_174 cb_99 (s_goto (pc := 176) (tgt := 183) dX13_call_176 rfl (s_sel (L1 := [some (.ref x0), none, none, none, none, none, none, none, none]) [true, false, false, false, false, false, false, false, false] rfl (P_jn_X13_call_183 x0 99 x0 M36 h46))))))))))))))))))))))))))
def jn_X13_call_120 (Q : Mem → Prop) (x0 : Nat) (x1 : Int32) (x2 : Int32) (x4 : Int32) (x5 : Int32) (M : Mem) : Prop := (¬ x1 = (5 : Int32) → jn_X13_call_135 Q x0 x4 x5 M) ∧ (x1 = (5 : Int32) → ∀ y53 : Int32, y53 = (2 * x2) + 1 → jn_X13_call_135 Q x0 x2 y53 M)
theorem P_jn_X13_call_120 {G : GG} {Q : Mem → Prop} (x0 : Nat) (x1 : Int32) (x2 : Int32) (x4 : Int32) (x5 : Int32) (M : Mem) (h : jn_X13_call_120 Q x0 x1 x2 x4 x5 M) : PW G mX13_call (rmD 3 0 0) (QV Q) 120 [some (.ref x0), some (.int x1), some (.int x2), none, some (.int x4), some (.int x5), none, none, none] [] M 0 0 := (s_iload_n (pc := 120) dX13_call_120 rfl (s_iconst (pc := 121) dX13_call_121 ci_5 (s_icmp_ne (pc := 122) (tgt := 135) dX13_call_122 rfl (fun c23 => have h24 := h.1 c23; s_sel (L1 := [some (.ref x0), none, none, none, some (.int x4), some (.int x5), none, none, none]) [true, false, false, false, true, true, false, false, false] rfl (P_jn_X13_call_135 x0 x4 x5 M h24)) (fun c25 => have h26 := h.2 c25; s_iload_n (pc := 125) dX13_call_125 rfl (s_istore (pc := 126) (L1 := [some (.ref x0), some (.int x1), some (.int x2), none, some (.int x2), some (.int x5), none, none, none]) dX13_call_126 (Nat.le_of_ble_eq_true rfl) rfl (s_iconst (pc := 128) dX13_call_128 ci_2 (s_iload_n (pc := 129) dX13_call_129 rfl (s_imul (pc := 130) dX13_call_130 (s_iconst (pc := 131) dX13_call_131 ci_1 (s_iadd (pc := 132) dX13_call_132 (nmI (fun y53 e54 => have h55 := h26 y53 e54; s_istore (pc := 133) (L1 := [some (.ref x0), some (.int x1), some (.int x2), none, some (.int x2), some (.int y53), none, none, none]) dX13_call_133 (Nat.le_of_ble_eq_true rfl) rfl (s_sel (L1 := [some (.ref x0), none, none, none, some (.int x2), some (.int y53), none, none, none]) [true, false, false, false, true, true, false, false, false] rfl (P_jn_X13_call_135 x0 x2 y53 M h55))))))))))))))
def jn_X13_call_116 (Q : Mem → Prop) (x0 : Nat) (x1 : Int32) (x2 : Int32) (x4 : Int32) (s0 : Int32) (M : Mem) : Prop := ∀ y73 : Int32, y73 = s0 + x2 → jn_X13_call_120 Q x0 x1 x2 x4 y73 M
theorem P_jn_X13_call_116 {G : GG} {Q : Mem → Prop} (x0 : Nat) (x1 : Int32) (x2 : Int32) (x4 : Int32) (s0 : Int32) (M : Mem) (h : jn_X13_call_116 Q x0 x1 x2 x4 s0 M) : PW G mX13_call (rmD 3 0 0) (QV Q) 116 [some (.ref x0), some (.int x1), some (.int x2), none, some (.int x4), none, none, none, none] [.int s0] M 0 0 := (s_iload_n (pc := 116) dX13_call_116 rfl (s_iadd (pc := 117) dX13_call_117 (nmI (fun y73 e74 => have h75 := h y73 e74; s_istore (pc := 118) (L1 := [some (.ref x0), some (.int x1), some (.int x2), none, some (.int x4), some (.int y73), none, none, none]) dX13_call_118 (Nat.le_of_ble_eq_true rfl) rfl (s_sel (L1 := [some (.ref x0), some (.int x1), some (.int x2), none, some (.int x4), some (.int y73), none, none, none]) [true, true, true, false, true, true, false, false, false] rfl (P_jn_X13_call_120 x0 x1 x2 x4 y73 M h75))))))
def jn_X13_call_100 (Q : Mem → Prop) (x0 : Nat) (x1 : Int32) (x2 : Int32) (x8 : Int32) (s0 : Int32) (M : Mem) : Prop := ∀ y66 : Int32, y66 = s0 - x2 → ((0 : Int32) ≤ x8 → jn_X13_call_116 Q x0 x1 x2 y66 x8 M) ∧ (¬ (0 : Int32) ≤ x8 → jn_X13_call_116 Q x0 x1 x2 y66 100 M)
theorem P_jn_X13_call_100 {G : GG} {Q : Mem → Prop} (x0 : Nat) (x1 : Int32) (x2 : Int32) (x8 : Int32) (s0 : Int32) (M : Mem) (h : jn_X13_call_100 Q x0 x1 x2 x8 s0 M) : PW G mX13_call (rmD 3 0 0) (QV Q) 100 [some (.ref x0), some (.int x1), some (.int x2), none, none, none, none, none, some (.int x8)] [.int s0] M 0 0 := (s_iload_n (pc := 100) dX13_call_100 rfl (s_isub (pc := 101) dX13_call_101 (nmI (fun y66 e67 => have h68 := h y66 e67; s_istore (pc := 102) (L1 := [some (.ref x0), some (.int x1), some (.int x2), none, some (.int y66), none, none, none, some (.int x8)]) dX13_call_102 (Nat.le_of_ble_eq_true rfl) rfl (s_iload (pc := 104) dX13_call_104 rfl (s_if_ge (pc := 106) (tgt := 114) dX13_call_106 rfl (fun c69 => have h70 := h68.1 c69; s_iload (pc := 114) dX13_call_114 rfl (s_sel (L1 := [some (.ref x0), some (.int x1), some (.int x2), none, some (.int y66), none, none, none, none]) [true, true, true, false, true, false, false, false, false] rfl (P_jn_X13_call_116 x0 x1 x2 y66 x8 M h70))) (fun c71 => have h72 := h68.2 c71; s_bipush (pc := 109) dX13_call_109 cb_100 (s_goto (pc := 111) (tgt := 116) dX13_call_111 rfl (s_sel (L1 := [some (.ref x0), some (.int x1), some (.int x2), none, some (.int y66), none, none, none, none]) [true, true, true, false, true, false, false, false, false] rfl (P_jn_X13_call_116 x0 x1 x2 y66 100 M h72))))))))))
def jn_X13_call_72 (Q : Mem → Prop) (x0 : Nat) (x1 : Int32) (x2 : Int32) (x4 : Int32) (x5 : Int32) (M : Mem) : Prop := (¬ x1 = (4 : Int32) → jn_X13_call_120 Q x0 x1 x2 x4 x5 M) ∧ (x1 = (4 : Int32) → mK M x0 = 14 ∧ wp_X13_fairBid x0 M (fun r58 M57 => mK M57 x0 = 14 ∧ wp_X13_fairAsk x0 M57 (fun r61 M60 => ((0 : Int32) ≤ r58 → jn_X13_call_100 Q x0 x1 x2 r61 r58 M60) ∧ (¬ (0 : Int32) ≤ r58 → jn_X13_call_100 Q x0 x1 x2 r61 0 M60))))
theorem P_jn_X13_call_72 {G : GG} {Q : Mem → Prop} (x0 : Nat) (x1 : Int32) (x2 : Int32) (x4 : Int32) (x5 : Int32) (M : Mem) (h : jn_X13_call_72 Q x0 x1 x2 x4 x5 M) : PW G mX13_call (rmD 3 0 0) (QV Q) 72 [some (.ref x0), some (.int x1), some (.int x2), none, some (.int x4), some (.int x5), none, none, none] [] M 0 0 := (s_iload_n (pc := 72) dX13_call_72 rfl (s_iconst (pc := 73) dX13_call_73 ci_4 (s_icmp_ne (pc := 74) (tgt := 120) dX13_call_74 rfl (fun c19 => have h20 := h.1 c19; s_sel (L1 := [some (.ref x0), some (.int x1), some (.int x2), none, some (.int x4), some (.int x5), none, none, none]) [true, true, true, false, true, true, false, false, false] rfl (P_jn_X13_call_120 x0 x1 x2 x4 x5 M h20)) (fun c21 => have h22 := h.2 c21; s_aload_n (pc := 77) dX13_call_77 rfl (s_callV (pc := 78) (As := []) (rest := []) (d' := 2) (mc' := 0) (ms' := 0) dX13_call_78 c_X13_255 (Nat.le_of_ble_eq_true rfl) rfl h22.1 rfl rfl (Nat.le_of_ble_eq_true rfl) (rm_ok rfl rfl) ⟨Nat.le_refl 0, Nat.le_refl 0⟩ (T_X13_fairBid h22.2) (kkI (fun r58 M57 h56 => s_istore (pc := 81) (L1 := [some (.ref x0), some (.int x1), some (.int x2), none, some (.int x4), some (.int x5), none, some (.int r58), none]) dX13_call_81 (Nat.le_of_ble_eq_true rfl) rfl (s_aload_n (pc := 83) dX13_call_83 rfl (s_callV (pc := 84) (As := []) (rest := []) (d' := 2) (mc' := 0) (ms' := 0) dX13_call_84 c_X13_252 (Nat.le_of_ble_eq_true rfl) rfl h56.1 rfl rfl (Nat.le_of_ble_eq_true rfl) (rm_ok rfl rfl) ⟨Nat.le_refl 0, Nat.le_refl 0⟩ (T_X13_fairAsk h56.2) (kkI (fun r61 M60 h59 => s_istore (pc := 87) (L1 := [some (.ref x0), some (.int x1), some (.int x2), none, some (.int x4), some (.int x5), none, some (.int r58), some (.int r61)]) dX13_call_87 (Nat.le_of_ble_eq_true rfl) rfl (s_iload (pc := 89) dX13_call_89 rfl (s_if_ge (pc := 91) (tgt := 98) dX13_call_91 rfl (fun c62 => have h63 := h59.1 c62; s_iload (pc := 98) dX13_call_98 rfl (s_sel (L1 := [some (.ref x0), some (.int x1), some (.int x2), none, none, none, none, none, some (.int r61)]) [true, true, true, false, false, false, false, false, true] rfl (P_jn_X13_call_100 x0 x1 x2 r61 r58 M60 h63))) (fun c64 => have h65 := h59.2 c64; s_iconst (pc := 94) dX13_call_94 ci_0 (s_goto (pc := 95) (tgt := 100) dX13_call_95 rfl (s_sel (L1 := [some (.ref x0), some (.int x1), some (.int x2), none, none, none, none, none, some (.int r61)]) [true, true, true, false, false, false, false, false, true] rfl (P_jn_X13_call_100 x0 x1 x2 r61 0 M60 h65)))))))))))))))))
def jn_X13_call_50 (Q : Mem → Prop) (x0 : Nat) (x1 : Int32) (x2 : Int32) (x6 : Int32) (s0 : Int32) (M : Mem) : Prop := ∀ y13 : Int32, y13 = (x6 - x2) - s0 → ∀ y16 : Int32, y16 = ((x6 + x2) + 1) - s0 → jn_X13_call_72 Q x0 x1 x2 y13 y16 M
theorem P_jn_X13_call_50 {G : GG} {Q : Mem → Prop} (x0 : Nat) (x1 : Int32) (x2 : Int32) (x6 : Int32) (s0 : Int32) (M : Mem) (h : jn_X13_call_50 Q x0 x1 x2 x6 s0 M) : PW G mX13_call (rmD 3 0 0) (QV Q) 50 [some (.ref x0), some (.int x1), some (.int x2), none, none, none, some (.int x6), none, none] [.int s0] M 0 0 := (s_istore (pc := 50) (L1 := [some (.ref x0), some (.int x1), some (.int x2), none, none, none, some (.int x6), some (.int s0), none]) dX13_call_50 (Nat.le_of_ble_eq_true rfl) rfl (s_iload (pc := 52) dX13_call_52 rfl (s_iload_n (pc := 54) dX13_call_54 rfl (s_isub (pc := 55) dX13_call_55 (s_iload (pc := 56) dX13_call_56 rfl (s_isub (pc := 58) dX13_call_58 (nmI (fun y13 e14 => have h15 := h y13 e14; s_istore (pc := 59) (L1 := [some (.ref x0), some (.int x1), some (.int x2), none, some (.int y13), none, some (.int x6), some (.int s0), none]) dX13_call_59 (Nat.le_of_ble_eq_true rfl) rfl (s_iload (pc := 61) dX13_call_61 rfl (s_iload_n (pc := 63) dX13_call_63 rfl (s_iadd (pc := 64) dX13_call_64 (s_iconst (pc := 65) dX13_call_65 ci_1 (s_iadd (pc := 66) dX13_call_66 (s_iload (pc := 67) dX13_call_67 rfl (s_isub (pc := 69) dX13_call_69 (nmI (fun y16 e17 => have h18 := h15 y16 e17; s_istore (pc := 70) (L1 := [some (.ref x0), some (.int x1), some (.int x2), none, some (.int y13), some (.int y16), some (.int x6), some (.int s0), none]) dX13_call_70 (Nat.le_of_ble_eq_true rfl) rfl (s_sel (L1 := [some (.ref x0), some (.int x1), some (.int x2), none, some (.int y13), some (.int y16), none, none, none]) [true, true, true, false, true, true, false, false, false] rfl (P_jn_X13_call_72 x0 x1 x2 y13 y16 M h18)))))))))))))))))))
def jn_X13_call_40 (Q : Mem → Prop) (x0 : Nat) (x1 : Int32) (x2 : Int32) (x3 : Int32) (x6 : Int32) (M : Mem) : Prop := (¬ x1 = (2 : Int32) → jn_X13_call_50 Q x0 x1 x2 x6 0 M) ∧ (x1 = (2 : Int32) → jn_X13_call_50 Q x0 x1 x2 x6 x3 M)
theorem P_jn_X13_call_40 {G : GG} {Q : Mem → Prop} (x0 : Nat) (x1 : Int32) (x2 : Int32) (x3 : Int32) (x6 : Int32) (M : Mem) (h : jn_X13_call_40 Q x0 x1 x2 x3 x6 M) : PW G mX13_call (rmD 3 0 0) (QV Q) 40 [some (.ref x0), some (.int x1), some (.int x2), some (.int x3), none, none, some (.int x6), none, none] [] M 0 0 := (s_iload_n (pc := 40) dX13_call_40 rfl (s_iconst (pc := 41) dX13_call_41 ci_2 (s_icmp_ne (pc := 42) (tgt := 49) dX13_call_42 rfl (fun c9 => have h10 := h.1 c9; s_iconst (pc := 49) dX13_call_49 ci_0 (s_sel (L1 := [some (.ref x0), some (.int x1), some (.int x2), none, none, none, some (.int x6), none, none]) [true, true, true, false, false, false, true, false, false] rfl (P_jn_X13_call_50 x0 x1 x2 x6 0 M h10))) (fun c11 => have h12 := h.2 c11; s_iload_n (pc := 45) dX13_call_45 rfl (s_goto (pc := 46) (tgt := 50) dX13_call_46 rfl (s_sel (L1 := [some (.ref x0), some (.int x1), some (.int x2), none, none, none, some (.int x6), none, none]) [true, true, true, false, false, false, true, false, false] rfl (P_jn_X13_call_50 x0 x1 x2 x6 x3 M h12)))))))
def jn_X13_call_23 (Q : Mem → Prop) (x0 : Nat) (x1 : Int32) (x2 : Int32) (x3 : Int32) (x4 : Int32) (x5 : Int32) (s0 : Int32) (M : Mem) : Prop := (x1 = (1 : Int32) → jn_X13_call_40 Q x0 x1 x2 x3 s0 M) ∧ (¬ x1 = (1 : Int32) → (x1 = (2 : Int32) → jn_X13_call_40 Q x0 x1 x2 x3 s0 M) ∧ (¬ x1 = (2 : Int32) → (¬ x1 = (3 : Int32) → jn_X13_call_72 Q x0 x1 x2 x4 x5 M) ∧ (x1 = (3 : Int32) → jn_X13_call_40 Q x0 x1 x2 x3 s0 M)))
theorem P_jn_X13_call_23 {G : GG} {Q : Mem → Prop} (x0 : Nat) (x1 : Int32) (x2 : Int32) (x3 : Int32) (x4 : Int32) (x5 : Int32) (s0 : Int32) (M : Mem) (h : jn_X13_call_23 Q x0 x1 x2 x3 x4 x5 s0 M) : PW G mX13_call (rmD 3 0 0) (QV Q) 23 [some (.ref x0), some (.int x1), some (.int x2), some (.int x3), some (.int x4), some (.int x5), none, none, none] [.int s0] M 0 0 := (s_istore (pc := 23) (L1 := [some (.ref x0), some (.int x1), some (.int x2), some (.int x3), some (.int x4), some (.int x5), some (.int s0), none, none]) dX13_call_23 (Nat.le_of_ble_eq_true rfl) rfl (s_iload_n (pc := 25) dX13_call_25 rfl (s_iconst (pc := 26) dX13_call_26 ci_1 (s_icmp_eq (pc := 27) (tgt := 40) dX13_call_27 rfl (fun c5 => have h6 := h.1 c5; s_sel (L1 := [some (.ref x0), some (.int x1), some (.int x2), some (.int x3), none, none, some (.int s0), none, none]) [true, true, true, true, false, false, true, false, false] rfl (P_jn_X13_call_40 x0 x1 x2 x3 s0 M h6)) (fun c7 => have h8 := h.2 c7; s_iload_n (pc := 30) dX13_call_30 rfl (s_iconst (pc := 31) dX13_call_31 ci_2 (s_icmp_eq (pc := 32) (tgt := 40) dX13_call_32 rfl (fun c76 => have h77 := h8.1 c76; s_sel (L1 := [some (.ref x0), some (.int x1), some (.int x2), some (.int x3), none, none, some (.int s0), none, none]) [true, true, true, true, false, false, true, false, false] rfl (P_jn_X13_call_40 x0 x1 x2 x3 s0 M h77)) (fun c78 => have h79 := h8.2 c78; s_iload_n (pc := 35) dX13_call_35 rfl (s_iconst (pc := 36) dX13_call_36 ci_3 (s_icmp_ne (pc := 37) (tgt := 72) dX13_call_37 rfl (fun c80 => have h81 := h79.1 c80; s_sel (L1 := [some (.ref x0), some (.int x1), some (.int x2), none, some (.int x4), some (.int x5), none, none, none]) [true, true, true, false, true, true, false, false, false] rfl (P_jn_X13_call_72 x0 x1 x2 x4 x5 M h81)) (fun c82 => have h83 := h79.2 c82; s_sel (L1 := [some (.ref x0), some (.int x1), some (.int x2), some (.int x3), none, none, some (.int s0), none, none]) [true, true, true, true, false, false, true, false, false] rfl (P_jn_X13_call_40 x0 x1 x2 x3 s0 M h83))))))))))))
def wp_X13_call (p0 : Nat) (p1 : Int32) (p2 : Int32) (p3 : Int32) (M : Mem) (Q : Mem → Prop) : Prop := (¬ p1 = (3 : Int32) → mK M p0 = 14 ∧ jn_X13_call_23 Q p0 p1 p2 p3 0 100 (mI M p0 26) M) ∧ (p1 = (3 : Int32) → mK M p0 = 14 ∧ wp_X13_meanInMind p0 M (fun r86 M85 => jn_X13_call_23 Q p0 p1 p2 p3 0 100 r86 M85))
theorem T_X13_call {G : GG} {Q : Mem → Prop} {M : Mem} {p0 : Nat} {p1 : Int32} {p2 : Int32} {p3 : Int32} (h : wp_X13_call p0 p1 p2 p3 M Q) : PMet G mX13_call 3 0 0 [.ref p0, .int p1, .int p2, .int p3] M (QV Q) :=
  mk_met (by decide) rfl rfl (by
    intro w hw x9 e9
    subst e9
    simp at hw) (Nat.le_of_ble_eq_true rfl) (s_pad (L1 := [some (.ref p0), some (.int p1), some (.int p2), some (.int p3), none, none, none, none, none]) 9 rfl (s_iconst (pc := 0) dX13_call_0 ci_0 (s_istore (pc := 1) (L1 := [some (.ref p0), some (.int p1), some (.int p2), some (.int p3), some (.int 0), none, none, none, none]) dX13_call_1 (Nat.le_of_ble_eq_true rfl) rfl (s_bipush (pc := 3) dX13_call_3 cb_100 (s_istore (pc := 5) (L1 := [some (.ref p0), some (.int p1), some (.int p2), some (.int p3), some (.int 0), some (.int 100), none, none, none]) dX13_call_5 (Nat.le_of_ble_eq_true rfl) rfl (s_iload_n (pc := 7) dX13_call_7 rfl (s_iconst (pc := 8) dX13_call_8 ci_3 (s_icmp_ne (pc := 9) (tgt := 19) dX13_call_9 rfl (fun c1 => have h2 := h.1 c1; s_aload_n (pc := 19) dX13_call_19 rfl (s_getI (pc := 20) dX13_call_20 f_X13_261 rfl h2.1 (s_sel (L1 := [some (.ref p0), some (.int p1), some (.int p2), some (.int p3), some (.int 0), some (.int 100), none, none, none]) [true, true, true, true, true, true, false, false, false] rfl (P_jn_X13_call_23 p0 p1 p2 p3 0 100 (mI M p0 26) M h2.2)))) (fun c3 => have h4 := h.2 c3; s_aload_n (pc := 12) dX13_call_12 rfl (s_callV (pc := 13) (As := []) (rest := []) (d' := 0) (mc' := 0) (ms' := 0) dX13_call_13 c_X13_234 (Nat.le_of_ble_eq_true rfl) rfl h4.1 rfl rfl (Nat.le_of_ble_eq_true rfl) (rm_ok rfl rfl) ⟨Nat.le_refl 0, Nat.le_refl 0⟩ (T_X13_meanInMind h4.2) (kkI (fun r86 M85 h84 => s_goto (pc := 16) (tgt := 23) dX13_call_16 rfl (s_sel (L1 := [some (.ref p0), some (.int p1), some (.int p2), some (.int p3), some (.int 0), some (.int 100), none, none, none]) [true, true, true, true, true, true, false, false, false] rfl (P_jn_X13_call_23 p0 p1 p2 p3 0 100 r86 M85 h84))))))))))))))
