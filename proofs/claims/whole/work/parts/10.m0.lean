/-! J7_fill_53178 -/
theorem dJ7_fill_53178_0 : cod mJ7_fill_53178 0 (.iconst 0) 1 := by decide +kernel
theorem dJ7_fill_53178_1 : cod mJ7_fill_53178 1 (.istore_n 2) 1 := by decide +kernel
theorem dJ7_fill_53178_2 : cod mJ7_fill_53178 2 (.aload_n 0) 1 := by decide +kernel
theorem dJ7_fill_53178_3 : cod mJ7_fill_53178 3 (.arraylength) 1 := by decide +kernel
theorem dJ7_fill_53178_4 : cod mJ7_fill_53178 4 (.istore_n 3) 1 := by decide +kernel
theorem dJ7_fill_53178_5 : cod mJ7_fill_53178 5 (.iload_n 2) 1 := by decide +kernel
theorem dJ7_fill_53178_6 : cod mJ7_fill_53178 6 (.iload_n 3) 1 := by decide +kernel
theorem dJ7_fill_53178_7 : cod mJ7_fill_53178 7 (.if_icmp .ge 13) 3 := by decide +kernel
theorem dJ7_fill_53178_10 : cod mJ7_fill_53178 10 (.aload_n 0) 1 := by decide +kernel
theorem dJ7_fill_53178_11 : cod mJ7_fill_53178 11 (.iload_n 2) 1 := by decide +kernel
theorem dJ7_fill_53178_12 : cod mJ7_fill_53178 12 (.iload_n 1) 1 := by decide +kernel
theorem dJ7_fill_53178_13 : cod mJ7_fill_53178 13 (.iastore) 1 := by decide +kernel
theorem dJ7_fill_53178_14 : cod mJ7_fill_53178 14 (.iinc 2 1) 3 := by decide +kernel
theorem dJ7_fill_53178_17 : cod mJ7_fill_53178 17 (.goto (-12)) 3 := by decide +kernel
theorem dJ7_fill_53178_20 : cod mJ7_fill_53178 20 (.return_) 1 := by decide +kernel
def lp_J7_fill_53178_5 (Q : Mem → Prop) : Nat → Nat → Int32 → Int32 → Int32 → Mem → Prop
  | 0 => fun _ _ _ _ _ => False
  | n + 1 => fun x0 x1 x2 x3 M => (x3 ≤ x2 → Q M) ∧ (¬ x3 ≤ x2 → mK M x0 = 20 ∧ vp_in x2 (mN M x0) ∧ ∀ M8 : Mem, M8 = uI M x0 x2.toNatClampNeg x1 → (lp_J7_fill_53178_5 Q n) x0 x1 (x2 + 1) x3 M8)
theorem P_lp_J7_fill_53178_5 {G : GG} {Q : Mem → Prop} : ∀ (n : Nat) (x0 : Nat) (x1 : Int32) (x2 : Int32) (x3 : Int32) (M : Mem), lp_J7_fill_53178_5 Q n x0 x1 x2 x3 M → PW G mJ7_fill_53178 (rmD 0 0 0) (QV Q) 5 [some (.ref x0), some (.int x1), some (.int x2), some (.int x3)] [] M 0 0 := by
  intro n
  induction n with
  | zero => intro x0 x1 x2 x3 M h; exact h.elim
  | succ n ih =>
    intro x0 x1 x2 x3 M h
    exact (s_iload_n (pc := 5) dJ7_fill_53178_5 rfl (s_iload_n (pc := 6) dJ7_fill_53178_6 rfl (s_icmp_ge (pc := 7) (tgt := 20) dJ7_fill_53178_7 rfl (fun c4 => have h5 := h.1 c4; s_return (pc := 20) dJ7_fill_53178_20 rfl (Nat.zero_le _) (Nat.zero_le _) ⟨rfl, h5⟩) (fun c6 => have h7 := h.2 c6; s_aload_n (pc := 10) dJ7_fill_53178_10 rfl (s_iload_n (pc := 11) dJ7_fill_53178_11 rfl (s_iload_n (pc := 12) dJ7_fill_53178_12 rfl (s_ias (pc := 13) dJ7_fill_53178_13 h7.1 h7.2.1 (nmM (fun M8 e9 => have h10 := (h7.2.2) M8 e9; s_iinc (pc := 14) (L1 := [some (.ref x0), some (.int x1), some (.int (x2 + 1)), some (.int x3)]) dJ7_fill_53178_14 rfl ci_1 (Nat.le_of_ble_eq_true rfl) rfl (s_goto (pc := 17) (tgt := 5) dJ7_fill_53178_17 rfl (s_sel (L1 := [some (.ref x0), some (.int x1), some (.int (x2 + 1)), some (.int x3)]) [true, true, true, true] rfl (ih x0 x1 (x2 + 1) x3 M8 h10))))))))))))
def wp_J7_fill_53178 (p0 : Nat) (p1 : Int32) (M : Mem) (Q : Mem → Prop) : Prop := mK M p0 = 20 ∧ ∀ y1 : Int32, y1 = Int32.ofNat (mN M p0) → ∃ n11 : Nat, lp_J7_fill_53178_5 Q n11 p0 p1 0 y1 M
theorem T_J7_fill_53178 {G : GG} {Q : Mem → Prop} {M : Mem} {p0 : Nat} {p1 : Int32} (h : wp_J7_fill_53178 p0 p1 M Q) : PMet G mJ7_fill_53178 0 0 0 [.ref p0, .int p1] M (QV Q) :=
  mk_met (by decide) rfl rfl (by
    intro w hw x9 e9
    subst e9
    simp at hw) (Nat.le_of_ble_eq_true rfl) (s_pad (L1 := [some (.ref p0), some (.int p1), none, none]) 4 rfl (s_iconst (pc := 0) dJ7_fill_53178_0 ci_0 (s_istore_n (pc := 1) (L1 := [some (.ref p0), some (.int p1), some (.int 0), none]) dJ7_fill_53178_1 (Nat.le_of_ble_eq_true rfl) rfl (s_aload_n (pc := 2) dJ7_fill_53178_2 rfl (s_alen (pc := 3) (t := 0) dJ7_fill_53178_3 (Nat.le_of_ble_eq_true rfl) h.1 rfl (nmI (fun y1 e2 => have h3 := h.2 y1 e2; s_istore_n (pc := 4) (L1 := [some (.ref p0), some (.int p1), some (.int 0), some (.int y1)]) dJ7_fill_53178_4 (Nat.le_of_ble_eq_true rfl) rfl (Exists.elim h3 (fun n11 hn => s_sel (L1 := [some (.ref p0), some (.int p1), some (.int 0), some (.int y1)]) [true, true, true, true] rfl (P_lp_J7_fill_53178_5 n11 p0 p1 0 y1 M hn))))))))))
/-! X12_isShelf -/
theorem dX12_isShelf_0 : cod mX12_isShelf 0 (.iload_n 0) 1 := by decide +kernel
theorem dX12_isShelf_1 : cod mX12_isShelf 1 (.ifCond .lt 13) 3 := by decide +kernel
theorem dX12_isShelf_4 : cod mX12_isShelf 4 (.iload_n 0) 1 := by decide +kernel
theorem dX12_isShelf_5 : cod mX12_isShelf 5 (.bipush 8) 2 := by decide +kernel
theorem dX12_isShelf_7 : cod mX12_isShelf 7 (.if_icmp .ge 7) 3 := by decide +kernel
theorem dX12_isShelf_10 : cod mX12_isShelf 10 (.iconst 1) 1 := by decide +kernel
theorem dX12_isShelf_11 : cod mX12_isShelf 11 (.goto 4) 3 := by decide +kernel
theorem dX12_isShelf_14 : cod mX12_isShelf 14 (.iconst 0) 1 := by decide +kernel
theorem dX12_isShelf_15 : cod mX12_isShelf 15 (.ireturn) 1 := by decide +kernel
def wp_X12_isShelf (p0 : Int32) (M : Mem) (Q : Int32 → Mem → Prop) : Prop := (p0 < (0 : Int32) → Q 0 M) ∧ (¬ p0 < (0 : Int32) → ((8 : Int32) ≤ p0 → Q 0 M) ∧ (¬ (8 : Int32) ≤ p0 → Q 1 M))
theorem T_X12_isShelf {G : GG} {Q : Int32 → Mem → Prop} {M : Mem} {p0 : Int32} (h : wp_X12_isShelf p0 M Q) : PMet G mX12_isShelf 0 0 0 [.int p0] M (QI Q) :=
  mk_met (by decide) rfl rfl (by
    intro w hw x9 e9
    subst e9
    simp at hw) (Nat.le_of_ble_eq_true rfl) (s_pad (L1 := [some (.int p0)]) 1 rfl (s_iload_n (pc := 0) dX12_isShelf_0 rfl (s_if_lt (pc := 1) (tgt := 14) dX12_isShelf_1 rfl (fun c1 => have h2 := h.1 c1; s_iconst (pc := 14) dX12_isShelf_14 ci_0 (s_zreturn (pc := 15) dX12_isShelf_15 rfl (Or.inl rfl) (Nat.zero_le _) (Nat.zero_le _) ⟨_, rfl, h2⟩)) (fun c3 => have h4 := h.2 c3; s_iload_n (pc := 4) dX12_isShelf_4 rfl (s_bipush (pc := 5) dX12_isShelf_5 cb_8 (s_icmp_ge (pc := 7) (tgt := 14) dX12_isShelf_7 rfl (fun c5 => have h6 := h4.1 c5; s_iconst (pc := 14) dX12_isShelf_14 ci_0 (s_zreturn (pc := 15) dX12_isShelf_15 rfl (Or.inl rfl) (Nat.zero_le _) (Nat.zero_le _) ⟨_, rfl, h6⟩)) (fun c7 => have h8 := h4.2 c7; s_iconst (pc := 10) dX12_isShelf_10 ci_1 (s_goto (pc := 11) (tgt := 15) dX12_isShelf_11 rfl (s_zreturn (pc := 15) dX12_isShelf_15 rfl (Or.inr rfl) (Nat.zero_le _) (Nat.zero_le _) ⟨_, rfl, h8⟩)))))))))
/-! X4_isRow -/
theorem dX4_isRow_0 : cod mX4_isRow 0 (.aload_n 0) 1 := by decide +kernel
theorem dX4_isRow_1 : cod mX4_isRow 1 (.getfield 11) 3 := by decide +kernel
theorem dX4_isRow_4 : cod mX4_isRow 4 (.iconst (-1)) 1 := by decide +kernel
theorem dX4_isRow_5 : cod mX4_isRow 5 (.if_icmp .eq 7) 3 := by decide +kernel
theorem dX4_isRow_8 : cod mX4_isRow 8 (.iconst 1) 1 := by decide +kernel
theorem dX4_isRow_9 : cod mX4_isRow 9 (.goto 4) 3 := by decide +kernel
theorem dX4_isRow_12 : cod mX4_isRow 12 (.iconst 0) 1 := by decide +kernel
theorem dX4_isRow_13 : cod mX4_isRow 13 (.ireturn) 1 := by decide +kernel
def wp_X4_isRow (p0 : Nat) (M : Mem) (Q : Int32 → Mem → Prop) : Prop := mK M p0 = 5 ∧ ((mI M p0 1) = ((-1) : Int32) → Q 0 M) ∧ (¬ (mI M p0 1) = ((-1) : Int32) → Q 1 M)
theorem T_X4_isRow {G : GG} {Q : Int32 → Mem → Prop} {M : Mem} {p0 : Nat} (h : wp_X4_isRow p0 M Q) : PMet G mX4_isRow 0 0 0 [.ref p0] M (QI Q) :=
  mk_met (by decide) rfl rfl (by
    intro w hw x9 e9
    subst e9
    simp at hw) (Nat.le_of_ble_eq_true rfl) (s_pad (L1 := [some (.ref p0)]) 1 rfl (s_aload_n (pc := 0) dX4_isRow_0 rfl (s_getI (pc := 1) dX4_isRow_1 f_X4_11 rfl h.1 (s_iconst (pc := 4) dX4_isRow_4 ci_m1 (s_icmp_eq (pc := 5) (tgt := 12) dX4_isRow_5 rfl (fun c1 => have h2 := h.2.1 c1; s_iconst (pc := 12) dX4_isRow_12 ci_0 (s_zreturn (pc := 13) dX4_isRow_13 rfl (Or.inl rfl) (Nat.zero_le _) (Nat.zero_le _) ⟨_, rfl, h2⟩)) (fun c3 => have h4 := h.2.2 c3; s_iconst (pc := 8) dX4_isRow_8 ci_1 (s_goto (pc := 9) (tgt := 13) dX4_isRow_9 rfl (s_zreturn (pc := 13) dX4_isRow_13 rfl (Or.inr rfl) (Nat.zero_le _) (Nat.zero_le _) ⟨_, rfl, h4⟩))))))))
/-! X12_rowOn -/
theorem dX12_rowOn_0 : cod mX12_rowOn 0 (.iload_n 1) 1 := by decide +kernel
theorem dX12_rowOn_1 : cod mX12_rowOn 1 (.invokestatic 295) 3 := by decide +kernel
theorem dX12_rowOn_4 : cod mX12_rowOn 4 (.ifCond .eq 24) 3 := by decide +kernel
theorem dX12_rowOn_7 : cod mX12_rowOn 7 (.aload_n 0) 1 := by decide +kernel
theorem dX12_rowOn_8 : cod mX12_rowOn 8 (.getfield 37) 3 := by decide +kernel
theorem dX12_rowOn_11 : cod mX12_rowOn 11 (.iload_n 1) 1 := by decide +kernel
theorem dX12_rowOn_12 : cod mX12_rowOn 12 (.aaload) 1 := by decide +kernel
theorem dX12_rowOn_13 : cod mX12_rowOn 13 (.invokevirtual 368) 3 := by decide +kernel
theorem dX12_rowOn_16 : cod mX12_rowOn 16 (.ifCond .eq 12) 3 := by decide +kernel
theorem dX12_rowOn_19 : cod mX12_rowOn 19 (.aload_n 0) 1 := by decide +kernel
theorem dX12_rowOn_20 : cod mX12_rowOn 20 (.getfield 37) 3 := by decide +kernel
theorem dX12_rowOn_23 : cod mX12_rowOn 23 (.iload_n 1) 1 := by decide +kernel
theorem dX12_rowOn_24 : cod mX12_rowOn 24 (.aaload) 1 := by decide +kernel
theorem dX12_rowOn_25 : cod mX12_rowOn 25 (.goto 4) 3 := by decide +kernel
theorem dX12_rowOn_28 : cod mX12_rowOn 28 (.aconst_null) 1 := by decide +kernel
theorem dX12_rowOn_29 : cod mX12_rowOn 29 (.areturn) 1 := by decide +kernel
def wp_X12_rowOn (p0 : Nat) (p1 : Int32) (M : Mem) (Q : Nat → Mem → Prop) : Prop := wp_X12_isShelf p1 M (fun r3 M2 => (r3 = (0 : Int32) → Q 0 M2) ∧ (¬ r3 = (0 : Int32) → mK M2 p0 = 13 ∧ mK M2 (mR M2 p0 7) = 24 ∧ vp_in p1 (mN M2 (mR M2 p0 7)) ∧ mK M2 (mR M2 (mR M2 p0 7) p1.toNatClampNeg) = 5 ∧ wp_X4_isRow (mR M2 (mR M2 p0 7) p1.toNatClampNeg) M2 (fun r10 M9 => (r10 = (0 : Int32) → Q 0 M9) ∧ (¬ r10 = (0 : Int32) → mK M9 p0 = 13 ∧ mK M9 (mR M9 p0 7) = 24 ∧ vp_in p1 (mN M9 (mR M9 p0 7)) ∧ Q (mR M9 (mR M9 p0 7) p1.toNatClampNeg) M9))))
theorem T_X12_rowOn {G : GG} {Q : Nat → Mem → Prop} {M : Mem} {p0 : Nat} {p1 : Int32} (h : wp_X12_rowOn p0 p1 M Q) : PMet G mX12_rowOn 1 0 0 [.ref p0, .int p1] M (QR Q) :=
  mk_met (by decide) rfl rfl (by
    intro w hw x9 e9
    subst e9
    simp at hw) (Nat.le_of_ble_eq_true rfl) (s_pad (L1 := [some (.ref p0), some (.int p1)]) 2 rfl (s_iload_n (pc := 0) dX12_rowOn_0 rfl (s_callS (pc := 1) (As := [.int p1]) (rest := []) (d' := 0) (mc' := 0) (ms' := 0) dX12_rowOn_1 c_X12_295 rfl rfl (Nat.le_of_ble_eq_true rfl) (rm_ok rfl rfl) ⟨Nat.le_refl 0, Nat.le_refl 0⟩ (T_X12_isShelf h) (kkI (fun r3 M2 h1 => s_if_eq (pc := 4) (tgt := 28) dX12_rowOn_4 rfl (fun c4 => have h5 := h1.1 c4; s_null (pc := 28) dX12_rowOn_28 (s_areturn (pc := 29) dX12_rowOn_29 rfl (Nat.zero_le _) (Nat.zero_le _) ⟨_, rfl, h5⟩)) (fun c6 => have h7 := h1.2 c6; s_aload_n (pc := 7) dX12_rowOn_7 rfl (s_getR (pc := 8) dX12_rowOn_8 f_X12_37 rfl h7.1 (s_iload_n (pc := 11) dX12_rowOn_11 rfl (s_aal (pc := 12) (t := 4) dX12_rowOn_12 (Nat.le_of_ble_eq_true rfl) (Nat.le_of_ble_eq_true rfl) h7.2.1 h7.2.2.1 (s_callV (pc := 13) (As := []) (rest := []) (d' := 0) (mc' := 0) (ms' := 0) dX12_rowOn_13 c_X12_368 (Nat.le_of_ble_eq_true rfl) rfl h7.2.2.2.1 rfl rfl (Nat.le_of_ble_eq_true rfl) (rm_ok rfl rfl) ⟨Nat.le_refl 0, Nat.le_refl 0⟩ (T_X4_isRow h7.2.2.2.2) (kkI (fun r10 M9 h8 => s_if_eq (pc := 16) (tgt := 28) dX12_rowOn_16 rfl (fun c11 => have h12 := h8.1 c11; s_null (pc := 28) dX12_rowOn_28 (s_areturn (pc := 29) dX12_rowOn_29 rfl (Nat.zero_le _) (Nat.zero_le _) ⟨_, rfl, h12⟩)) (fun c13 => have h14 := h8.2 c13; s_aload_n (pc := 19) dX12_rowOn_19 rfl (s_getR (pc := 20) dX12_rowOn_20 f_X12_37 rfl h14.1 (s_iload_n (pc := 23) dX12_rowOn_23 rfl (s_aal (pc := 24) (t := 4) dX12_rowOn_24 (Nat.le_of_ble_eq_true rfl) (Nat.le_of_ble_eq_true rfl) h14.2.1 h14.2.2.1 (s_goto (pc := 25) (tgt := 29) dX12_rowOn_25 rfl (s_areturn (pc := 29) dX12_rowOn_29 rfl (Nat.zero_le _) (Nat.zero_le _) ⟨_, rfl, h14.2.2.2⟩))))))))))))))))))
/-! X4_hasPlace -/
theorem dX4_hasPlace_0 : cod mX4_hasPlace 0 (.iload_n 1) 1 := by decide +kernel
theorem dX4_hasPlace_1 : cod mX4_hasPlace 1 (.ifCond .lt 15) 3 := by decide +kernel
theorem dX4_hasPlace_4 : cod mX4_hasPlace 4 (.iload_n 1) 1 := by decide +kernel
theorem dX4_hasPlace_5 : cod mX4_hasPlace 5 (.aload_n 0) 1 := by decide +kernel
theorem dX4_hasPlace_6 : cod mX4_hasPlace 6 (.getfield 23) 3 := by decide +kernel
theorem dX4_hasPlace_9 : cod mX4_hasPlace 9 (.if_icmp .ge 7) 3 := by decide +kernel
theorem dX4_hasPlace_12 : cod mX4_hasPlace 12 (.iconst 1) 1 := by decide +kernel
theorem dX4_hasPlace_13 : cod mX4_hasPlace 13 (.goto 4) 3 := by decide +kernel
theorem dX4_hasPlace_16 : cod mX4_hasPlace 16 (.iconst 0) 1 := by decide +kernel
theorem dX4_hasPlace_17 : cod mX4_hasPlace 17 (.ireturn) 1 := by decide +kernel
def wp_X4_hasPlace (p0 : Nat) (p1 : Int32) (M : Mem) (Q : Int32 → Mem → Prop) : Prop := (p1 < (0 : Int32) → Q 0 M) ∧ (¬ p1 < (0 : Int32) → mK M p0 = 5 ∧ ((mI M p0 2) ≤ p1 → Q 0 M) ∧ (¬ (mI M p0 2) ≤ p1 → Q 1 M))
theorem T_X4_hasPlace {G : GG} {Q : Int32 → Mem → Prop} {M : Mem} {p0 : Nat} {p1 : Int32} (h : wp_X4_hasPlace p0 p1 M Q) : PMet G mX4_hasPlace 0 0 0 [.ref p0, .int p1] M (QI Q) :=
  mk_met (by decide) rfl rfl (by
    intro w hw x9 e9
    subst e9
    simp at hw) (Nat.le_of_ble_eq_true rfl) (s_pad (L1 := [some (.ref p0), some (.int p1)]) 2 rfl (s_iload_n (pc := 0) dX4_hasPlace_0 rfl (s_if_lt (pc := 1) (tgt := 16) dX4_hasPlace_1 rfl (fun c1 => have h2 := h.1 c1; s_iconst (pc := 16) dX4_hasPlace_16 ci_0 (s_zreturn (pc := 17) dX4_hasPlace_17 rfl (Or.inl rfl) (Nat.zero_le _) (Nat.zero_le _) ⟨_, rfl, h2⟩)) (fun c3 => have h4 := h.2 c3; s_iload_n (pc := 4) dX4_hasPlace_4 rfl (s_aload_n (pc := 5) dX4_hasPlace_5 rfl (s_getI (pc := 6) dX4_hasPlace_6 f_X4_23 rfl h4.1 (s_icmp_ge (pc := 9) (tgt := 16) dX4_hasPlace_9 rfl (fun c5 => have h6 := h4.2.1 c5; s_iconst (pc := 16) dX4_hasPlace_16 ci_0 (s_zreturn (pc := 17) dX4_hasPlace_17 rfl (Or.inl rfl) (Nat.zero_le _) (Nat.zero_le _) ⟨_, rfl, h6⟩)) (fun c7 => have h8 := h4.2.2 c7; s_iconst (pc := 12) dX4_hasPlace_12 ci_1 (s_goto (pc := 13) (tgt := 17) dX4_hasPlace_13 rfl (s_zreturn (pc := 17) dX4_hasPlace_17 rfl (Or.inr rfl) (Nat.zero_le _) (Nat.zero_le _) ⟨_, rfl, h8⟩))))))))))
/-! X0_close -/
theorem dX0_close_0 : cod mX0_close 0 (.aload_n 0) 1 := by decide +kernel
theorem dX0_close_1 : cod mX0_close 1 (.getfield 11) 3 := by decide +kernel
theorem dX0_close_4 : cod mX0_close 4 (.iload_n 2) 1 := by decide +kernel
theorem dX0_close_5 : cod mX0_close 5 (.aaload) 1 := by decide +kernel
theorem dX0_close_6 : cod mX0_close 6 (.getfield 66) 3 := by decide +kernel
theorem dX0_close_9 : cod mX0_close 9 (.istore 5) 2 := by decide +kernel
theorem dX0_close_11 : cod mX0_close 11 (.iconst 0) 1 := by decide +kernel
theorem dX0_close_12 : cod mX0_close 12 (.istore 6) 2 := by decide +kernel
theorem dX0_close_14 : cod mX0_close 14 (.iload 6) 2 := by decide +kernel
theorem dX0_close_16 : cod mX0_close 16 (.aload_n 1) 1 := by decide +kernel
theorem dX0_close_17 : cod mX0_close 17 (.getfield 102) 3 := by decide +kernel
theorem dX0_close_20 : cod mX0_close 20 (.if_icmp .ge 68) 3 := by decide +kernel
theorem dX0_close_23 : cod mX0_close 23 (.aload_n 0) 1 := by decide +kernel
theorem dX0_close_24 : cod mX0_close 24 (.dup) 1 := by decide +kernel
theorem dX0_close_25 : cod mX0_close 25 (.getfield 95) 3 := by decide +kernel
theorem dX0_close_28 : cod mX0_close 28 (.aload_n 0) 1 := by decide +kernel
theorem dX0_close_29 : cod mX0_close 29 (.getfield 19) 3 := by decide +kernel
theorem dX0_close_32 : cod mX0_close 32 (.iload_n 2) 1 := by decide +kernel
theorem dX0_close_33 : cod mX0_close 33 (.aaload) 1 := by decide +kernel
theorem dX0_close_34 : cod mX0_close 34 (.iload 6) 2 := by decide +kernel
theorem dX0_close_36 : cod mX0_close 36 (.laload) 1 := by decide +kernel
theorem dX0_close_37 : cod mX0_close 37 (.iload_n 3) 1 := by decide +kernel
theorem dX0_close_38 : cod mX0_close 38 (.iload 5) 2 := by decide +kernel
theorem dX0_close_40 : cod mX0_close 40 (.aload_n 1) 1 := by decide +kernel
theorem dX0_close_41 : cod mX0_close 41 (.getfield 125) 3 := by decide +kernel
theorem dX0_close_44 : cod mX0_close 44 (.iload 6) 2 := by decide +kernel
theorem dX0_close_46 : cod mX0_close 46 (.iaload) 1 := by decide +kernel
theorem dX0_close_47 : cod mX0_close 47 (.imul) 1 := by decide +kernel
theorem dX0_close_48 : cod mX0_close 48 (.iadd) 1 := by decide +kernel
theorem dX0_close_49 : cod mX0_close 49 (.i2l) 1 := by decide +kernel
theorem dX0_close_50 : cod mX0_close 50 (.lmul) 1 := by decide +kernel
theorem dX0_close_51 : cod mX0_close 51 (.ladd) 1 := by decide +kernel
theorem dX0_close_52 : cod mX0_close 52 (.putfield 95) 3 := by decide +kernel
theorem dX0_close_55 : cod mX0_close 55 (.aload_n 0) 1 := by decide +kernel
theorem dX0_close_56 : cod mX0_close 56 (.dup) 1 := by decide +kernel
theorem dX0_close_57 : cod mX0_close 57 (.getfield 99) 3 := by decide +kernel
theorem dX0_close_60 : cod mX0_close 60 (.iload 4) 2 := by decide +kernel
theorem dX0_close_62 : cod mX0_close 62 (.ifCond .eq 15) 3 := by decide +kernel
theorem dX0_close_65 : cod mX0_close 65 (.aload_n 0) 1 := by decide +kernel
theorem dX0_close_66 : cod mX0_close 66 (.getfield 19) 3 := by decide +kernel
theorem dX0_close_69 : cod mX0_close 69 (.iload_n 2) 1 := by decide +kernel
theorem dX0_close_70 : cod mX0_close 70 (.aaload) 1 := by decide +kernel
theorem dX0_close_71 : cod mX0_close 71 (.iload 6) 2 := by decide +kernel
theorem dX0_close_73 : cod mX0_close 73 (.laload) 1 := by decide +kernel
theorem dX0_close_74 : cod mX0_close 74 (.goto 4) 3 := by decide +kernel
theorem dX0_close_77 : cod mX0_close 77 (.lconst 0) 1 := by decide +kernel
theorem dX0_close_78 : cod mX0_close 78 (.ladd) 1 := by decide +kernel
theorem dX0_close_79 : cod mX0_close 79 (.putfield 99) 3 := by decide +kernel
theorem dX0_close_82 : cod mX0_close 82 (.iinc 6 1) 3 := by decide +kernel
theorem dX0_close_85 : cod mX0_close 85 (.goto (-71)) 3 := by decide +kernel
theorem dX0_close_88 : cod mX0_close 88 (.return_) 1 := by decide +kernel
def jn_X0_close_78 (K14 : Nat → Nat → Int32 → Int32 → Int32 → Int32 → Int32 → Mem → Prop) (Q : Mem → Prop) (x0 : Nat) (x1 : Nat) (x2 : Int32) (x3 : Int32) (x4 : Int32) (x5 : Int32) (x6 : Int32) (s0 : Int64) (s1 : Int64) (s2 : Nat) (M : Mem) : Prop := mK M s2 = 1 ∧ ∀ M15 : Mem, M15 = uJ M s2 3 (s1 + s0) → K14 x0 x1 x2 x3 x4 x5 (x6 + 1) M15
theorem P_jn_X0_close_78 {G : GG} {K14 : Nat → Nat → Int32 → Int32 → Int32 → Int32 → Int32 → Mem → Prop} {Q : Mem → Prop} (hK14 : ∀ (x0 : Nat) (x1 : Nat) (x2 : Int32) (x3 : Int32) (x4 : Int32) (x5 : Int32) (x6 : Int32) (M : Mem), K14 x0 x1 x2 x3 x4 x5 x6 M → PW G mX0_close (rmD 0 0 0) (QV Q) 14 [some (.ref x0), some (.ref x1), some (.int x2), some (.int x3), some (.int x4), some (.int x5), some (.int x6)] [] M 0 0) (x0 : Nat) (x1 : Nat) (x2 : Int32) (x3 : Int32) (x4 : Int32) (x5 : Int32) (x6 : Int32) (s0 : Int64) (s1 : Int64) (s2 : Nat) (M : Mem) (h : jn_X0_close_78 K14 Q x0 x1 x2 x3 x4 x5 x6 s0 s1 s2 M) : PW G mX0_close (rmD 0 0 0) (QV Q) 78 [some (.ref x0), some (.ref x1), some (.int x2), some (.int x3), some (.int x4), some (.int x5), some (.int x6)] [.long s0, .long s1, .ref s2] M 0 0 := (s_ladd (pc := 78) dX0_close_78 (s_putJ (pc := 79) dX0_close_79 f_X0_99 (Or.inl rfl) rfl h.1 (nmM (fun M15 e16 => have h17 := h.2 M15 e16; s_iinc (pc := 82) (L1 := [some (.ref x0), some (.ref x1), some (.int x2), some (.int x3), some (.int x4), some (.int x5), some (.int (x6 + 1))]) dX0_close_82 rfl ci_1 (Nat.le_of_ble_eq_true rfl) rfl (s_goto (pc := 85) (tgt := 14) dX0_close_85 rfl (s_sel (L1 := [some (.ref x0), some (.ref x1), some (.int x2), some (.int x3), some (.int x4), some (.int x5), some (.int (x6 + 1))]) [true, true, true, true, true, true, true] rfl (hK14 x0 x1 x2 x3 x4 x5 (x6 + 1) M15 h17)))))))
def lp_X0_close_14 (Q : Mem → Prop) : Nat → Nat → Nat → Int32 → Int32 → Int32 → Int32 → Int32 → Mem → Prop
  | 0 => fun _ _ _ _ _ _ _ _ => False
  | n + 1 => fun x0 x1 x2 x3 x4 x5 x6 M => mK M x1 = 7 ∧ ((mI M x1 0) ≤ x6 → Q M) ∧ (¬ (mI M x1 0) ≤ x6 → mK M x0 = 1 ∧ mK M (mR M x0 1) = 25 ∧ vp_in x2 (mN M (mR M x0 1)) ∧ mK M (mR M (mR M x0 1) x2.toNatClampNeg) = 21 ∧ vp_in x6 (mN M (mR M (mR M x0 1) x2.toNatClampNeg)) ∧ mK M (mR M x1 2) = 20 ∧ vp_in x6 (mN M (mR M x1 2)) ∧ ∀ M8 : Mem, M8 = uJ M x0 2 ((mJ M x0 2) + ((mJ M (mR M (mR M x0 1) x2.toNatClampNeg) x6.toNatClampNeg) * ((x3 + (x5 * (mI M (mR M x1 2) x6.toNatClampNeg))).toInt64))) → (x4 = (0 : Int32) → jn_X0_close_78 (fun fx0 fx1 fx2 fx3 fx4 fx5 fx6 fM => lp_X0_close_14 Q n fx0 fx1 fx2 fx3 fx4 fx5 fx6 fM) Q x0 x1 x2 x3 x4 x5 x6 0 (mJ M8 x0 3) x0 M8) ∧ (¬ x4 = (0 : Int32) → mK M8 (mR M8 x0 1) = 25 ∧ vp_in x2 (mN M8 (mR M8 x0 1)) ∧ mK M8 (mR M8 (mR M8 x0 1) x2.toNatClampNeg) = 21 ∧ vp_in x6 (mN M8 (mR M8 (mR M8 x0 1) x2.toNatClampNeg)) ∧ jn_X0_close_78 (fun fx0 fx1 fx2 fx3 fx4 fx5 fx6 fM => lp_X0_close_14 Q n fx0 fx1 fx2 fx3 fx4 fx5 fx6 fM) Q x0 x1 x2 x3 x4 x5 x6 (mJ M8 (mR M8 (mR M8 x0 1) x2.toNatClampNeg) x6.toNatClampNeg) (mJ M8 x0 3) x0 M8))
theorem P_lp_X0_close_14 {G : GG} {Q : Mem → Prop} : ∀ (n : Nat) (x0 : Nat) (x1 : Nat) (x2 : Int32) (x3 : Int32) (x4 : Int32) (x5 : Int32) (x6 : Int32) (M : Mem), lp_X0_close_14 Q n x0 x1 x2 x3 x4 x5 x6 M → PW G mX0_close (rmD 0 0 0) (QV Q) 14 [some (.ref x0), some (.ref x1), some (.int x2), some (.int x3), some (.int x4), some (.int x5), some (.int x6)] [] M 0 0 := by
  intro n
  induction n with
  | zero => intro x0 x1 x2 x3 x4 x5 x6 M h; exact h.elim
  | succ n ih =>
    intro x0 x1 x2 x3 x4 x5 x6 M h
    exact (s_iload (pc := 14) dX0_close_14 rfl (s_aload_n (pc := 16) dX0_close_16 rfl (s_getI (pc := 17) dX0_close_17 f_X0_102 rfl h.1 (s_icmp_ge (pc := 20) (tgt := 88) dX0_close_20 rfl (fun c4 => have h5 := h.2.1 c4; s_return (pc := 88) dX0_close_88 rfl (Nat.zero_le _) (Nat.zero_le _) ⟨rfl, h5⟩) (fun c6 => have h7 := h.2.2 c6; s_aload_n (pc := 23) dX0_close_23 rfl (s_dup (pc := 24) dX0_close_24 rfl (s_getJ (pc := 25) dX0_close_25 f_X0_95 rfl h7.1 (s_aload_n (pc := 28) dX0_close_28 rfl (s_getR (pc := 29) dX0_close_29 f_X0_19 rfl h7.1 (s_iload_n (pc := 32) dX0_close_32 rfl (s_aal (pc := 33) (t := 5) dX0_close_33 (Nat.le_of_ble_eq_true rfl) (Nat.le_of_ble_eq_true rfl) h7.2.1 h7.2.2.1 (s_iload (pc := 34) dX0_close_34 rfl (s_lal (pc := 36) dX0_close_36 h7.2.2.2.1 h7.2.2.2.2.1 (s_iload_n (pc := 37) dX0_close_37 rfl (s_iload (pc := 38) dX0_close_38 rfl (s_aload_n (pc := 40) dX0_close_40 rfl (s_getR (pc := 41) dX0_close_41 f_X0_125 rfl h.1 (s_iload (pc := 44) dX0_close_44 rfl (s_ial (pc := 46) dX0_close_46 h7.2.2.2.2.2.1 h7.2.2.2.2.2.2.1 (s_imul (pc := 47) dX0_close_47 (s_iadd (pc := 48) dX0_close_48 (s_i2l (pc := 49) dX0_close_49 (s_lmul (pc := 50) dX0_close_50 (s_ladd (pc := 51) dX0_close_51 (s_putJ (pc := 52) dX0_close_52 f_X0_95 (Or.inl rfl) rfl h7.1 (nmM (fun M8 e9 => have h10 := h7.2.2.2.2.2.2.2 M8 e9; s_aload_n (pc := 55) dX0_close_55 rfl (s_dup (pc := 56) dX0_close_56 rfl (s_getJ (pc := 57) dX0_close_57 f_X0_99 rfl ((congrFun (congrArg mK e9) x0).trans h7.1) (s_iload (pc := 60) dX0_close_60 rfl (s_if_eq (pc := 62) (tgt := 77) dX0_close_62 rfl (fun c11 => have h12 := h10.1 c11; s_lconst (pc := 77) (v := 0) dX0_close_77 rfl (s_sel (L1 := [some (.ref x0), some (.ref x1), some (.int x2), some (.int x3), some (.int x4), some (.int x5), some (.int x6)]) [true, true, true, true, true, true, true] rfl (P_jn_X0_close_78 ih x0 x1 x2 x3 x4 x5 x6 0 (mJ M8 x0 3) x0 M8 h12))) (fun c13 => have h14 := h10.2 c13; s_aload_n (pc := 65) dX0_close_65 rfl (s_getR (pc := 66) dX0_close_66 f_X0_19 rfl ((congrFun (congrArg mK e9) x0).trans h7.1) (s_iload_n (pc := 69) dX0_close_69 rfl (s_aal (pc := 70) (t := 5) dX0_close_70 (Nat.le_of_ble_eq_true rfl) (Nat.le_of_ble_eq_true rfl) h14.1 h14.2.1 (s_iload (pc := 71) dX0_close_71 rfl (s_lal (pc := 73) dX0_close_73 h14.2.2.1 h14.2.2.2.1 (s_goto (pc := 74) (tgt := 78) dX0_close_74 rfl (s_sel (L1 := [some (.ref x0), some (.ref x1), some (.int x2), some (.int x3), some (.int x4), some (.int x5), some (.int x6)]) [true, true, true, true, true, true, true] rfl (P_jn_X0_close_78 ih x0 x1 x2 x3 x4 x5 x6 (mJ M8 (mR M8 (mR M8 x0 1) x2.toNatClampNeg) x6.toNatClampNeg) (mJ M8 x0 3) x0 M8 h14.2.2.2.2))))))))))))))))))))))))))))))))))))))))
def wp_X0_close (p0 : Nat) (p1 : Nat) (p2 : Int32) (p3 : Int32) (p4 : Int32) (M : Mem) (Q : Mem → Prop) : Prop := mK M p0 = 1 ∧ mK M (mR M p0 0) = 23 ∧ vp_in p2 (mN M (mR M p0 0)) ∧ mK M (mR M (mR M p0 0) p2.toNatClampNeg) = 10 ∧ ∀ y1 : Int32, y1 = mI M (mR M (mR M p0 0) p2.toNatClampNeg) 1 → ∃ n18 : Nat, lp_X0_close_14 Q n18 p0 p1 p2 p3 p4 y1 0 M
theorem T_X0_close {G : GG} {Q : Mem → Prop} {M : Mem} {p0 : Nat} {p1 : Nat} {p2 : Int32} {p3 : Int32} {p4 : Int32} (h : wp_X0_close p0 p1 p2 p3 p4 M Q) : PMet G mX0_close 0 0 0 [.ref p0, .ref p1, .int p2, .int p3, .int p4] M (QV Q) :=
  mk_met (by decide) rfl rfl (by
    intro w hw x9 e9
    subst e9
    simp at hw) (Nat.le_of_ble_eq_true rfl) (s_pad (L1 := [some (.ref p0), some (.ref p1), some (.int p2), some (.int p3), some (.int p4), none, none]) 7 rfl (s_aload_n (pc := 0) dX0_close_0 rfl (s_getR (pc := 1) dX0_close_1 f_X0_11 rfl h.1 (s_iload_n (pc := 4) dX0_close_4 rfl (s_aal (pc := 5) (t := 3) dX0_close_5 (Nat.le_of_ble_eq_true rfl) (Nat.le_of_ble_eq_true rfl) h.2.1 h.2.2.1 (s_getI (pc := 6) dX0_close_6 f_X0_66 rfl h.2.2.2.1 (nmI (fun y1 e2 => have h3 := h.2.2.2.2 y1 e2; s_istore (pc := 9) (L1 := [some (.ref p0), some (.ref p1), some (.int p2), some (.int p3), some (.int p4), some (.int y1), none]) dX0_close_9 (Nat.le_of_ble_eq_true rfl) rfl (s_iconst (pc := 11) dX0_close_11 ci_0 (s_istore (pc := 12) (L1 := [some (.ref p0), some (.ref p1), some (.int p2), some (.int p3), some (.int p4), some (.int y1), some (.int 0)]) dX0_close_12 (Nat.le_of_ble_eq_true rfl) rfl (Exists.elim h3 (fun n18 hn => s_sel (L1 := [some (.ref p0), some (.ref p1), some (.int p2), some (.int p3), some (.int p4), some (.int y1), some (.int 0)]) [true, true, true, true, true, true, true] rfl (P_lp_X0_close_14 n18 p0 p1 p2 p3 p4 y1 0 M hn)))))))))))))
/-! X6_wouldBuy -/
theorem dX6_wouldBuy_0 : cod mX6_wouldBuy 0 (.aload_n 0) 1 := by decide +kernel
theorem dX6_wouldBuy_1 : cod mX6_wouldBuy 1 (.getfield 18) 3 := by decide +kernel
theorem dX6_wouldBuy_4 : cod mX6_wouldBuy 4 (.iload_n 1) 1 := by decide +kernel
theorem dX6_wouldBuy_5 : cod mX6_wouldBuy 5 (.iaload) 1 := by decide +kernel
theorem dX6_wouldBuy_6 : cod mX6_wouldBuy 6 (.tableswitch 75 0 3 #[30, 75, 46, 57]) 30 := by decide +kernel
theorem dX6_wouldBuy_36 : cod mX6_wouldBuy 36 (.iload_n 3) 1 := by decide +kernel
theorem dX6_wouldBuy_37 : cod mX6_wouldBuy 37 (.aload_n 0) 1 := by decide +kernel
theorem dX6_wouldBuy_38 : cod mX6_wouldBuy 38 (.getfield 24) 3 := by decide +kernel
theorem dX6_wouldBuy_41 : cod mX6_wouldBuy 41 (.iload_n 1) 1 := by decide +kernel
theorem dX6_wouldBuy_42 : cod mX6_wouldBuy 42 (.iaload) 1 := by decide +kernel
theorem dX6_wouldBuy_43 : cod mX6_wouldBuy 43 (.if_icmp .gt 7) 3 := by decide +kernel
theorem dX6_wouldBuy_46 : cod mX6_wouldBuy 46 (.iconst 1) 1 := by decide +kernel
theorem dX6_wouldBuy_47 : cod mX6_wouldBuy 47 (.goto 4) 3 := by decide +kernel
theorem dX6_wouldBuy_50 : cod mX6_wouldBuy 50 (.iconst 0) 1 := by decide +kernel
theorem dX6_wouldBuy_51 : cod mX6_wouldBuy 51 (.ireturn) 1 := by decide +kernel
theorem dX6_wouldBuy_52 : cod mX6_wouldBuy 52 (.iload_n 2) 1 := by decide +kernel
theorem dX6_wouldBuy_53 : cod mX6_wouldBuy 53 (.iload_n 3) 1 := by decide +kernel
theorem dX6_wouldBuy_54 : cod mX6_wouldBuy 54 (.if_icmp .le 7) 3 := by decide +kernel
theorem dX6_wouldBuy_57 : cod mX6_wouldBuy 57 (.iconst 1) 1 := by decide +kernel
theorem dX6_wouldBuy_58 : cod mX6_wouldBuy 58 (.goto 4) 3 := by decide +kernel
theorem dX6_wouldBuy_61 : cod mX6_wouldBuy 61 (.iconst 0) 1 := by decide +kernel
theorem dX6_wouldBuy_62 : cod mX6_wouldBuy 62 (.ireturn) 1 := by decide +kernel
theorem dX6_wouldBuy_63 : cod mX6_wouldBuy 63 (.iload_n 2) 1 := by decide +kernel
theorem dX6_wouldBuy_64 : cod mX6_wouldBuy 64 (.iload_n 3) 1 := by decide +kernel
theorem dX6_wouldBuy_65 : cod mX6_wouldBuy 65 (.isub) 1 := by decide +kernel
theorem dX6_wouldBuy_66 : cod mX6_wouldBuy 66 (.aload_n 0) 1 := by decide +kernel
theorem dX6_wouldBuy_67 : cod mX6_wouldBuy 67 (.getfield 24) 3 := by decide +kernel
theorem dX6_wouldBuy_70 : cod mX6_wouldBuy 70 (.iload_n 1) 1 := by decide +kernel
theorem dX6_wouldBuy_71 : cod mX6_wouldBuy 71 (.iaload) 1 := by decide +kernel
theorem dX6_wouldBuy_72 : cod mX6_wouldBuy 72 (.if_icmp .le 7) 3 := by decide +kernel
theorem dX6_wouldBuy_75 : cod mX6_wouldBuy 75 (.iconst 1) 1 := by decide +kernel
theorem dX6_wouldBuy_76 : cod mX6_wouldBuy 76 (.goto 4) 3 := by decide +kernel
theorem dX6_wouldBuy_79 : cod mX6_wouldBuy 79 (.iconst 0) 1 := by decide +kernel
theorem dX6_wouldBuy_80 : cod mX6_wouldBuy 80 (.ireturn) 1 := by decide +kernel
theorem dX6_wouldBuy_81 : cod mX6_wouldBuy 81 (.iconst 0) 1 := by decide +kernel
theorem dX6_wouldBuy_82 : cod mX6_wouldBuy 82 (.ireturn) 1 := by decide +kernel
def wp_X6_wouldBuy (p0 : Nat) (p1 : Int32) (p2 : Int32) (p3 : Int32) (M : Mem) (Q : Int32 → Mem → Prop) : Prop := mK M p0 = 7 ∧ mK M (mR M p0 4) = 20 ∧ vp_in p1 (mN M (mR M p0 4)) ∧ (((mI M (mR M p0 4) p1.toNatClampNeg).toInt < 0 ∨ 3 < (mI M (mR M p0 4) p1.toNatClampNeg).toInt) → Q 0 M) ∧ ((mI M (mR M p0 4) p1.toNatClampNeg) = 0 → mK M (mR M p0 6) = 20 ∧ vp_in p1 (mN M (mR M p0 6)) ∧ ((mI M (mR M p0 6) p1.toNatClampNeg) < p3 → Q 0 M) ∧ (¬ (mI M (mR M p0 6) p1.toNatClampNeg) < p3 → Q 1 M)) ∧ ((mI M (mR M p0 4) p1.toNatClampNeg) = 1 → Q 0 M) ∧ ((mI M (mR M p0 4) p1.toNatClampNeg) = 2 → (p2 ≤ p3 → Q 0 M) ∧ (¬ p2 ≤ p3 → Q 1 M)) ∧ ((mI M (mR M p0 4) p1.toNatClampNeg) = 3 → mK M (mR M p0 6) = 20 ∧ vp_in p1 (mN M (mR M p0 6)) ∧ ((p2 - p3) ≤ (mI M (mR M p0 6) p1.toNatClampNeg) → Q 0 M) ∧ (¬ (p2 - p3) ≤ (mI M (mR M p0 6) p1.toNatClampNeg) → Q 1 M))
theorem T_X6_wouldBuy {G : GG} {Q : Int32 → Mem → Prop} {M : Mem} {p0 : Nat} {p1 : Int32} {p2 : Int32} {p3 : Int32} (h : wp_X6_wouldBuy p0 p1 p2 p3 M Q) : PMet G mX6_wouldBuy 0 0 0 [.ref p0, .int p1, .int p2, .int p3] M (QI Q) :=
  mk_met (by decide) rfl rfl (by
    intro w hw x9 e9
    subst e9
    simp at hw) (Nat.le_of_ble_eq_true rfl) (s_pad (L1 := [some (.ref p0), some (.int p1), some (.int p2), some (.int p3)]) 4 rfl (s_aload_n (pc := 0) dX6_wouldBuy_0 rfl (s_getR (pc := 1) dX6_wouldBuy_1 f_X6_18 rfl h.1 (s_iload_n (pc := 4) dX6_wouldBuy_4 rfl (s_ial (pc := 5) dX6_wouldBuy_5 h.2.1 h.2.2.1 (s_ts (pc := 6) (tgt := 81) dX6_wouldBuy_6 rfl (fun c2 => have h1 := h.2.2.2.1 c2; s_iconst (pc := 81) dX6_wouldBuy_81 ci_0 (s_zreturn (pc := 82) dX6_wouldBuy_82 rfl (Or.inl rfl) (Nat.zero_le _) (Nat.zero_le _) ⟨_, rfl, h1⟩)) (by
      intro j hx hle
      match j, hx, hle with
      | 0, hx, _ => exact ⟨30, 36, rfl, rfl, have c4 : (mI M (mR M p0 4) p1.toNatClampNeg) = 0 := eqI hx (by decide); have h3 := h.2.2.2.2.1 c4; s_iload_n (pc := 36) dX6_wouldBuy_36 rfl (s_aload_n (pc := 37) dX6_wouldBuy_37 rfl (s_getR (pc := 38) dX6_wouldBuy_38 f_X6_24 rfl h.1 (s_iload_n (pc := 41) dX6_wouldBuy_41 rfl (s_ial (pc := 42) dX6_wouldBuy_42 h3.1 h3.2.1 (s_icmp_gt (pc := 43) (tgt := 50) dX6_wouldBuy_43 rfl (fun c5 => have h6 := h3.2.2.1 c5; s_iconst (pc := 50) dX6_wouldBuy_50 ci_0 (s_zreturn (pc := 51) dX6_wouldBuy_51 rfl (Or.inl rfl) (Nat.zero_le _) (Nat.zero_le _) ⟨_, rfl, h6⟩)) (fun c7 => have h8 := h3.2.2.2 c7; s_iconst (pc := 46) dX6_wouldBuy_46 ci_1 (s_goto (pc := 47) (tgt := 51) dX6_wouldBuy_47 rfl (s_zreturn (pc := 51) dX6_wouldBuy_51 rfl (Or.inr rfl) (Nat.zero_le _) (Nat.zero_le _) ⟨_, rfl, h8⟩))))))))⟩
      | 1, hx, _ => exact ⟨75, 81, rfl, rfl, have c10 : (mI M (mR M p0 4) p1.toNatClampNeg) = 1 := eqI hx (by decide); have h9 := h.2.2.2.2.2.1 c10; s_iconst (pc := 81) dX6_wouldBuy_81 ci_0 (s_zreturn (pc := 82) dX6_wouldBuy_82 rfl (Or.inl rfl) (Nat.zero_le _) (Nat.zero_le _) ⟨_, rfl, h9⟩)⟩
      | 2, hx, _ => exact ⟨46, 52, rfl, rfl, have c12 : (mI M (mR M p0 4) p1.toNatClampNeg) = 2 := eqI hx (by decide); have h11 := h.2.2.2.2.2.2.1 c12; s_iload_n (pc := 52) dX6_wouldBuy_52 rfl (s_iload_n (pc := 53) dX6_wouldBuy_53 rfl (s_icmp_le (pc := 54) (tgt := 61) dX6_wouldBuy_54 rfl (fun c13 => have h14 := h11.1 c13; s_iconst (pc := 61) dX6_wouldBuy_61 ci_0 (s_zreturn (pc := 62) dX6_wouldBuy_62 rfl (Or.inl rfl) (Nat.zero_le _) (Nat.zero_le _) ⟨_, rfl, h14⟩)) (fun c15 => have h16 := h11.2 c15; s_iconst (pc := 57) dX6_wouldBuy_57 ci_1 (s_goto (pc := 58) (tgt := 62) dX6_wouldBuy_58 rfl (s_zreturn (pc := 62) dX6_wouldBuy_62 rfl (Or.inr rfl) (Nat.zero_le _) (Nat.zero_le _) ⟨_, rfl, h16⟩)))))⟩
      | 3, hx, _ => exact ⟨57, 63, rfl, rfl, have c18 : (mI M (mR M p0 4) p1.toNatClampNeg) = 3 := eqI hx (by decide); have h17 := h.2.2.2.2.2.2.2 c18; s_iload_n (pc := 63) dX6_wouldBuy_63 rfl (s_iload_n (pc := 64) dX6_wouldBuy_64 rfl (s_isub (pc := 65) dX6_wouldBuy_65 (s_aload_n (pc := 66) dX6_wouldBuy_66 rfl (s_getR (pc := 67) dX6_wouldBuy_67 f_X6_24 rfl h.1 (s_iload_n (pc := 70) dX6_wouldBuy_70 rfl (s_ial (pc := 71) dX6_wouldBuy_71 h17.1 h17.2.1 (s_icmp_le (pc := 72) (tgt := 79) dX6_wouldBuy_72 rfl (fun c19 => have h20 := h17.2.2.1 c19; s_iconst (pc := 79) dX6_wouldBuy_79 ci_0 (s_zreturn (pc := 80) dX6_wouldBuy_80 rfl (Or.inl rfl) (Nat.zero_le _) (Nat.zero_le _) ⟨_, rfl, h20⟩)) (fun c21 => have h22 := h17.2.2.2 c21; s_iconst (pc := 75) dX6_wouldBuy_75 ci_1 (s_goto (pc := 76) (tgt := 80) dX6_wouldBuy_76 rfl (s_zreturn (pc := 80) dX6_wouldBuy_80 rfl (Or.inr rfl) (Nat.zero_le _) (Nat.zero_le _) ⟨_, rfl, h22⟩))))))))))⟩
      | jj + 4, hx, hle => exact absurd hle (by omega))))))))
/-! X6_wouldSell -/
theorem dX6_wouldSell_0 : cod mX6_wouldSell 0 (.aload_n 0) 1 := by decide +kernel
theorem dX6_wouldSell_1 : cod mX6_wouldSell 1 (.getfield 18) 3 := by decide +kernel
theorem dX6_wouldSell_4 : cod mX6_wouldSell 4 (.iload_n 1) 1 := by decide +kernel
theorem dX6_wouldSell_5 : cod mX6_wouldSell 5 (.iaload) 1 := by decide +kernel
theorem dX6_wouldSell_6 : cod mX6_wouldSell 6 (.tableswitch 71 1 3 #[26, 42, 53]) 26 := by decide +kernel
theorem dX6_wouldSell_32 : cod mX6_wouldSell 32 (.iload_n 3) 1 := by decide +kernel
theorem dX6_wouldSell_33 : cod mX6_wouldSell 33 (.aload_n 0) 1 := by decide +kernel
theorem dX6_wouldSell_34 : cod mX6_wouldSell 34 (.getfield 24) 3 := by decide +kernel
theorem dX6_wouldSell_37 : cod mX6_wouldSell 37 (.iload_n 1) 1 := by decide +kernel
theorem dX6_wouldSell_38 : cod mX6_wouldSell 38 (.iaload) 1 := by decide +kernel
theorem dX6_wouldSell_39 : cod mX6_wouldSell 39 (.if_icmp .lt 7) 3 := by decide +kernel
theorem dX6_wouldSell_42 : cod mX6_wouldSell 42 (.iconst 1) 1 := by decide +kernel
theorem dX6_wouldSell_43 : cod mX6_wouldSell 43 (.goto 4) 3 := by decide +kernel
theorem dX6_wouldSell_46 : cod mX6_wouldSell 46 (.iconst 0) 1 := by decide +kernel
theorem dX6_wouldSell_47 : cod mX6_wouldSell 47 (.ireturn) 1 := by decide +kernel
theorem dX6_wouldSell_48 : cod mX6_wouldSell 48 (.iload_n 2) 1 := by decide +kernel
theorem dX6_wouldSell_49 : cod mX6_wouldSell 49 (.iload_n 3) 1 := by decide +kernel
theorem dX6_wouldSell_50 : cod mX6_wouldSell 50 (.if_icmp .ge 7) 3 := by decide +kernel
theorem dX6_wouldSell_53 : cod mX6_wouldSell 53 (.iconst 1) 1 := by decide +kernel
theorem dX6_wouldSell_54 : cod mX6_wouldSell 54 (.goto 4) 3 := by decide +kernel
theorem dX6_wouldSell_57 : cod mX6_wouldSell 57 (.iconst 0) 1 := by decide +kernel
theorem dX6_wouldSell_58 : cod mX6_wouldSell 58 (.ireturn) 1 := by decide +kernel
theorem dX6_wouldSell_59 : cod mX6_wouldSell 59 (.iload_n 3) 1 := by decide +kernel
theorem dX6_wouldSell_60 : cod mX6_wouldSell 60 (.iload_n 2) 1 := by decide +kernel
theorem dX6_wouldSell_61 : cod mX6_wouldSell 61 (.isub) 1 := by decide +kernel
theorem dX6_wouldSell_62 : cod mX6_wouldSell 62 (.aload_n 0) 1 := by decide +kernel
theorem dX6_wouldSell_63 : cod mX6_wouldSell 63 (.getfield 24) 3 := by decide +kernel
theorem dX6_wouldSell_66 : cod mX6_wouldSell 66 (.iload_n 1) 1 := by decide +kernel
theorem dX6_wouldSell_67 : cod mX6_wouldSell 67 (.iaload) 1 := by decide +kernel
theorem dX6_wouldSell_68 : cod mX6_wouldSell 68 (.if_icmp .le 7) 3 := by decide +kernel
theorem dX6_wouldSell_71 : cod mX6_wouldSell 71 (.iconst 1) 1 := by decide +kernel
theorem dX6_wouldSell_72 : cod mX6_wouldSell 72 (.goto 4) 3 := by decide +kernel
theorem dX6_wouldSell_75 : cod mX6_wouldSell 75 (.iconst 0) 1 := by decide +kernel
theorem dX6_wouldSell_76 : cod mX6_wouldSell 76 (.ireturn) 1 := by decide +kernel
theorem dX6_wouldSell_77 : cod mX6_wouldSell 77 (.iconst 0) 1 := by decide +kernel
theorem dX6_wouldSell_78 : cod mX6_wouldSell 78 (.ireturn) 1 := by decide +kernel
def wp_X6_wouldSell (p0 : Nat) (p1 : Int32) (p2 : Int32) (p3 : Int32) (M : Mem) (Q : Int32 → Mem → Prop) : Prop := mK M p0 = 7 ∧ mK M (mR M p0 4) = 20 ∧ vp_in p1 (mN M (mR M p0 4)) ∧ (((mI M (mR M p0 4) p1.toNatClampNeg).toInt < 1 ∨ 3 < (mI M (mR M p0 4) p1.toNatClampNeg).toInt) → Q 0 M) ∧ ((mI M (mR M p0 4) p1.toNatClampNeg) = 1 → mK M (mR M p0 6) = 20 ∧ vp_in p1 (mN M (mR M p0 6)) ∧ (p3 < (mI M (mR M p0 6) p1.toNatClampNeg) → Q 0 M) ∧ (¬ p3 < (mI M (mR M p0 6) p1.toNatClampNeg) → Q 1 M)) ∧ ((mI M (mR M p0 4) p1.toNatClampNeg) = 2 → (p3 ≤ p2 → Q 0 M) ∧ (¬ p3 ≤ p2 → Q 1 M)) ∧ ((mI M (mR M p0 4) p1.toNatClampNeg) = 3 → mK M (mR M p0 6) = 20 ∧ vp_in p1 (mN M (mR M p0 6)) ∧ ((p3 - p2) ≤ (mI M (mR M p0 6) p1.toNatClampNeg) → Q 0 M) ∧ (¬ (p3 - p2) ≤ (mI M (mR M p0 6) p1.toNatClampNeg) → Q 1 M))
theorem T_X6_wouldSell {G : GG} {Q : Int32 → Mem → Prop} {M : Mem} {p0 : Nat} {p1 : Int32} {p2 : Int32} {p3 : Int32} (h : wp_X6_wouldSell p0 p1 p2 p3 M Q) : PMet G mX6_wouldSell 0 0 0 [.ref p0, .int p1, .int p2, .int p3] M (QI Q) :=
  mk_met (by decide) rfl rfl (by
    intro w hw x9 e9
    subst e9
    simp at hw) (Nat.le_of_ble_eq_true rfl) (s_pad (L1 := [some (.ref p0), some (.int p1), some (.int p2), some (.int p3)]) 4 rfl (s_aload_n (pc := 0) dX6_wouldSell_0 rfl (s_getR (pc := 1) dX6_wouldSell_1 f_X6_18 rfl h.1 (s_iload_n (pc := 4) dX6_wouldSell_4 rfl (s_ial (pc := 5) dX6_wouldSell_5 h.2.1 h.2.2.1 (s_ts (pc := 6) (tgt := 77) dX6_wouldSell_6 rfl (fun c2 => have h1 := h.2.2.2.1 c2; s_iconst (pc := 77) dX6_wouldSell_77 ci_0 (s_zreturn (pc := 78) dX6_wouldSell_78 rfl (Or.inl rfl) (Nat.zero_le _) (Nat.zero_le _) ⟨_, rfl, h1⟩)) (by
      intro j hx hle
      match j, hx, hle with
      | 0, hx, _ => exact ⟨26, 32, rfl, rfl, have c4 : (mI M (mR M p0 4) p1.toNatClampNeg) = 1 := eqI hx (by decide); have h3 := h.2.2.2.2.1 c4; s_iload_n (pc := 32) dX6_wouldSell_32 rfl (s_aload_n (pc := 33) dX6_wouldSell_33 rfl (s_getR (pc := 34) dX6_wouldSell_34 f_X6_24 rfl h.1 (s_iload_n (pc := 37) dX6_wouldSell_37 rfl (s_ial (pc := 38) dX6_wouldSell_38 h3.1 h3.2.1 (s_icmp_lt (pc := 39) (tgt := 46) dX6_wouldSell_39 rfl (fun c5 => have h6 := h3.2.2.1 c5; s_iconst (pc := 46) dX6_wouldSell_46 ci_0 (s_zreturn (pc := 47) dX6_wouldSell_47 rfl (Or.inl rfl) (Nat.zero_le _) (Nat.zero_le _) ⟨_, rfl, h6⟩)) (fun c7 => have h8 := h3.2.2.2 c7; s_iconst (pc := 42) dX6_wouldSell_42 ci_1 (s_goto (pc := 43) (tgt := 47) dX6_wouldSell_43 rfl (s_zreturn (pc := 47) dX6_wouldSell_47 rfl (Or.inr rfl) (Nat.zero_le _) (Nat.zero_le _) ⟨_, rfl, h8⟩))))))))⟩
      | 1, hx, _ => exact ⟨42, 48, rfl, rfl, have c10 : (mI M (mR M p0 4) p1.toNatClampNeg) = 2 := eqI hx (by decide); have h9 := h.2.2.2.2.2.1 c10; s_iload_n (pc := 48) dX6_wouldSell_48 rfl (s_iload_n (pc := 49) dX6_wouldSell_49 rfl (s_icmp_ge (pc := 50) (tgt := 57) dX6_wouldSell_50 rfl (fun c11 => have h12 := h9.1 c11; s_iconst (pc := 57) dX6_wouldSell_57 ci_0 (s_zreturn (pc := 58) dX6_wouldSell_58 rfl (Or.inl rfl) (Nat.zero_le _) (Nat.zero_le _) ⟨_, rfl, h12⟩)) (fun c13 => have h14 := h9.2 c13; s_iconst (pc := 53) dX6_wouldSell_53 ci_1 (s_goto (pc := 54) (tgt := 58) dX6_wouldSell_54 rfl (s_zreturn (pc := 58) dX6_wouldSell_58 rfl (Or.inr rfl) (Nat.zero_le _) (Nat.zero_le _) ⟨_, rfl, h14⟩)))))⟩
      | 2, hx, _ => exact ⟨53, 59, rfl, rfl, have c16 : (mI M (mR M p0 4) p1.toNatClampNeg) = 3 := eqI hx (by decide); have h15 := h.2.2.2.2.2.2 c16; s_iload_n (pc := 59) dX6_wouldSell_59 rfl (s_iload_n (pc := 60) dX6_wouldSell_60 rfl (s_isub (pc := 61) dX6_wouldSell_61 (s_aload_n (pc := 62) dX6_wouldSell_62 rfl (s_getR (pc := 63) dX6_wouldSell_63 f_X6_24 rfl h.1 (s_iload_n (pc := 66) dX6_wouldSell_66 rfl (s_ial (pc := 67) dX6_wouldSell_67 h15.1 h15.2.1 (s_icmp_le (pc := 68) (tgt := 75) dX6_wouldSell_68 rfl (fun c17 => have h18 := h15.2.2.1 c17; s_iconst (pc := 75) dX6_wouldSell_75 ci_0 (s_zreturn (pc := 76) dX6_wouldSell_76 rfl (Or.inl rfl) (Nat.zero_le _) (Nat.zero_le _) ⟨_, rfl, h18⟩)) (fun c19 => have h20 := h15.2.2.2 c19; s_iconst (pc := 71) dX6_wouldSell_71 ci_1 (s_goto (pc := 72) (tgt := 76) dX6_wouldSell_72 rfl (s_zreturn (pc := 76) dX6_wouldSell_76 rfl (Or.inr rfl) (Nat.zero_le _) (Nat.zero_le _) ⟨_, rfl, h20⟩))))))))))⟩
      | jj + 3, hx, hle => exact absurd hle (by omega))))))))
/-! X6_dealOf -/
theorem dX6_dealOf_0 : cod mX6_dealOf 0 (.aload_n 0) 1 := by decide +kernel
theorem dX6_dealOf_1 : cod mX6_dealOf 1 (.iload_n 1) 1 := by decide +kernel
theorem dX6_dealOf_2 : cod mX6_dealOf 2 (.iload_n 2) 1 := by decide +kernel
theorem dX6_dealOf_3 : cod mX6_dealOf 3 (.iload 4) 2 := by decide +kernel
theorem dX6_dealOf_5 : cod mX6_dealOf 5 (.invokevirtual 62) 3 := by decide +kernel
theorem dX6_dealOf_8 : cod mX6_dealOf 8 (.ifCond .eq 5) 3 := by decide +kernel
theorem dX6_dealOf_11 : cod mX6_dealOf 11 (.iconst 1) 1 := by decide +kernel
theorem dX6_dealOf_12 : cod mX6_dealOf 12 (.ireturn) 1 := by decide +kernel
theorem dX6_dealOf_13 : cod mX6_dealOf 13 (.aload_n 0) 1 := by decide +kernel
theorem dX6_dealOf_14 : cod mX6_dealOf 14 (.iload_n 1) 1 := by decide +kernel
theorem dX6_dealOf_15 : cod mX6_dealOf 15 (.iload_n 2) 1 := by decide +kernel
theorem dX6_dealOf_16 : cod mX6_dealOf 16 (.iload_n 3) 1 := by decide +kernel
theorem dX6_dealOf_17 : cod mX6_dealOf 17 (.invokevirtual 66) 3 := by decide +kernel
theorem dX6_dealOf_20 : cod mX6_dealOf 20 (.ifCond .eq 7) 3 := by decide +kernel
theorem dX6_dealOf_23 : cod mX6_dealOf 23 (.iconst 2) 1 := by decide +kernel
theorem dX6_dealOf_24 : cod mX6_dealOf 24 (.goto 4) 3 := by decide +kernel
theorem dX6_dealOf_27 : cod mX6_dealOf 27 (.iconst 0) 1 := by decide +kernel
theorem dX6_dealOf_28 : cod mX6_dealOf 28 (.ireturn) 1 := by decide +kernel
def wp_X6_dealOf (p0 : Nat) (p1 : Int32) (p2 : Int32) (p3 : Int32) (p4 : Int32) (M : Mem) (Q : Int32 → Mem → Prop) : Prop := mK M p0 = 7 ∧ wp_X6_wouldBuy p0 p1 p2 p4 M (fun r3 M2 => (r3 = (0 : Int32) → mK M2 p0 = 7 ∧ wp_X6_wouldSell p0 p1 p2 p3 M2 (fun r10 M9 => (r10 = (0 : Int32) → Q 0 M9) ∧ (¬ r10 = (0 : Int32) → Q 2 M9))) ∧ (¬ r3 = (0 : Int32) → Q 1 M2))
theorem T_X6_dealOf {G : GG} {Q : Int32 → Mem → Prop} {M : Mem} {p0 : Nat} {p1 : Int32} {p2 : Int32} {p3 : Int32} {p4 : Int32} (h : wp_X6_dealOf p0 p1 p2 p3 p4 M Q) : PMet G mX6_dealOf 1 0 0 [.ref p0, .int p1, .int p2, .int p3, .int p4] M (QI Q) :=
  mk_met (by decide) rfl rfl (by
    intro w hw x9 e9
    subst e9
    simp at hw) (Nat.le_of_ble_eq_true rfl) (s_pad (L1 := [some (.ref p0), some (.int p1), some (.int p2), some (.int p3), some (.int p4)]) 5 rfl (s_aload_n (pc := 0) dX6_dealOf_0 rfl (s_iload_n (pc := 1) dX6_dealOf_1 rfl (s_iload_n (pc := 2) dX6_dealOf_2 rfl (s_iload (pc := 3) dX6_dealOf_3 rfl (s_callV (pc := 5) (As := [.int p1, .int p2, .int p4]) (rest := []) (d' := 0) (mc' := 0) (ms' := 0) dX6_dealOf_5 c_X6_62 (Nat.le_of_ble_eq_true rfl) rfl h.1 rfl rfl (Nat.le_of_ble_eq_true rfl) (rm_ok rfl rfl) ⟨Nat.le_refl 0, Nat.le_refl 0⟩ (T_X6_wouldBuy h.2) (kkI (fun r3 M2 h1 => s_if_eq (pc := 8) (tgt := 13) dX6_dealOf_8 rfl (fun c4 => have h5 := h1.1 c4; s_aload_n (pc := 13) dX6_dealOf_13 rfl (s_iload_n (pc := 14) dX6_dealOf_14 rfl (s_iload_n (pc := 15) dX6_dealOf_15 rfl (s_iload_n (pc := 16) dX6_dealOf_16 rfl (s_callV (pc := 17) (As := [.int p1, .int p2, .int p3]) (rest := []) (d' := 0) (mc' := 0) (ms' := 0) dX6_dealOf_17 c_X6_66 (Nat.le_of_ble_eq_true rfl) rfl h5.1 rfl rfl (Nat.le_of_ble_eq_true rfl) (rm_ok rfl rfl) ⟨Nat.le_refl 0, Nat.le_refl 0⟩ (T_X6_wouldSell h5.2) (kkI (fun r10 M9 h8 => s_if_eq (pc := 20) (tgt := 27) dX6_dealOf_20 rfl (fun c11 => have h12 := h8.1 c11; s_iconst (pc := 27) dX6_dealOf_27 ci_0 (s_ireturn (pc := 28) dX6_dealOf_28 rfl (Nat.zero_le _) (Nat.zero_le _) ⟨_, rfl, h12⟩)) (fun c13 => have h14 := h8.2 c13; s_iconst (pc := 23) dX6_dealOf_23 ci_2 (s_goto (pc := 24) (tgt := 28) dX6_dealOf_24 rfl (s_ireturn (pc := 28) dX6_dealOf_28 rfl (Nat.zero_le _) (Nat.zero_le _) ⟨_, rfl, h14⟩)))))))))) (fun c6 => have h7 := h1.2 c6; s_iconst (pc := 11) dX6_dealOf_11 ci_1 (s_ireturn (pc := 12) dX6_dealOf_12 rfl (Nat.zero_le _) (Nat.zero_le _) ⟨_, rfl, h7⟩))))))))))
/-! X0_openTo -/
theorem dX0_openTo_0 : cod mX0_openTo 0 (.iload_n 2) 1 := by decide +kernel
theorem dX0_openTo_1 : cod mX0_openTo 1 (.iconst 1) 1 := by decide +kernel
theorem dX0_openTo_2 : cod mX0_openTo 2 (.if_icmp .ne 17) 3 := by decide +kernel
theorem dX0_openTo_5 : cod mX0_openTo 5 (.aload_n 1) 1 := by decide +kernel
theorem dX0_openTo_6 : cod mX0_openTo 6 (.getfield 66) 3 := by decide +kernel
theorem dX0_openTo_9 : cod mX0_openTo 9 (.aload_n 0) 1 := by decide +kernel
theorem dX0_openTo_10 : cod mX0_openTo 10 (.getfield 92) 3 := by decide +kernel
theorem dX0_openTo_13 : cod mX0_openTo 13 (.ineg) 1 := by decide +kernel
theorem dX0_openTo_14 : cod mX0_openTo 14 (.if_icmp .gt 5) 3 := by decide +kernel
theorem dX0_openTo_17 : cod mX0_openTo 17 (.iconst 0) 1 := by decide +kernel
theorem dX0_openTo_18 : cod mX0_openTo 18 (.ireturn) 1 := by decide +kernel
theorem dX0_openTo_19 : cod mX0_openTo 19 (.iload_n 2) 1 := by decide +kernel
theorem dX0_openTo_20 : cod mX0_openTo 20 (.iconst 2) 1 := by decide +kernel
theorem dX0_openTo_21 : cod mX0_openTo 21 (.if_icmp .ne 16) 3 := by decide +kernel
theorem dX0_openTo_24 : cod mX0_openTo 24 (.aload_n 1) 1 := by decide +kernel
theorem dX0_openTo_25 : cod mX0_openTo 25 (.getfield 66) 3 := by decide +kernel
theorem dX0_openTo_28 : cod mX0_openTo 28 (.aload_n 0) 1 := by decide +kernel
theorem dX0_openTo_29 : cod mX0_openTo 29 (.getfield 92) 3 := by decide +kernel
theorem dX0_openTo_32 : cod mX0_openTo 32 (.if_icmp .lt 5) 3 := by decide +kernel
theorem dX0_openTo_35 : cod mX0_openTo 35 (.iconst 0) 1 := by decide +kernel
theorem dX0_openTo_36 : cod mX0_openTo 36 (.ireturn) 1 := by decide +kernel
theorem dX0_openTo_37 : cod mX0_openTo 37 (.iload_n 2) 1 := by decide +kernel
theorem dX0_openTo_38 : cod mX0_openTo 38 (.ireturn) 1 := by decide +kernel
def jn_X0_openTo_19 (Q : Int32 → Mem → Prop) (x0 : Nat) (x1 : Nat) (x2 : Int32) (M : Mem) : Prop := (¬ x2 = (2 : Int32) → Q x2 M) ∧ (x2 = (2 : Int32) → mK M x1 = 10 ∧ mK M x0 = 7 ∧ ((mI M x1 1) < (mI M x0 7) → Q x2 M) ∧ (¬ (mI M x1 1) < (mI M x0 7) → Q 0 M))
theorem P_jn_X0_openTo_19 {G : GG} {Q : Int32 → Mem → Prop} (x0 : Nat) (x1 : Nat) (x2 : Int32) (M : Mem) (h : jn_X0_openTo_19 Q x0 x1 x2 M) : PW G mX0_openTo (rmD 0 0 0) (QI Q) 19 [some (.ref x0), some (.ref x1), some (.int x2)] [] M 0 0 := (s_iload_n (pc := 19) dX0_openTo_19 rfl (s_iconst (pc := 20) dX0_openTo_20 ci_2 (s_icmp_ne (pc := 21) (tgt := 37) dX0_openTo_21 rfl (fun c5 => have h6 := h.1 c5; s_iload_n (pc := 37) dX0_openTo_37 rfl (s_ireturn (pc := 38) dX0_openTo_38 rfl (Nat.zero_le _) (Nat.zero_le _) ⟨_, rfl, h6⟩)) (fun c7 => have h8 := h.2 c7; s_aload_n (pc := 24) dX0_openTo_24 rfl (s_getI (pc := 25) dX0_openTo_25 f_X0_66 rfl h8.1 (s_aload_n (pc := 28) dX0_openTo_28 rfl (s_getI (pc := 29) dX0_openTo_29 f_X0_92 rfl h8.2.1 (s_icmp_lt (pc := 32) (tgt := 37) dX0_openTo_32 rfl (fun c9 => have h10 := h8.2.2.1 c9; s_iload_n (pc := 37) dX0_openTo_37 rfl (s_ireturn (pc := 38) dX0_openTo_38 rfl (Nat.zero_le _) (Nat.zero_le _) ⟨_, rfl, h10⟩)) (fun c11 => have h12 := h8.2.2.2 c11; s_iconst (pc := 35) dX0_openTo_35 ci_0 (s_ireturn (pc := 36) dX0_openTo_36 rfl (Nat.zero_le _) (Nat.zero_le _) ⟨_, rfl, h12⟩))))))))))
def wp_X0_openTo (p0 : Nat) (p1 : Nat) (p2 : Int32) (M : Mem) (Q : Int32 → Mem → Prop) : Prop := (¬ p2 = (1 : Int32) → jn_X0_openTo_19 Q p0 p1 p2 M) ∧ (p2 = (1 : Int32) → mK M p1 = 10 ∧ mK M p0 = 7 ∧ ((-(mI M p0 7)) < (mI M p1 1) → jn_X0_openTo_19 Q p0 p1 p2 M) ∧ (¬ (-(mI M p0 7)) < (mI M p1 1) → Q 0 M))
theorem T_X0_openTo {G : GG} {Q : Int32 → Mem → Prop} {M : Mem} {p0 : Nat} {p1 : Nat} {p2 : Int32} (h : wp_X0_openTo p0 p1 p2 M Q) : PMet G mX0_openTo 0 0 0 [.ref p0, .ref p1, .int p2] M (QI Q) :=
  mk_met (by decide) rfl rfl (by
    intro w hw x9 e9
    subst e9
    simp at hw) (Nat.le_of_ble_eq_true rfl) (s_pad (L1 := [some (.ref p0), some (.ref p1), some (.int p2)]) 3 rfl (s_iload_n (pc := 0) dX0_openTo_0 rfl (s_iconst (pc := 1) dX0_openTo_1 ci_1 (s_icmp_ne (pc := 2) (tgt := 19) dX0_openTo_2 rfl (fun c1 => have h2 := h.1 c1; s_sel (L1 := [some (.ref p0), some (.ref p1), some (.int p2)]) [true, true, true] rfl (P_jn_X0_openTo_19 p0 p1 p2 M h2)) (fun c3 => have h4 := h.2 c3; s_aload_n (pc := 5) dX0_openTo_5 rfl (s_getI (pc := 6) dX0_openTo_6 f_X0_66 rfl h4.1 (s_aload_n (pc := 9) dX0_openTo_9 rfl (s_getI (pc := 10) dX0_openTo_10 f_X0_92 rfl h4.2.1 (s_ineg (pc := 13) dX0_openTo_13 (s_icmp_gt (pc := 14) (tgt := 19) dX0_openTo_14 rfl (fun c13 => have h14 := h4.2.2.1 c13; s_sel (L1 := [some (.ref p0), some (.ref p1), some (.int p2)]) [true, true, true] rfl (P_jn_X0_openTo_19 p0 p1 p2 M h14)) (fun c15 => have h16 := h4.2.2.2 c15; s_iconst (pc := 17) dX0_openTo_17 ci_0 (s_ireturn (pc := 18) dX0_openTo_18 rfl (Nat.zero_le _) (Nat.zero_le _) ⟨_, rfl, h16⟩))))))))))))
/-! X0_eventBy -/
theorem dX0_eventBy_0 : cod mX0_eventBy 0 (.iload_n 3) 1 := by decide +kernel
theorem dX0_eventBy_1 : cod mX0_eventBy 1 (.ldc 76) 2 := by decide +kernel
theorem dX0_eventBy_3 : cod mX0_eventBy 3 (.iand) 1 := by decide +kernel
theorem dX0_eventBy_4 : cod mX0_eventBy 4 (.ldc 77) 2 := by decide +kernel
theorem dX0_eventBy_6 : cod mX0_eventBy 6 (.idiv) 1 := by decide +kernel
theorem dX0_eventBy_7 : cod mX0_eventBy 7 (.bipush 100) 2 := by decide +kernel
theorem dX0_eventBy_9 : cod mX0_eventBy 9 (.irem) 1 := by decide +kernel
theorem dX0_eventBy_10 : cod mX0_eventBy 10 (.istore 6) 2 := by decide +kernel
theorem dX0_eventBy_12 : cod mX0_eventBy 12 (.iconst 0) 1 := by decide +kernel
theorem dX0_eventBy_13 : cod mX0_eventBy 13 (.istore 7) 2 := by decide +kernel
theorem dX0_eventBy_15 : cod mX0_eventBy 15 (.iconst 0) 1 := by decide +kernel
theorem dX0_eventBy_16 : cod mX0_eventBy 16 (.istore 8) 2 := by decide +kernel
theorem dX0_eventBy_18 : cod mX0_eventBy 18 (.iload 8) 2 := by decide +kernel
theorem dX0_eventBy_20 : cod mX0_eventBy 20 (.aload_n 0) 1 := by decide +kernel
theorem dX0_eventBy_21 : cod mX0_eventBy 21 (.getfield 78) 3 := by decide +kernel
theorem dX0_eventBy_24 : cod mX0_eventBy 24 (.if_icmp .ge 45) 3 := by decide +kernel
theorem dX0_eventBy_27 : cod mX0_eventBy 27 (.iload 7) 2 := by decide +kernel
theorem dX0_eventBy_29 : cod mX0_eventBy 29 (.aload_n 0) 1 := by decide +kernel
theorem dX0_eventBy_30 : cod mX0_eventBy 30 (.getfield 81) 3 := by decide +kernel
theorem dX0_eventBy_33 : cod mX0_eventBy 33 (.iload 8) 2 := by decide +kernel
theorem dX0_eventBy_35 : cod mX0_eventBy 35 (.iaload) 1 := by decide +kernel
theorem dX0_eventBy_36 : cod mX0_eventBy 36 (.iadd) 1 := by decide +kernel
theorem dX0_eventBy_37 : cod mX0_eventBy 37 (.istore 7) 2 := by decide +kernel
theorem dX0_eventBy_39 : cod mX0_eventBy 39 (.iload 6) 2 := by decide +kernel
theorem dX0_eventBy_41 : cod mX0_eventBy 41 (.iload 7) 2 := by decide +kernel
theorem dX0_eventBy_43 : cod mX0_eventBy 43 (.if_icmp .ge 20) 3 := by decide +kernel
theorem dX0_eventBy_46 : cod mX0_eventBy 46 (.aload_n 0) 1 := by decide +kernel
theorem dX0_eventBy_47 : cod mX0_eventBy 47 (.aload_n 1) 1 := by decide +kernel
theorem dX0_eventBy_48 : cod mX0_eventBy 48 (.aload_n 0) 1 := by decide +kernel
theorem dX0_eventBy_49 : cod mX0_eventBy 49 (.iload 8) 2 := by decide +kernel
theorem dX0_eventBy_51 : cod mX0_eventBy 51 (.iload_n 2) 1 := by decide +kernel
theorem dX0_eventBy_52 : cod mX0_eventBy 52 (.iload 4) 2 := by decide +kernel
theorem dX0_eventBy_54 : cod mX0_eventBy 54 (.iload 5) 2 := by decide +kernel
theorem dX0_eventBy_56 : cod mX0_eventBy 56 (.invokevirtual 85) 3 := by decide +kernel
theorem dX0_eventBy_59 : cod mX0_eventBy 59 (.invokestatic 89) 3 := by decide +kernel
theorem dX0_eventBy_62 : cod mX0_eventBy 62 (.ireturn) 1 := by decide +kernel
theorem dX0_eventBy_63 : cod mX0_eventBy 63 (.iinc 8 1) 3 := by decide +kernel
theorem dX0_eventBy_66 : cod mX0_eventBy 66 (.goto (-48)) 3 := by decide +kernel
theorem dX0_eventBy_69 : cod mX0_eventBy 69 (.iconst 0) 1 := by decide +kernel
theorem dX0_eventBy_70 : cod mX0_eventBy 70 (.ireturn) 1 := by decide +kernel
def lp_X0_eventBy_18 (Q : Int32 → Mem → Prop) : Nat → Nat → Nat → Int32 → Int32 → Int32 → Int32 → Int32 → Int32 → Mem → Prop
  | 0 => fun _ _ _ _ _ _ _ _ _ => False
  | n + 1 => fun x0 x1 x2 x4 x5 x6 x7 x8 M => mK M x0 = 7 ∧ ((mI M x0 3) ≤ x8 → Q 0 M) ∧ (¬ (mI M x0 3) ≤ x8 → mK M (mR M x0 5) = 20 ∧ vp_in x8 (mN M (mR M x0 5)) ∧ ∀ y8 : Int32, y8 = x7 + (mI M (mR M x0 5) x8.toNatClampNeg) → (y8 ≤ x6 → (lp_X0_eventBy_18 Q n) x0 x1 x2 x4 x5 x6 y8 (x8 + 1) M) ∧ (¬ y8 ≤ x6 → wp_X6_dealOf x0 x8 x2 x4 x5 M (fun r17 M16 => wp_X0_openTo x0 x1 r17 M16 (fun r20 M19 => Q r20 M19))))
theorem P_lp_X0_eventBy_18 {G : GG} {Q : Int32 → Mem → Prop} : ∀ (n : Nat) (x0 : Nat) (x1 : Nat) (x2 : Int32) (x4 : Int32) (x5 : Int32) (x6 : Int32) (x7 : Int32) (x8 : Int32) (M : Mem), lp_X0_eventBy_18 Q n x0 x1 x2 x4 x5 x6 x7 x8 M → PW G mX0_eventBy (rmD 2 0 0) (QI Q) 18 [some (.ref x0), some (.ref x1), some (.int x2), none, some (.int x4), some (.int x5), some (.int x6), some (.int x7), some (.int x8)] [] M 0 0 := by
  intro n
  induction n with
  | zero => intro x0 x1 x2 x4 x5 x6 x7 x8 M h; exact h.elim
  | succ n ih =>
    intro x0 x1 x2 x4 x5 x6 x7 x8 M h
    exact (s_iload (pc := 18) dX0_eventBy_18 rfl (s_aload_n (pc := 20) dX0_eventBy_20 rfl (s_getI (pc := 21) dX0_eventBy_21 f_X0_78 rfl h.1 (s_icmp_ge (pc := 24) (tgt := 69) dX0_eventBy_24 rfl (fun c4 => have h5 := h.2.1 c4; s_iconst (pc := 69) dX0_eventBy_69 ci_0 (s_ireturn (pc := 70) dX0_eventBy_70 rfl (Nat.zero_le _) (Nat.zero_le _) ⟨_, rfl, h5⟩)) (fun c6 => have h7 := h.2.2 c6; s_iload (pc := 27) dX0_eventBy_27 rfl (s_aload_n (pc := 29) dX0_eventBy_29 rfl (s_getR (pc := 30) dX0_eventBy_30 f_X0_81 rfl h.1 (s_iload (pc := 33) dX0_eventBy_33 rfl (s_ial (pc := 35) dX0_eventBy_35 h7.1 h7.2.1 (s_iadd (pc := 36) dX0_eventBy_36 (nmI (fun y8 e9 => have h10 := h7.2.2 y8 e9; s_istore (pc := 37) (L1 := [some (.ref x0), some (.ref x1), some (.int x2), none, some (.int x4), some (.int x5), some (.int x6), some (.int y8), some (.int x8)]) dX0_eventBy_37 (Nat.le_of_ble_eq_true rfl) rfl (s_iload (pc := 39) dX0_eventBy_39 rfl (s_iload (pc := 41) dX0_eventBy_41 rfl (s_icmp_ge (pc := 43) (tgt := 63) dX0_eventBy_43 rfl (fun c11 => have h12 := h10.1 c11; s_iinc (pc := 63) (L1 := [some (.ref x0), some (.ref x1), some (.int x2), none, some (.int x4), some (.int x5), some (.int x6), some (.int y8), some (.int (x8 + 1))]) dX0_eventBy_63 rfl ci_1 (Nat.le_of_ble_eq_true rfl) rfl (s_goto (pc := 66) (tgt := 18) dX0_eventBy_66 rfl (s_sel (L1 := [some (.ref x0), some (.ref x1), some (.int x2), none, some (.int x4), some (.int x5), some (.int x6), some (.int y8), some (.int (x8 + 1))]) [true, true, true, false, true, true, true, true, true] rfl (ih x0 x1 x2 x4 x5 x6 y8 (x8 + 1) M h12)))) (fun c13 => have h14 := h10.2 c13; s_aload_n (pc := 46) dX0_eventBy_46 rfl (s_aload_n (pc := 47) dX0_eventBy_47 rfl (s_aload_n (pc := 48) dX0_eventBy_48 rfl (s_iload (pc := 49) dX0_eventBy_49 rfl (s_iload_n (pc := 51) dX0_eventBy_51 rfl (s_iload (pc := 52) dX0_eventBy_52 rfl (s_iload (pc := 54) dX0_eventBy_54 rfl (s_callV (pc := 56) (As := [.int x8, .int x2, .int x4, .int x5]) (rest := [.ref x1, .ref x0]) (d' := 1) (mc' := 0) (ms' := 0) dX0_eventBy_56 c_X0_85 (Nat.le_of_ble_eq_true rfl) rfl h.1 rfl rfl (Nat.le_of_ble_eq_true rfl) (rm_ok rfl rfl) ⟨Nat.le_refl 0, Nat.le_refl 0⟩ (T_X6_dealOf h14) (kkI (fun r17 M16 h15 => s_callS (pc := 59) (As := [.ref x0, .ref x1, .int r17]) (rest := []) (d' := 0) (mc' := 0) (ms' := 0) dX0_eventBy_59 c_X0_89 rfl rfl (Nat.le_of_ble_eq_true rfl) (rm_ok rfl rfl) ⟨Nat.le_refl 0, Nat.le_refl 0⟩ (T_X0_openTo h15) (kkI (fun r20 M19 h18 => s_ireturn (pc := 62) dX0_eventBy_62 rfl (Nat.zero_le _) (Nat.zero_le _) ⟨_, rfl, h18⟩)))))))))))))))))))))))))))
def wp_X0_eventBy (p0 : Nat) (p1 : Nat) (p2 : Int32) (p3 : Int32) (p4 : Int32) (p5 : Int32) (M : Mem) (Q : Int32 → Mem → Prop) : Prop := ∀ y1 : Int32, y1 = ((p3 &&& 2147483647) / 65536) - ((p3 &&& 2147483647) / 65536) / 100 * 100 → ∃ n21 : Nat, lp_X0_eventBy_18 Q n21 p0 p1 p2 p4 p5 y1 0 0 M
theorem T_X0_eventBy {G : GG} {Q : Int32 → Mem → Prop} {M : Mem} {p0 : Nat} {p1 : Nat} {p2 : Int32} {p3 : Int32} {p4 : Int32} {p5 : Int32} (h : wp_X0_eventBy p0 p1 p2 p3 p4 p5 M Q) : PMet G mX0_eventBy 2 0 0 [.ref p0, .ref p1, .int p2, .int p3, .int p4, .int p5] M (QI Q) :=
  mk_met (by decide) rfl rfl (by
    intro w hw x9 e9
    subst e9
    simp at hw) (Nat.le_of_ble_eq_true rfl) (s_pad (L1 := [some (.ref p0), some (.ref p1), some (.int p2), some (.int p3), some (.int p4), some (.int p5), none, none, none]) 9 rfl (s_iload_n (pc := 0) dX0_eventBy_0 rfl (s_ldc (pc := 1) dX0_eventBy_1 k_X0_76 (s_iand (pc := 3) dX0_eventBy_3 (s_ldc (pc := 4) dX0_eventBy_4 k_X0_77 (s_idiv (pc := 6) dX0_eventBy_6 (by decide) (s_bipush (pc := 7) dX0_eventBy_7 cb_100 (s_irem (pc := 9) dX0_eventBy_9 (by decide) (nmI (fun y1 e2 => have h3 := h y1 e2; s_istore (pc := 10) (L1 := [some (.ref p0), some (.ref p1), some (.int p2), some (.int p3), some (.int p4), some (.int p5), some (.int y1), none, none]) dX0_eventBy_10 (Nat.le_of_ble_eq_true rfl) rfl (s_iconst (pc := 12) dX0_eventBy_12 ci_0 (s_istore (pc := 13) (L1 := [some (.ref p0), some (.ref p1), some (.int p2), some (.int p3), some (.int p4), some (.int p5), some (.int y1), some (.int 0), none]) dX0_eventBy_13 (Nat.le_of_ble_eq_true rfl) rfl (s_iconst (pc := 15) dX0_eventBy_15 ci_0 (s_istore (pc := 16) (L1 := [some (.ref p0), some (.ref p1), some (.int p2), some (.int p3), some (.int p4), some (.int p5), some (.int y1), some (.int 0), some (.int 0)]) dX0_eventBy_16 (Nat.le_of_ble_eq_true rfl) rfl (Exists.elim h3 (fun n21 hn => s_sel (L1 := [some (.ref p0), some (.ref p1), some (.int p2), none, some (.int p4), some (.int p5), some (.int y1), some (.int 0), some (.int 0)]) [true, true, true, false, true, true, true, true, true] rfl (P_lp_X0_eventBy_18 n21 p0 p1 p2 p4 p5 y1 0 0 M hn)))))))))))))))))
/-! X9_fairBid -/
theorem dX9_fairBid_0 : cod mX9_fairBid 0 (.bipush 100) 2 := by decide +kernel
theorem dX9_fairBid_2 : cod mX9_fairBid 2 (.istore_n 2) 1 := by decide +kernel
theorem dX9_fairBid_3 : cod mX9_fairBid 3 (.iload_n 2) 1 := by decide +kernel
theorem dX9_fairBid_4 : cod mX9_fairBid 4 (.iconst 1) 1 := by decide +kernel
theorem dX9_fairBid_5 : cod mX9_fairBid 5 (.if_icmp .lt 94) 3 := by decide +kernel
theorem dX9_fairBid_8 : cod mX9_fairBid 8 (.lconst 0) 1 := by decide +kernel
theorem dX9_fairBid_9 : cod mX9_fairBid 9 (.lstore_n 3) 1 := by decide +kernel
theorem dX9_fairBid_10 : cod mX9_fairBid 10 (.lconst 0) 1 := by decide +kernel
theorem dX9_fairBid_11 : cod mX9_fairBid 11 (.lstore 5) 2 := by decide +kernel
theorem dX9_fairBid_13 : cod mX9_fairBid 13 (.iconst 0) 1 := by decide +kernel
theorem dX9_fairBid_14 : cod mX9_fairBid 14 (.istore 7) 2 := by decide +kernel
theorem dX9_fairBid_16 : cod mX9_fairBid 16 (.iload 7) 2 := by decide +kernel
theorem dX9_fairBid_18 : cod mX9_fairBid 18 (.aload_n 1) 1 := by decide +kernel
theorem dX9_fairBid_19 : cod mX9_fairBid 19 (.getfield 15) 3 := by decide +kernel
theorem dX9_fairBid_22 : cod mX9_fairBid 22 (.if_icmp .ge 53) 3 := by decide +kernel
theorem dX9_fairBid_25 : cod mX9_fairBid 25 (.aload_n 0) 1 := by decide +kernel
theorem dX9_fairBid_26 : cod mX9_fairBid 26 (.getfield 9) 3 := by decide +kernel
theorem dX9_fairBid_29 : cod mX9_fairBid 29 (.iload 7) 2 := by decide +kernel
theorem dX9_fairBid_31 : cod mX9_fairBid 31 (.laload) 1 := by decide +kernel
theorem dX9_fairBid_32 : cod mX9_fairBid 32 (.aload_n 1) 1 := by decide +kernel
theorem dX9_fairBid_33 : cod mX9_fairBid 33 (.getfield 40) 3 := by decide +kernel
theorem dX9_fairBid_36 : cod mX9_fairBid 36 (.iload 7) 2 := by decide +kernel
theorem dX9_fairBid_38 : cod mX9_fairBid 38 (.bipush 101) 2 := by decide +kernel
theorem dX9_fairBid_40 : cod mX9_fairBid 40 (.imul) 1 := by decide +kernel
theorem dX9_fairBid_41 : cod mX9_fairBid 41 (.iload_n 2) 1 := by decide +kernel
theorem dX9_fairBid_42 : cod mX9_fairBid 42 (.iadd) 1 := by decide +kernel
theorem dX9_fairBid_43 : cod mX9_fairBid 43 (.iaload) 1 := by decide +kernel
theorem dX9_fairBid_44 : cod mX9_fairBid 44 (.i2l) 1 := by decide +kernel
theorem dX9_fairBid_45 : cod mX9_fairBid 45 (.lmul) 1 := by decide +kernel
theorem dX9_fairBid_46 : cod mX9_fairBid 46 (.lstore 8) 2 := by decide +kernel
theorem dX9_fairBid_48 : cod mX9_fairBid 48 (.lload_n 3) 1 := by decide +kernel
theorem dX9_fairBid_49 : cod mX9_fairBid 49 (.lload 8) 2 := by decide +kernel
theorem dX9_fairBid_51 : cod mX9_fairBid 51 (.ladd) 1 := by decide +kernel
theorem dX9_fairBid_52 : cod mX9_fairBid 52 (.lstore_n 3) 1 := by decide +kernel
theorem dX9_fairBid_53 : cod mX9_fairBid 53 (.lload 5) 2 := by decide +kernel
theorem dX9_fairBid_55 : cod mX9_fairBid 55 (.lload 8) 2 := by decide +kernel
theorem dX9_fairBid_57 : cod mX9_fairBid 57 (.aload_n 1) 1 := by decide +kernel
theorem dX9_fairBid_58 : cod mX9_fairBid 58 (.getfield 79) 3 := by decide +kernel
theorem dX9_fairBid_61 : cod mX9_fairBid 61 (.iload 7) 2 := by decide +kernel
theorem dX9_fairBid_63 : cod mX9_fairBid 63 (.iaload) 1 := by decide +kernel
theorem dX9_fairBid_64 : cod mX9_fairBid 64 (.i2l) 1 := by decide +kernel
theorem dX9_fairBid_65 : cod mX9_fairBid 65 (.lmul) 1 := by decide +kernel
theorem dX9_fairBid_66 : cod mX9_fairBid 66 (.ladd) 1 := by decide +kernel
theorem dX9_fairBid_67 : cod mX9_fairBid 67 (.lstore 5) 2 := by decide +kernel
theorem dX9_fairBid_69 : cod mX9_fairBid 69 (.iinc 7 1) 3 := by decide +kernel
theorem dX9_fairBid_72 : cod mX9_fairBid 72 (.goto (-56)) 3 := by decide +kernel
theorem dX9_fairBid_75 : cod mX9_fairBid 75 (.lload_n 3) 1 := by decide +kernel
theorem dX9_fairBid_76 : cod mX9_fairBid 76 (.lconst 0) 1 := by decide +kernel
theorem dX9_fairBid_77 : cod mX9_fairBid 77 (.lcmp) 1 := by decide +kernel
theorem dX9_fairBid_78 : cod mX9_fairBid 78 (.ifCond .le 15) 3 := by decide +kernel
theorem dX9_fairBid_81 : cod mX9_fairBid 81 (.iload_n 2) 1 := by decide +kernel
theorem dX9_fairBid_82 : cod mX9_fairBid 82 (.i2l) 1 := by decide +kernel
theorem dX9_fairBid_83 : cod mX9_fairBid 83 (.lload_n 3) 1 := by decide +kernel
theorem dX9_fairBid_84 : cod mX9_fairBid 84 (.lmul) 1 := by decide +kernel
theorem dX9_fairBid_85 : cod mX9_fairBid 85 (.lload 5) 2 := by decide +kernel
theorem dX9_fairBid_87 : cod mX9_fairBid 87 (.lcmp) 1 := by decide +kernel
theorem dX9_fairBid_88 : cod mX9_fairBid 88 (.ifCond .gt 5) 3 := by decide +kernel
theorem dX9_fairBid_91 : cod mX9_fairBid 91 (.iload_n 2) 1 := by decide +kernel
theorem dX9_fairBid_92 : cod mX9_fairBid 92 (.ireturn) 1 := by decide +kernel
theorem dX9_fairBid_93 : cod mX9_fairBid 93 (.iinc 2 (-1)) 3 := by decide +kernel
theorem dX9_fairBid_96 : cod mX9_fairBid 96 (.goto (-93)) 3 := by decide +kernel
theorem dX9_fairBid_99 : cod mX9_fairBid 99 (.bipush (-4)) 2 := by decide +kernel
theorem dX9_fairBid_101 : cod mX9_fairBid 101 (.ireturn) 1 := by decide +kernel
def jn_X9_fairBid_93 (K3 : Nat → Nat → Int32 → Mem → Prop) (Q : Int32 → Mem → Prop) (x0 : Nat) (x1 : Nat) (x2 : Int32) (M : Mem) : Prop := K3 x0 x1 (x2 + (-1)) M
theorem P_jn_X9_fairBid_93 {G : GG} {K3 : Nat → Nat → Int32 → Mem → Prop} {Q : Int32 → Mem → Prop} (hK3 : ∀ (x0 : Nat) (x1 : Nat) (x2 : Int32) (M : Mem), K3 x0 x1 x2 M → PW G mX9_fairBid (rmD 0 0 0) (QI Q) 3 [some (.ref x0), some (.ref x1), some (.int x2), none, none, none, none, none, none, none] [] M 0 0) (x0 : Nat) (x1 : Nat) (x2 : Int32) (M : Mem) (h : jn_X9_fairBid_93 K3 Q x0 x1 x2 M) : PW G mX9_fairBid (rmD 0 0 0) (QI Q) 93 [some (.ref x0), some (.ref x1), some (.int x2), none, none, none, none, none, none, none] [] M 0 0 := (s_iinc (pc := 93) (L1 := [some (.ref x0), some (.ref x1), some (.int (x2 + (-1))), none, none, none, none, none, none, none]) dX9_fairBid_93 rfl ci_m1 (Nat.le_of_ble_eq_true rfl) rfl (s_goto (pc := 96) (tgt := 3) dX9_fairBid_96 rfl (s_sel (L1 := [some (.ref x0), some (.ref x1), some (.int (x2 + (-1))), none, none, none, none, none, none, none]) [true, true, true, false, false, false, false, false, false, false] rfl (hK3 x0 x1 (x2 + (-1)) M h))))
def lp_X9_fairBid_16 (K3 : Nat → Nat → Int32 → Mem → Prop) (Q : Int32 → Mem → Prop) : Nat → Nat → Nat → Int32 → Int64 → Int64 → Int32 → Mem → Prop
  | 0 => fun _ _ _ _ _ _ _ => False
  | n + 1 => fun x0 x1 x2 x3 x5 x7 M => mK M x1 = 7 ∧ ((mI M x1 0) ≤ x7 → (x3 ≤ (0 : Int64) → jn_X9_fairBid_93 K3 Q x0 x1 x2 M) ∧ (¬ x3 ≤ (0 : Int64) → (x5 < (x2.toInt64 * x3) → jn_X9_fairBid_93 K3 Q x0 x1 x2 M) ∧ (¬ x5 < (x2.toInt64 * x3) → Q x2 M))) ∧ (¬ (mI M x1 0) ≤ x7 → mK M x0 = 10 ∧ mK M (mR M x0 0) = 21 ∧ vp_in x7 (mN M (mR M x0 0)) ∧ mK M (mR M x1 11) = 20 ∧ vp_in ((x7 * 101) + x2) (mN M (mR M x1 11)) ∧ ∀ y17 : Int64, y17 = (mJ M (mR M x0 0) x7.toNatClampNeg) * ((mI M (mR M x1 11) ((x7 * 101) + x2).toNatClampNeg).toInt64) → ∀ y20 : Int64, y20 = x3 + y17 → mK M (mR M x1 2) = 20 ∧ vp_in x7 (mN M (mR M x1 2)) ∧ ∀ y23 : Int64, y23 = x5 + (y17 * ((mI M (mR M x1 2) x7.toNatClampNeg).toInt64)) → (lp_X9_fairBid_16 K3 Q n) x0 x1 x2 y20 y23 (x7 + 1) M)
theorem P_lp_X9_fairBid_16 {G : GG} {K3 : Nat → Nat → Int32 → Mem → Prop} {Q : Int32 → Mem → Prop} (hK3 : ∀ (x0 : Nat) (x1 : Nat) (x2 : Int32) (M : Mem), K3 x0 x1 x2 M → PW G mX9_fairBid (rmD 0 0 0) (QI Q) 3 [some (.ref x0), some (.ref x1), some (.int x2), none, none, none, none, none, none, none] [] M 0 0) : ∀ (n : Nat) (x0 : Nat) (x1 : Nat) (x2 : Int32) (x3 : Int64) (x5 : Int64) (x7 : Int32) (M : Mem), lp_X9_fairBid_16 K3 Q n x0 x1 x2 x3 x5 x7 M → PW G mX9_fairBid (rmD 0 0 0) (QI Q) 16 [some (.ref x0), some (.ref x1), some (.int x2), some (.long x3), none, some (.long x5), none, some (.int x7), none, none] [] M 0 0 := by
  intro n
  induction n with
  | zero => intro x0 x1 x2 x3 x5 x7 M h; exact h.elim
  | succ n ih =>
    intro x0 x1 x2 x3 x5 x7 M h
    exact (s_iload (pc := 16) dX9_fairBid_16 rfl (s_aload_n (pc := 18) dX9_fairBid_18 rfl (s_getI (pc := 19) dX9_fairBid_19 f_X9_15 rfl h.1 (s_icmp_ge (pc := 22) (tgt := 75) dX9_fairBid_22 rfl (fun c5 => have h6 := h.2.1 c5; s_lload_n (pc := 75) dX9_fairBid_75 rfl (s_lconst (pc := 76) (v := 0) dX9_fairBid_76 rfl (s_lif_le (pc := 77) (tgt := 93) dX9_fairBid_77 dX9_fairBid_78 rfl (fun c9 => have h10 := h6.1 c9; s_sel (L1 := [some (.ref x0), some (.ref x1), some (.int x2), none, none, none, none, none, none, none]) [true, true, true, false, false, false, false, false, false, false] rfl (P_jn_X9_fairBid_93 hK3 x0 x1 x2 M h10)) (fun c11 => have h12 := h6.2 c11; s_iload_n (pc := 81) dX9_fairBid_81 rfl (s_i2l (pc := 82) dX9_fairBid_82 (s_lload_n (pc := 83) dX9_fairBid_83 rfl (s_lmul (pc := 84) dX9_fairBid_84 (s_lload (pc := 85) dX9_fairBid_85 rfl (s_lif_gt (pc := 87) (tgt := 93) dX9_fairBid_87 dX9_fairBid_88 rfl (fun c13 => have h14 := h12.1 c13; s_sel (L1 := [some (.ref x0), some (.ref x1), some (.int x2), none, none, none, none, none, none, none]) [true, true, true, false, false, false, false, false, false, false] rfl (P_jn_X9_fairBid_93 hK3 x0 x1 x2 M h14)) (fun c15 => have h16 := h12.2 c15; s_iload_n (pc := 91) dX9_fairBid_91 rfl (s_ireturn (pc := 92) dX9_fairBid_92 rfl (Nat.zero_le _) (Nat.zero_le _) ⟨_, rfl, h16⟩))))))))))) (fun c7 => have h8 := h.2.2 c7; s_aload_n (pc := 25) dX9_fairBid_25 rfl (s_getR (pc := 26) dX9_fairBid_26 f_X9_9 rfl h8.1 (s_iload (pc := 29) dX9_fairBid_29 rfl (s_lal (pc := 31) dX9_fairBid_31 h8.2.1 h8.2.2.1 (s_aload_n (pc := 32) dX9_fairBid_32 rfl (s_getR (pc := 33) dX9_fairBid_33 f_X9_40 rfl h.1 (s_iload (pc := 36) dX9_fairBid_36 rfl (s_bipush (pc := 38) dX9_fairBid_38 cb_101 (s_imul (pc := 40) dX9_fairBid_40 (s_iload_n (pc := 41) dX9_fairBid_41 rfl (s_iadd (pc := 42) dX9_fairBid_42 (s_ial (pc := 43) dX9_fairBid_43 h8.2.2.2.1 h8.2.2.2.2.1 (s_i2l (pc := 44) dX9_fairBid_44 (s_lmul (pc := 45) dX9_fairBid_45 (nmJ (fun y17 e18 => have h19 := h8.2.2.2.2.2 y17 e18; s_lstore (pc := 46) (L1 := [some (.ref x0), some (.ref x1), some (.int x2), some (.long x3), none, some (.long x5), none, some (.int x7), some (.long y17), none]) dX9_fairBid_46 (Nat.le_of_ble_eq_true rfl) rfl (s_lload_n (pc := 48) dX9_fairBid_48 rfl (s_lload (pc := 49) dX9_fairBid_49 rfl (s_ladd (pc := 51) dX9_fairBid_51 (nmJ (fun y20 e21 => have h22 := h19 y20 e21; s_lstore_n (pc := 52) (L1 := [some (.ref x0), some (.ref x1), some (.int x2), some (.long y20), none, some (.long x5), none, some (.int x7), some (.long y17), none]) dX9_fairBid_52 (Nat.le_of_ble_eq_true rfl) rfl (s_lload (pc := 53) dX9_fairBid_53 rfl (s_lload (pc := 55) dX9_fairBid_55 rfl (s_aload_n (pc := 57) dX9_fairBid_57 rfl (s_getR (pc := 58) dX9_fairBid_58 f_X9_79 rfl h.1 (s_iload (pc := 61) dX9_fairBid_61 rfl (s_ial (pc := 63) dX9_fairBid_63 h22.1 h22.2.1 (s_i2l (pc := 64) dX9_fairBid_64 (s_lmul (pc := 65) dX9_fairBid_65 (s_ladd (pc := 66) dX9_fairBid_66 (nmJ (fun y23 e24 => have h25 := h22.2.2 y23 e24; s_lstore (pc := 67) (L1 := [some (.ref x0), some (.ref x1), some (.int x2), some (.long y20), none, some (.long y23), none, some (.int x7), some (.long y17), none]) dX9_fairBid_67 (Nat.le_of_ble_eq_true rfl) rfl (s_iinc (pc := 69) (L1 := [some (.ref x0), some (.ref x1), some (.int x2), some (.long y20), none, some (.long y23), none, some (.int (x7 + 1)), some (.long y17), none]) dX9_fairBid_69 rfl ci_1 (Nat.le_of_ble_eq_true rfl) rfl (s_goto (pc := 72) (tgt := 16) dX9_fairBid_72 rfl (s_sel (L1 := [some (.ref x0), some (.ref x1), some (.int x2), some (.long y20), none, some (.long y23), none, some (.int (x7 + 1)), none, none]) [true, true, true, true, false, true, false, true, false, false] rfl (ih x0 x1 x2 y20 y23 (x7 + 1) M h25))))))))))))))))))))))))))))))))))))))))
def lp_X9_fairBid_3 (Q : Int32 → Mem → Prop) : Nat → Nat → Nat → Int32 → Mem → Prop
  | 0 => fun _ _ _ _ => False
  | n + 1 => fun x0 x1 x2 M => (x2 < (1 : Int32) → Q (-4) M) ∧ (¬ x2 < (1 : Int32) → ∃ n26 : Nat, lp_X9_fairBid_16 (fun fx0 fx1 fx2 fM => lp_X9_fairBid_3 Q n fx0 fx1 fx2 fM) Q n26 x0 x1 x2 0 0 0 M)
theorem P_lp_X9_fairBid_3 {G : GG} {Q : Int32 → Mem → Prop} : ∀ (n : Nat) (x0 : Nat) (x1 : Nat) (x2 : Int32) (M : Mem), lp_X9_fairBid_3 Q n x0 x1 x2 M → PW G mX9_fairBid (rmD 0 0 0) (QI Q) 3 [some (.ref x0), some (.ref x1), some (.int x2), none, none, none, none, none, none, none] [] M 0 0 := by
  intro n
  induction n with
  | zero => intro x0 x1 x2 M h; exact h.elim
  | succ n ih =>
    intro x0 x1 x2 M h
    exact (s_iload_n (pc := 3) dX9_fairBid_3 rfl (s_iconst (pc := 4) dX9_fairBid_4 ci_1 (s_icmp_lt (pc := 5) (tgt := 99) dX9_fairBid_5 rfl (fun c1 => have h2 := h.1 c1; s_bipush (pc := 99) dX9_fairBid_99 cb_m4 (s_ireturn (pc := 101) dX9_fairBid_101 rfl (Nat.zero_le _) (Nat.zero_le _) ⟨_, rfl, h2⟩)) (fun c3 => have h4 := h.2 c3; s_lconst (pc := 8) (v := 0) dX9_fairBid_8 rfl (s_lstore_n (pc := 9) (L1 := [some (.ref x0), some (.ref x1), some (.int x2), some (.long 0), none, none, none, none, none, none]) dX9_fairBid_9 (Nat.le_of_ble_eq_true rfl) rfl (s_lconst (pc := 10) (v := 0) dX9_fairBid_10 rfl (s_lstore (pc := 11) (L1 := [some (.ref x0), some (.ref x1), some (.int x2), some (.long 0), none, some (.long 0), none, none, none, none]) dX9_fairBid_11 (Nat.le_of_ble_eq_true rfl) rfl (s_iconst (pc := 13) dX9_fairBid_13 ci_0 (s_istore (pc := 14) (L1 := [some (.ref x0), some (.ref x1), some (.int x2), some (.long 0), none, some (.long 0), none, some (.int 0), none, none]) dX9_fairBid_14 (Nat.le_of_ble_eq_true rfl) rfl (Exists.elim h4 (fun n26 hn => s_sel (L1 := [some (.ref x0), some (.ref x1), some (.int x2), some (.long 0), none, some (.long 0), none, some (.int 0), none, none]) [true, true, true, true, false, true, false, true, false, false] rfl (P_lp_X9_fairBid_16 ih n26 x0 x1 x2 0 0 0 M hn))))))))))))
def wp_X9_fairBid (p0 : Nat) (p1 : Nat) (M : Mem) (Q : Int32 → Mem → Prop) : Prop := ∃ n27 : Nat, lp_X9_fairBid_3 Q n27 p0 p1 100 M
theorem T_X9_fairBid {G : GG} {Q : Int32 → Mem → Prop} {M : Mem} {p0 : Nat} {p1 : Nat} (h : wp_X9_fairBid p0 p1 M Q) : PMet G mX9_fairBid 0 0 0 [.ref p0, .ref p1] M (QI Q) :=
  mk_met (by decide) rfl rfl (by
    intro w hw x9 e9
    subst e9
    simp at hw) (Nat.le_of_ble_eq_true rfl) (s_pad (L1 := [some (.ref p0), some (.ref p1), none, none, none, none, none, none, none, none]) 10 rfl (s_bipush (pc := 0) dX9_fairBid_0 cb_100 (s_istore_n (pc := 2) (L1 := [some (.ref p0), some (.ref p1), some (.int 100), none, none, none, none, none, none, none]) dX9_fairBid_2 (Nat.le_of_ble_eq_true rfl) rfl (Exists.elim h (fun n27 hn => s_sel (L1 := [some (.ref p0), some (.ref p1), some (.int 100), none, none, none, none, none, none, none]) [true, true, true, false, false, false, false, false, false, false] rfl (P_lp_X9_fairBid_3 n27 p0 p1 100 M hn))))))
/-! X1_wishedBid -/
theorem dX1_wishedBid_0 : cod mX1_wishedBid 0 (.aload_n 2) 1 := by decide +kernel
theorem dX1_wishedBid_1 : cod mX1_wishedBid 1 (.aload_n 1) 1 := by decide +kernel
theorem dX1_wishedBid_2 : cod mX1_wishedBid 2 (.invokevirtual 9) 3 := by decide +kernel
theorem dX1_wishedBid_5 : cod mX1_wishedBid 5 (.istore_n 3) 1 := by decide +kernel
theorem dX1_wishedBid_6 : cod mX1_wishedBid 6 (.iload_n 3) 1 := by decide +kernel
theorem dX1_wishedBid_7 : cod mX1_wishedBid 7 (.bipush (-4)) 2 := by decide +kernel
theorem dX1_wishedBid_9 : cod mX1_wishedBid 9 (.if_icmp .ne 7) 3 := by decide +kernel
theorem dX1_wishedBid_12 : cod mX1_wishedBid 12 (.iconst 0) 1 := by decide +kernel
theorem dX1_wishedBid_13 : cod mX1_wishedBid 13 (.goto 4) 3 := by decide +kernel
theorem dX1_wishedBid_16 : cod mX1_wishedBid 16 (.iload_n 3) 1 := by decide +kernel
theorem dX1_wishedBid_17 : cod mX1_wishedBid 17 (.aload_n 0) 1 := by decide +kernel
theorem dX1_wishedBid_18 : cod mX1_wishedBid 18 (.getfield 15) 3 := by decide +kernel
theorem dX1_wishedBid_21 : cod mX1_wishedBid 21 (.isub) 1 := by decide +kernel
theorem dX1_wishedBid_22 : cod mX1_wishedBid 22 (.ireturn) 1 := by decide +kernel
def wp_X1_wishedBid (p0 : Nat) (p1 : Nat) (p2 : Nat) (M : Mem) (Q : Int32 → Mem → Prop) : Prop := mK M p2 = 10 ∧ wp_X9_fairBid p2 p1 M (fun r3 M2 => (¬ r3 = ((-4) : Int32) → isW M2 p0 ∧ Q (r3 - (mI M2 p0 0)) M2) ∧ (r3 = ((-4) : Int32) → isW M2 p0 ∧ Q (0 - (mI M2 p0 0)) M2))
theorem T_X1_wishedBid {G : GG} {Q : Int32 → Mem → Prop} {M : Mem} {p0 : Nat} {p1 : Nat} {p2 : Nat} (h : wp_X1_wishedBid p0 p1 p2 M Q) : PMet G mX1_wishedBid 1 0 0 [.ref p0, .ref p1, .ref p2] M (QI Q) :=
  mk_met (by decide) rfl rfl (by
    intro w hw x9 e9
    subst e9
    simp at hw) (Nat.le_of_ble_eq_true rfl) (s_pad (L1 := [some (.ref p0), some (.ref p1), some (.ref p2), none]) 4 rfl (s_aload_n (pc := 0) dX1_wishedBid_0 rfl (s_aload_n (pc := 1) dX1_wishedBid_1 rfl (s_callV (pc := 2) (As := [.ref p1]) (rest := []) (d' := 0) (mc' := 0) (ms' := 0) dX1_wishedBid_2 c_X1_9 (Nat.le_of_ble_eq_true rfl) rfl h.1 rfl rfl (Nat.le_of_ble_eq_true rfl) (rm_ok rfl rfl) ⟨Nat.le_refl 0, Nat.le_refl 0⟩ (T_X9_fairBid h.2) (kkI (fun r3 M2 h1 => s_istore_n (pc := 5) (L1 := [some (.ref p0), some (.ref p1), some (.ref p2), some (.int r3)]) dX1_wishedBid_5 (Nat.le_of_ble_eq_true rfl) rfl (s_iload_n (pc := 6) dX1_wishedBid_6 rfl (s_bipush (pc := 7) dX1_wishedBid_7 cb_m4 (s_icmp_ne (pc := 9) (tgt := 16) dX1_wishedBid_9 rfl (fun c4 => have h5 := h1.1 c4; s_iload_n (pc := 16) dX1_wishedBid_16 rfl (s_aload_n (pc := 17) dX1_wishedBid_17 rfl (s_getW (pc := 18) dX1_wishedBid_18 f_X1_15 h5.1 (s_isub (pc := 21) dX1_wishedBid_21 (s_ireturn (pc := 22) dX1_wishedBid_22 rfl (Nat.zero_le _) (Nat.zero_le _) ⟨_, rfl, h5.2⟩))))) (fun c6 => have h7 := h1.2 c6; s_iconst (pc := 12) dX1_wishedBid_12 ci_0 (s_goto (pc := 13) (tgt := 17) dX1_wishedBid_13 rfl (s_aload_n (pc := 17) dX1_wishedBid_17 rfl (s_getW (pc := 18) dX1_wishedBid_18 f_X1_15 h7.1 (s_isub (pc := 21) dX1_wishedBid_21 (s_ireturn (pc := 22) dX1_wishedBid_22 rfl (Nat.zero_le _) (Nat.zero_le _) ⟨_, rfl, h7.2⟩)))))))))))))))
/-! X6_meanByChances -/
theorem dX6_meanByChances_0 : cod mX6_meanByChances 0 (.iconst 0) 1 := by decide +kernel
theorem dX6_meanByChances_1 : cod mX6_meanByChances 1 (.istore_n 1) 1 := by decide +kernel
theorem dX6_meanByChances_2 : cod mX6_meanByChances 2 (.iconst 0) 1 := by decide +kernel
theorem dX6_meanByChances_3 : cod mX6_meanByChances 3 (.istore_n 2) 1 := by decide +kernel
theorem dX6_meanByChances_4 : cod mX6_meanByChances 4 (.iload_n 2) 1 := by decide +kernel
theorem dX6_meanByChances_5 : cod mX6_meanByChances 5 (.aload_n 0) 1 := by decide +kernel
theorem dX6_meanByChances_6 : cod mX6_meanByChances 6 (.getfield 40) 3 := by decide +kernel
theorem dX6_meanByChances_9 : cod mX6_meanByChances 9 (.if_icmp .ge 25) 3 := by decide +kernel
theorem dX6_meanByChances_12 : cod mX6_meanByChances 12 (.iload_n 1) 1 := by decide +kernel
theorem dX6_meanByChances_13 : cod mX6_meanByChances 13 (.aload_n 0) 1 := by decide +kernel
theorem dX6_meanByChances_14 : cod mX6_meanByChances 14 (.getfield 9) 3 := by decide +kernel
theorem dX6_meanByChances_17 : cod mX6_meanByChances 17 (.iload_n 2) 1 := by decide +kernel
theorem dX6_meanByChances_18 : cod mX6_meanByChances 18 (.iaload) 1 := by decide +kernel
theorem dX6_meanByChances_19 : cod mX6_meanByChances 19 (.aload_n 0) 1 := by decide +kernel
theorem dX6_meanByChances_20 : cod mX6_meanByChances 20 (.getfield 15) 3 := by decide +kernel
theorem dX6_meanByChances_23 : cod mX6_meanByChances 23 (.iload_n 2) 1 := by decide +kernel
theorem dX6_meanByChances_24 : cod mX6_meanByChances 24 (.iaload) 1 := by decide +kernel
theorem dX6_meanByChances_25 : cod mX6_meanByChances 25 (.imul) 1 := by decide +kernel
theorem dX6_meanByChances_26 : cod mX6_meanByChances 26 (.iadd) 1 := by decide +kernel
theorem dX6_meanByChances_27 : cod mX6_meanByChances 27 (.istore_n 1) 1 := by decide +kernel
theorem dX6_meanByChances_28 : cod mX6_meanByChances 28 (.iinc 2 1) 3 := by decide +kernel
theorem dX6_meanByChances_31 : cod mX6_meanByChances 31 (.goto (-27)) 3 := by decide +kernel
theorem dX6_meanByChances_34 : cod mX6_meanByChances 34 (.iload_n 1) 1 := by decide +kernel
theorem dX6_meanByChances_35 : cod mX6_meanByChances 35 (.bipush 100) 2 := by decide +kernel
theorem dX6_meanByChances_37 : cod mX6_meanByChances 37 (.idiv) 1 := by decide +kernel
theorem dX6_meanByChances_38 : cod mX6_meanByChances 38 (.ireturn) 1 := by decide +kernel
def lp_X6_meanByChances_4 (Q : Int32 → Mem → Prop) : Nat → Nat → Int32 → Int32 → Mem → Prop
  | 0 => fun _ _ _ _ => False
  | n + 1 => fun x0 x1 x2 M => mK M x0 = 7 ∧ ((mI M x0 0) ≤ x2 → Q (x1 / 100) M) ∧ (¬ (mI M x0 0) ≤ x2 → mK M (mR M x0 1) = 20 ∧ vp_in x2 (mN M (mR M x0 1)) ∧ mK M (mR M x0 2) = 20 ∧ vp_in x2 (mN M (mR M x0 2)) ∧ ∀ y5 : Int32, y5 = x1 + ((mI M (mR M x0 1) x2.toNatClampNeg) * (mI M (mR M x0 2) x2.toNatClampNeg)) → (lp_X6_meanByChances_4 Q n) x0 y5 (x2 + 1) M)
theorem P_lp_X6_meanByChances_4 {G : GG} {Q : Int32 → Mem → Prop} : ∀ (n : Nat) (x0 : Nat) (x1 : Int32) (x2 : Int32) (M : Mem), lp_X6_meanByChances_4 Q n x0 x1 x2 M → PW G mX6_meanByChances (rmD 0 0 0) (QI Q) 4 [some (.ref x0), some (.int x1), some (.int x2)] [] M 0 0 := by
  intro n
  induction n with
  | zero => intro x0 x1 x2 M h; exact h.elim
  | succ n ih =>
    intro x0 x1 x2 M h
    exact (s_iload_n (pc := 4) dX6_meanByChances_4 rfl (s_aload_n (pc := 5) dX6_meanByChances_5 rfl (s_getI (pc := 6) dX6_meanByChances_6 f_X6_40 rfl h.1 (s_icmp_ge (pc := 9) (tgt := 34) dX6_meanByChances_9 rfl (fun c1 => have h2 := h.2.1 c1; s_iload_n (pc := 34) dX6_meanByChances_34 rfl (s_bipush (pc := 35) dX6_meanByChances_35 cb_100 (s_idiv (pc := 37) dX6_meanByChances_37 (by decide) (s_ireturn (pc := 38) dX6_meanByChances_38 rfl (Nat.zero_le _) (Nat.zero_le _) ⟨_, rfl, h2⟩)))) (fun c3 => have h4 := h.2.2 c3; s_iload_n (pc := 12) dX6_meanByChances_12 rfl (s_aload_n (pc := 13) dX6_meanByChances_13 rfl (s_getR (pc := 14) dX6_meanByChances_14 f_X6_9 rfl h.1 (s_iload_n (pc := 17) dX6_meanByChances_17 rfl (s_ial (pc := 18) dX6_meanByChances_18 h4.1 h4.2.1 (s_aload_n (pc := 19) dX6_meanByChances_19 rfl (s_getR (pc := 20) dX6_meanByChances_20 f_X6_15 rfl h.1 (s_iload_n (pc := 23) dX6_meanByChances_23 rfl (s_ial (pc := 24) dX6_meanByChances_24 h4.2.2.1 h4.2.2.2.1 (s_imul (pc := 25) dX6_meanByChances_25 (s_iadd (pc := 26) dX6_meanByChances_26 (nmI (fun y5 e6 => have h7 := h4.2.2.2.2 y5 e6; s_istore_n (pc := 27) (L1 := [some (.ref x0), some (.int y5), some (.int x2)]) dX6_meanByChances_27 (Nat.le_of_ble_eq_true rfl) rfl (s_iinc (pc := 28) (L1 := [some (.ref x0), some (.int y5), some (.int (x2 + 1))]) dX6_meanByChances_28 rfl ci_1 (Nat.le_of_ble_eq_true rfl) rfl (s_goto (pc := 31) (tgt := 4) dX6_meanByChances_31 rfl (s_sel (L1 := [some (.ref x0), some (.int y5), some (.int (x2 + 1))]) [true, true, true] rfl (ih x0 y5 (x2 + 1) M h7)))))))))))))))))))))
def wp_X6_meanByChances (p0 : Nat) (M : Mem) (Q : Int32 → Mem → Prop) : Prop := ∃ n8 : Nat, lp_X6_meanByChances_4 Q n8 p0 0 0 M
theorem T_X6_meanByChances {G : GG} {Q : Int32 → Mem → Prop} {M : Mem} {p0 : Nat} (h : wp_X6_meanByChances p0 M Q) : PMet G mX6_meanByChances 0 0 0 [.ref p0] M (QI Q) :=
  mk_met (by decide) rfl rfl (by
    intro w hw x9 e9
    subst e9
    simp at hw) (Nat.le_of_ble_eq_true rfl) (s_pad (L1 := [some (.ref p0), none, none]) 3 rfl (s_iconst (pc := 0) dX6_meanByChances_0 ci_0 (s_istore_n (pc := 1) (L1 := [some (.ref p0), some (.int 0), none]) dX6_meanByChances_1 (Nat.le_of_ble_eq_true rfl) rfl (s_iconst (pc := 2) dX6_meanByChances_2 ci_0 (s_istore_n (pc := 3) (L1 := [some (.ref p0), some (.int 0), some (.int 0)]) dX6_meanByChances_3 (Nat.le_of_ble_eq_true rfl) rfl (Exists.elim h (fun n8 hn => s_sel (L1 := [some (.ref p0), some (.int 0), some (.int 0)]) [true, true, true] rfl (P_lp_X6_meanByChances_4 n8 p0 0 0 M hn))))))))
/-! X2_wishedBid -/
theorem dX2_wishedBid_0 : cod mX2_wishedBid 0 (.aload_n 1) 1 := by decide +kernel
theorem dX2_wishedBid_1 : cod mX2_wishedBid 1 (.invokevirtual 7) 3 := by decide +kernel
theorem dX2_wishedBid_4 : cod mX2_wishedBid 4 (.aload_n 0) 1 := by decide +kernel
theorem dX2_wishedBid_5 : cod mX2_wishedBid 5 (.getfield 13) 3 := by decide +kernel
theorem dX2_wishedBid_8 : cod mX2_wishedBid 8 (.isub) 1 := by decide +kernel
theorem dX2_wishedBid_9 : cod mX2_wishedBid 9 (.ireturn) 1 := by decide +kernel
def wp_X2_wishedBid (p0 : Nat) (p1 : Nat) (p2 : Nat) (M : Mem) (Q : Int32 → Mem → Prop) : Prop := mK M p1 = 7 ∧ wp_X6_meanByChances p1 M (fun r3 M2 => isW M2 p0 ∧ Q (r3 - (mI M2 p0 0)) M2)
theorem T_X2_wishedBid {G : GG} {Q : Int32 → Mem → Prop} {M : Mem} {p0 : Nat} {p1 : Nat} {p2 : Nat} (h : wp_X2_wishedBid p0 p1 p2 M Q) : PMet G mX2_wishedBid 1 0 0 [.ref p0, .ref p1, .ref p2] M (QI Q) :=
  mk_met (by decide) rfl rfl (by
    intro w hw x9 e9
    subst e9
    simp at hw) (Nat.le_of_ble_eq_true rfl) (s_pad (L1 := [some (.ref p0), some (.ref p1), some (.ref p2)]) 3 rfl (s_aload_n (pc := 0) dX2_wishedBid_0 rfl (s_callV (pc := 1) (As := []) (rest := []) (d' := 0) (mc' := 0) (ms' := 0) dX2_wishedBid_1 c_X2_7 (Nat.le_of_ble_eq_true rfl) rfl h.1 rfl rfl (Nat.le_of_ble_eq_true rfl) (rm_ok rfl rfl) ⟨Nat.le_refl 0, Nat.le_refl 0⟩ (T_X6_meanByChances h.2) (kkI (fun r3 M2 h1 => s_aload_n (pc := 4) dX2_wishedBid_4 rfl (s_getW (pc := 5) dX2_wishedBid_5 f_X2_13 h1.1 (s_isub (pc := 8) dX2_wishedBid_8 (s_ireturn (pc := 9) dX2_wishedBid_9 rfl (Nat.zero_le _) (Nat.zero_le _) ⟨_, rfl, h1.2⟩))))))))
/-! X3_wishedBid -/
theorem dX3_wishedBid_0 : cod mX3_wishedBid 0 (.aload_n 0) 1 := by decide +kernel
theorem dX3_wishedBid_1 : cod mX3_wishedBid 1 (.aload_n 1) 1 := by decide +kernel
theorem dX3_wishedBid_2 : cod mX3_wishedBid 2 (.aload_n 2) 1 := by decide +kernel
theorem dX3_wishedBid_3 : cod mX3_wishedBid 3 (.invokespecial 7) 3 := by decide +kernel
theorem dX3_wishedBid_6 : cod mX3_wishedBid 6 (.aload_n 2) 1 := by decide +kernel
theorem dX3_wishedBid_7 : cod mX3_wishedBid 7 (.getfield 11) 3 := by decide +kernel
theorem dX3_wishedBid_10 : cod mX3_wishedBid 10 (.isub) 1 := by decide +kernel
theorem dX3_wishedBid_11 : cod mX3_wishedBid 11 (.ireturn) 1 := by decide +kernel
def wp_X3_wishedBid (p0 : Nat) (p1 : Nat) (p2 : Nat) (M : Mem) (Q : Int32 → Mem → Prop) : Prop := isW M p0 ∧ wp_X2_wishedBid p0 p1 p2 M (fun r3 M2 => mK M2 p2 = 10 ∧ Q (r3 - (mI M2 p2 1)) M2)
theorem T_X3_wishedBid {G : GG} {Q : Int32 → Mem → Prop} {M : Mem} {p0 : Nat} {p1 : Nat} {p2 : Nat} (h : wp_X3_wishedBid p0 p1 p2 M Q) : PMet G mX3_wishedBid 2 0 0 [.ref p0, .ref p1, .ref p2] M (QI Q) :=
  mk_met (by decide) rfl rfl (by
    intro w hw x9 e9
    subst e9
    simp at hw) (Nat.le_of_ble_eq_true rfl) (s_pad (L1 := [some (.ref p0), some (.ref p1), some (.ref p2)]) 3 rfl (s_aload_n (pc := 0) dX3_wishedBid_0 rfl (s_aload_n (pc := 1) dX3_wishedBid_1 rfl (s_aload_n (pc := 2) dX3_wishedBid_2 rfl (s_callUW (pc := 3) (As := [.ref p1, .ref p2]) (rest := []) (d' := 1) (mc' := 0) (ms' := 0) dX3_wishedBid_3 c_X3_7 h.1 rfl rfl (Nat.le_of_ble_eq_true rfl) (rm_ok rfl rfl) ⟨Nat.le_refl 0, Nat.le_refl 0⟩ (T_X2_wishedBid h.2) (kkI (fun r3 M2 h1 => s_aload_n (pc := 6) dX3_wishedBid_6 rfl (s_getI (pc := 7) dX3_wishedBid_7 f_X3_11 rfl h1.1 (s_isub (pc := 10) dX3_wishedBid_10 (s_ireturn (pc := 11) dX3_wishedBid_11 rfl (Nat.zero_le _) (Nat.zero_le _) ⟨_, rfl, h1.2⟩))))))))))
/-! X11_wishedBid -/
theorem dX11_wishedBid_0 : cod mX11_wishedBid 0 (.iconst 0) 1 := by decide +kernel
theorem dX11_wishedBid_1 : cod mX11_wishedBid 1 (.ireturn) 1 := by decide +kernel
def wp_X11_wishedBid (p0 : Nat) (p1 : Nat) (p2 : Nat) (M : Mem) (Q : Int32 → Mem → Prop) : Prop := Q 0 M
theorem T_X11_wishedBid {G : GG} {Q : Int32 → Mem → Prop} {M : Mem} {p0 : Nat} {p1 : Nat} {p2 : Nat} (h : wp_X11_wishedBid p0 p1 p2 M Q) : PMet G mX11_wishedBid 0 0 0 [.ref p0, .ref p1, .ref p2] M (QI Q) :=
  mk_met (by decide) rfl rfl (by
    intro w hw x9 e9
    subst e9
    simp at hw) (Nat.le_of_ble_eq_true rfl) (s_pad (L1 := [some (.ref p0), some (.ref p1), some (.ref p2)]) 3 rfl (s_iconst (pc := 0) dX11_wishedBid_0 ci_0 (s_ireturn (pc := 1) dX11_wishedBid_1 rfl (Nat.zero_le _) (Nat.zero_le _) ⟨_, rfl, h⟩)))
/-! X10_wishedBid -/
theorem dX10_wishedBid_0 : cod mX10_wishedBid 0 (.aload_n 0) 1 := by decide +kernel
theorem dX10_wishedBid_1 : cod mX10_wishedBid 1 (.getfield 7) 3 := by decide +kernel
theorem dX10_wishedBid_4 : cod mX10_wishedBid 4 (.ireturn) 1 := by decide +kernel
def wp_X10_wishedBid (p0 : Nat) (p1 : Nat) (p2 : Nat) (M : Mem) (Q : Int32 → Mem → Prop) : Prop := isW M p0 ∧ Q (mI M p0 0) M
theorem T_X10_wishedBid {G : GG} {Q : Int32 → Mem → Prop} {M : Mem} {p0 : Nat} {p1 : Nat} {p2 : Nat} (h : wp_X10_wishedBid p0 p1 p2 M Q) : PMet G mX10_wishedBid 0 0 0 [.ref p0, .ref p1, .ref p2] M (QI Q) :=
  mk_met (by decide) rfl rfl (by
    intro w hw x9 e9
    subst e9
    simp at hw) (Nat.le_of_ble_eq_true rfl) (s_pad (L1 := [some (.ref p0), some (.ref p1), some (.ref p2)]) 3 rfl (s_aload_n (pc := 0) dX10_wishedBid_0 rfl (s_getW (pc := 1) dX10_wishedBid_1 f_X10_7 h.1 (s_ireturn (pc := 4) dX10_wishedBid_4 rfl (Nat.zero_le _) (Nat.zero_le _) ⟨_, rfl, h.2⟩))))
/-! X9_allWeights -/
theorem dX9_allWeights_0 : cod mX9_allWeights 0 (.lconst 0) 1 := by decide +kernel
theorem dX9_allWeights_1 : cod mX9_allWeights 1 (.lstore_n 2) 1 := by decide +kernel
theorem dX9_allWeights_2 : cod mX9_allWeights 2 (.iconst 0) 1 := by decide +kernel
theorem dX9_allWeights_3 : cod mX9_allWeights 3 (.istore 4) 2 := by decide +kernel
theorem dX9_allWeights_5 : cod mX9_allWeights 5 (.iload 4) 2 := by decide +kernel
theorem dX9_allWeights_7 : cod mX9_allWeights 7 (.aload_n 1) 1 := by decide +kernel
theorem dX9_allWeights_8 : cod mX9_allWeights 8 (.getfield 15) 3 := by decide +kernel
theorem dX9_allWeights_11 : cod mX9_allWeights 11 (.if_icmp .ge 19) 3 := by decide +kernel
theorem dX9_allWeights_14 : cod mX9_allWeights 14 (.lload_n 2) 1 := by decide +kernel
theorem dX9_allWeights_15 : cod mX9_allWeights 15 (.aload_n 0) 1 := by decide +kernel
theorem dX9_allWeights_16 : cod mX9_allWeights 16 (.getfield 9) 3 := by decide +kernel
theorem dX9_allWeights_19 : cod mX9_allWeights 19 (.iload 4) 2 := by decide +kernel
theorem dX9_allWeights_21 : cod mX9_allWeights 21 (.laload) 1 := by decide +kernel
theorem dX9_allWeights_22 : cod mX9_allWeights 22 (.ladd) 1 := by decide +kernel
theorem dX9_allWeights_23 : cod mX9_allWeights 23 (.lstore_n 2) 1 := by decide +kernel
theorem dX9_allWeights_24 : cod mX9_allWeights 24 (.iinc 4 1) 3 := by decide +kernel
theorem dX9_allWeights_27 : cod mX9_allWeights 27 (.goto (-22)) 3 := by decide +kernel
theorem dX9_allWeights_30 : cod mX9_allWeights 30 (.lload_n 2) 1 := by decide +kernel
theorem dX9_allWeights_31 : cod mX9_allWeights 31 (.lreturn) 1 := by decide +kernel
def lp_X9_allWeights_5 (Q : Int64 → Mem → Prop) : Nat → Nat → Nat → Int64 → Int32 → Mem → Prop
  | 0 => fun _ _ _ _ _ => False
  | n + 1 => fun x0 x1 x2 x4 M => mK M x1 = 7 ∧ ((mI M x1 0) ≤ x4 → Q x2 M) ∧ (¬ (mI M x1 0) ≤ x4 → mK M x0 = 10 ∧ mK M (mR M x0 0) = 21 ∧ vp_in x4 (mN M (mR M x0 0)) ∧ ∀ y5 : Int64, y5 = x2 + (mJ M (mR M x0 0) x4.toNatClampNeg) → (lp_X9_allWeights_5 Q n) x0 x1 y5 (x4 + 1) M)
theorem P_lp_X9_allWeights_5 {G : GG} {Q : Int64 → Mem → Prop} : ∀ (n : Nat) (x0 : Nat) (x1 : Nat) (x2 : Int64) (x4 : Int32) (M : Mem), lp_X9_allWeights_5 Q n x0 x1 x2 x4 M → PW G mX9_allWeights (rmD 0 0 0) (QJ Q) 5 [some (.ref x0), some (.ref x1), some (.long x2), none, some (.int x4)] [] M 0 0 := by
  intro n
  induction n with
  | zero => intro x0 x1 x2 x4 M h; exact h.elim
  | succ n ih =>
    intro x0 x1 x2 x4 M h
    exact (s_iload (pc := 5) dX9_allWeights_5 rfl (s_aload_n (pc := 7) dX9_allWeights_7 rfl (s_getI (pc := 8) dX9_allWeights_8 f_X9_15 rfl h.1 (s_icmp_ge (pc := 11) (tgt := 30) dX9_allWeights_11 rfl (fun c1 => have h2 := h.2.1 c1; s_lload_n (pc := 30) dX9_allWeights_30 rfl (s_lreturn (pc := 31) dX9_allWeights_31 rfl (Nat.zero_le _) (Nat.zero_le _) ⟨_, rfl, h2⟩)) (fun c3 => have h4 := h.2.2 c3; s_lload_n (pc := 14) dX9_allWeights_14 rfl (s_aload_n (pc := 15) dX9_allWeights_15 rfl (s_getR (pc := 16) dX9_allWeights_16 f_X9_9 rfl h4.1 (s_iload (pc := 19) dX9_allWeights_19 rfl (s_lal (pc := 21) dX9_allWeights_21 h4.2.1 h4.2.2.1 (s_ladd (pc := 22) dX9_allWeights_22 (nmJ (fun y5 e6 => have h7 := h4.2.2.2 y5 e6; s_lstore_n (pc := 23) (L1 := [some (.ref x0), some (.ref x1), some (.long y5), none, some (.int x4)]) dX9_allWeights_23 (Nat.le_of_ble_eq_true rfl) rfl (s_iinc (pc := 24) (L1 := [some (.ref x0), some (.ref x1), some (.long y5), none, some (.int (x4 + 1))]) dX9_allWeights_24 rfl ci_1 (Nat.le_of_ble_eq_true rfl) rfl (s_goto (pc := 27) (tgt := 5) dX9_allWeights_27 rfl (s_sel (L1 := [some (.ref x0), some (.ref x1), some (.long y5), none, some (.int (x4 + 1))]) [true, true, true, false, true] rfl (ih x0 x1 y5 (x4 + 1) M h7))))))))))))))))
def wp_X9_allWeights (p0 : Nat) (p1 : Nat) (M : Mem) (Q : Int64 → Mem → Prop) : Prop := ∃ n8 : Nat, lp_X9_allWeights_5 Q n8 p0 p1 0 0 M
theorem T_X9_allWeights {G : GG} {Q : Int64 → Mem → Prop} {M : Mem} {p0 : Nat} {p1 : Nat} (h : wp_X9_allWeights p0 p1 M Q) : PMet G mX9_allWeights 0 0 0 [.ref p0, .ref p1] M (QJ Q) :=
  mk_met (by decide) rfl rfl (by
    intro w hw x9 e9
    subst e9
    simp at hw) (Nat.le_of_ble_eq_true rfl) (s_pad (L1 := [some (.ref p0), some (.ref p1), none, none, none]) 5 rfl (s_lconst (pc := 0) (v := 0) dX9_allWeights_0 rfl (s_lstore_n (pc := 1) (L1 := [some (.ref p0), some (.ref p1), some (.long 0), none, none]) dX9_allWeights_1 (Nat.le_of_ble_eq_true rfl) rfl (s_iconst (pc := 2) dX9_allWeights_2 ci_0 (s_istore (pc := 3) (L1 := [some (.ref p0), some (.ref p1), some (.long 0), none, some (.int 0)]) dX9_allWeights_3 (Nat.le_of_ble_eq_true rfl) rfl (Exists.elim h (fun n8 hn => s_sel (L1 := [some (.ref p0), some (.ref p1), some (.long 0), none, some (.int 0)]) [true, true, true, false, true] rfl (P_lp_X9_allWeights_5 n8 p0 p1 0 0 M hn))))))))
/-! X9_meanValue -/
theorem dX9_meanValue_0 : cod mX9_meanValue 0 (.aload_n 0) 1 := by decide +kernel
theorem dX9_meanValue_1 : cod mX9_meanValue 1 (.aload_n 1) 1 := by decide +kernel
theorem dX9_meanValue_2 : cod mX9_meanValue 2 (.invokevirtual 76) 3 := by decide +kernel
theorem dX9_meanValue_5 : cod mX9_meanValue 5 (.lstore_n 2) 1 := by decide +kernel
theorem dX9_meanValue_6 : cod mX9_meanValue 6 (.lconst 0) 1 := by decide +kernel
theorem dX9_meanValue_7 : cod mX9_meanValue 7 (.lstore 4) 2 := by decide +kernel
theorem dX9_meanValue_9 : cod mX9_meanValue 9 (.iconst 0) 1 := by decide +kernel
theorem dX9_meanValue_10 : cod mX9_meanValue 10 (.istore 6) 2 := by decide +kernel
theorem dX9_meanValue_12 : cod mX9_meanValue 12 (.iload 6) 2 := by decide +kernel
theorem dX9_meanValue_14 : cod mX9_meanValue 14 (.aload_n 1) 1 := by decide +kernel
theorem dX9_meanValue_15 : cod mX9_meanValue 15 (.getfield 15) 3 := by decide +kernel
theorem dX9_meanValue_18 : cod mX9_meanValue 18 (.if_icmp .ge 30) 3 := by decide +kernel
theorem dX9_meanValue_21 : cod mX9_meanValue 21 (.lload 4) 2 := by decide +kernel
theorem dX9_meanValue_23 : cod mX9_meanValue 23 (.aload_n 0) 1 := by decide +kernel
theorem dX9_meanValue_24 : cod mX9_meanValue 24 (.getfield 9) 3 := by decide +kernel
theorem dX9_meanValue_27 : cod mX9_meanValue 27 (.iload 6) 2 := by decide +kernel
theorem dX9_meanValue_29 : cod mX9_meanValue 29 (.laload) 1 := by decide +kernel
theorem dX9_meanValue_30 : cod mX9_meanValue 30 (.aload_n 1) 1 := by decide +kernel
theorem dX9_meanValue_31 : cod mX9_meanValue 31 (.getfield 79) 3 := by decide +kernel
theorem dX9_meanValue_34 : cod mX9_meanValue 34 (.iload 6) 2 := by decide +kernel
theorem dX9_meanValue_36 : cod mX9_meanValue 36 (.iaload) 1 := by decide +kernel
theorem dX9_meanValue_37 : cod mX9_meanValue 37 (.i2l) 1 := by decide +kernel
theorem dX9_meanValue_38 : cod mX9_meanValue 38 (.lmul) 1 := by decide +kernel
theorem dX9_meanValue_39 : cod mX9_meanValue 39 (.ladd) 1 := by decide +kernel
theorem dX9_meanValue_40 : cod mX9_meanValue 40 (.lstore 4) 2 := by decide +kernel
theorem dX9_meanValue_42 : cod mX9_meanValue 42 (.iinc 6 1) 3 := by decide +kernel
theorem dX9_meanValue_45 : cod mX9_meanValue 45 (.goto (-33)) 3 := by decide +kernel
theorem dX9_meanValue_48 : cod mX9_meanValue 48 (.lload_n 2) 1 := by decide +kernel
theorem dX9_meanValue_49 : cod mX9_meanValue 49 (.lconst 0) 1 := by decide +kernel
theorem dX9_meanValue_50 : cod mX9_meanValue 50 (.lcmp) 1 := by decide +kernel
theorem dX9_meanValue_51 : cod mX9_meanValue 51 (.ifCond .le 11) 3 := by decide +kernel
theorem dX9_meanValue_54 : cod mX9_meanValue 54 (.lload 4) 2 := by decide +kernel
theorem dX9_meanValue_56 : cod mX9_meanValue 56 (.lload_n 2) 1 := by decide +kernel
theorem dX9_meanValue_57 : cod mX9_meanValue 57 (.ldiv) 1 := by decide +kernel
theorem dX9_meanValue_58 : cod mX9_meanValue 58 (.l2i) 1 := by decide +kernel
theorem dX9_meanValue_59 : cod mX9_meanValue 59 (.goto 4) 3 := by decide +kernel
theorem dX9_meanValue_62 : cod mX9_meanValue 62 (.iconst 0) 1 := by decide +kernel
theorem dX9_meanValue_63 : cod mX9_meanValue 63 (.ireturn) 1 := by decide +kernel
def lp_X9_meanValue_12 (Q : Int32 → Mem → Prop) : Nat → Nat → Nat → Int64 → Int64 → Int32 → Mem → Prop
  | 0 => fun _ _ _ _ _ _ => False
  | n + 1 => fun x0 x1 x2 x4 x6 M => mK M x1 = 7 ∧ ((mI M x1 0) ≤ x6 → (x2 ≤ (0 : Int64) → Q 0 M) ∧ (¬ x2 ≤ (0 : Int64) → ¬ x2 = 0 ∧ Q ((x4 / x2).toInt32) M)) ∧ (¬ (mI M x1 0) ≤ x6 → mK M x0 = 10 ∧ mK M (mR M x0 0) = 21 ∧ vp_in x6 (mN M (mR M x0 0)) ∧ mK M (mR M x1 2) = 20 ∧ vp_in x6 (mN M (mR M x1 2)) ∧ ∀ y12 : Int64, y12 = x4 + ((mJ M (mR M x0 0) x6.toNatClampNeg) * ((mI M (mR M x1 2) x6.toNatClampNeg).toInt64)) → (lp_X9_meanValue_12 Q n) x0 x1 x2 y12 (x6 + 1) M)
theorem P_lp_X9_meanValue_12 {G : GG} {Q : Int32 → Mem → Prop} : ∀ (n : Nat) (x0 : Nat) (x1 : Nat) (x2 : Int64) (x4 : Int64) (x6 : Int32) (M : Mem), lp_X9_meanValue_12 Q n x0 x1 x2 x4 x6 M → PW G mX9_meanValue (rmD 1 0 0) (QI Q) 12 [some (.ref x0), some (.ref x1), some (.long x2), none, some (.long x4), none, some (.int x6)] [] M 0 0 := by
  intro n
  induction n with
  | zero => intro x0 x1 x2 x4 x6 M h; exact h.elim
  | succ n ih =>
    intro x0 x1 x2 x4 x6 M h
    exact (s_iload (pc := 12) dX9_meanValue_12 rfl (s_aload_n (pc := 14) dX9_meanValue_14 rfl (s_getI (pc := 15) dX9_meanValue_15 f_X9_15 rfl h.1 (s_icmp_ge (pc := 18) (tgt := 48) dX9_meanValue_18 rfl (fun c4 => have h5 := h.2.1 c4; s_lload_n (pc := 48) dX9_meanValue_48 rfl (s_lconst (pc := 49) (v := 0) dX9_meanValue_49 rfl (s_lif_le (pc := 50) (tgt := 62) dX9_meanValue_50 dX9_meanValue_51 rfl (fun c8 => have h9 := h5.1 c8; s_iconst (pc := 62) dX9_meanValue_62 ci_0 (s_ireturn (pc := 63) dX9_meanValue_63 rfl (Nat.zero_le _) (Nat.zero_le _) ⟨_, rfl, h9⟩)) (fun c10 => have h11 := h5.2 c10; s_lload (pc := 54) dX9_meanValue_54 rfl (s_lload_n (pc := 56) dX9_meanValue_56 rfl (s_ldiv (pc := 57) dX9_meanValue_57 h11.1 (s_l2i (pc := 58) dX9_meanValue_58 (s_goto (pc := 59) (tgt := 63) dX9_meanValue_59 rfl (s_ireturn (pc := 63) dX9_meanValue_63 rfl (Nat.zero_le _) (Nat.zero_le _) ⟨_, rfl, h11.2⟩))))))))) (fun c6 => have h7 := h.2.2 c6; s_lload (pc := 21) dX9_meanValue_21 rfl (s_aload_n (pc := 23) dX9_meanValue_23 rfl (s_getR (pc := 24) dX9_meanValue_24 f_X9_9 rfl h7.1 (s_iload (pc := 27) dX9_meanValue_27 rfl (s_lal (pc := 29) dX9_meanValue_29 h7.2.1 h7.2.2.1 (s_aload_n (pc := 30) dX9_meanValue_30 rfl (s_getR (pc := 31) dX9_meanValue_31 f_X9_79 rfl h.1 (s_iload (pc := 34) dX9_meanValue_34 rfl (s_ial (pc := 36) dX9_meanValue_36 h7.2.2.2.1 h7.2.2.2.2.1 (s_i2l (pc := 37) dX9_meanValue_37 (s_lmul (pc := 38) dX9_meanValue_38 (s_ladd (pc := 39) dX9_meanValue_39 (nmJ (fun y12 e13 => have h14 := h7.2.2.2.2.2 y12 e13; s_lstore (pc := 40) (L1 := [some (.ref x0), some (.ref x1), some (.long x2), none, some (.long y12), none, some (.int x6)]) dX9_meanValue_40 (Nat.le_of_ble_eq_true rfl) rfl (s_iinc (pc := 42) (L1 := [some (.ref x0), some (.ref x1), some (.long x2), none, some (.long y12), none, some (.int (x6 + 1))]) dX9_meanValue_42 rfl ci_1 (Nat.le_of_ble_eq_true rfl) rfl (s_goto (pc := 45) (tgt := 12) dX9_meanValue_45 rfl (s_sel (L1 := [some (.ref x0), some (.ref x1), some (.long x2), none, some (.long y12), none, some (.int (x6 + 1))]) [true, true, true, false, true, false, true] rfl (ih x0 x1 x2 y12 (x6 + 1) M h14))))))))))))))))))))))
def wp_X9_meanValue (p0 : Nat) (p1 : Nat) (M : Mem) (Q : Int32 → Mem → Prop) : Prop := mK M p0 = 10 ∧ wp_X9_allWeights p0 p1 M (fun r3 M2 => ∃ n15 : Nat, lp_X9_meanValue_12 Q n15 p0 p1 r3 0 0 M2)
theorem T_X9_meanValue {G : GG} {Q : Int32 → Mem → Prop} {M : Mem} {p0 : Nat} {p1 : Nat} (h : wp_X9_meanValue p0 p1 M Q) : PMet G mX9_meanValue 1 0 0 [.ref p0, .ref p1] M (QI Q) :=
  mk_met (by decide) rfl rfl (by
    intro w hw x9 e9
    subst e9
    simp at hw) (Nat.le_of_ble_eq_true rfl) (s_pad (L1 := [some (.ref p0), some (.ref p1), none, none, none, none, none]) 7 rfl (s_aload_n (pc := 0) dX9_meanValue_0 rfl (s_aload_n (pc := 1) dX9_meanValue_1 rfl (s_callV (pc := 2) (As := [.ref p1]) (rest := []) (d' := 0) (mc' := 0) (ms' := 0) dX9_meanValue_2 c_X9_76 (Nat.le_of_ble_eq_true rfl) rfl h.1 rfl rfl (Nat.le_of_ble_eq_true rfl) (rm_ok rfl rfl) ⟨Nat.le_refl 0, Nat.le_refl 0⟩ (T_X9_allWeights h.2) (kkJ (fun r3 M2 h1 => s_lstore_n (pc := 5) (L1 := [some (.ref p0), some (.ref p1), some (.long r3), none, none, none, none]) dX9_meanValue_5 (Nat.le_of_ble_eq_true rfl) rfl (s_lconst (pc := 6) (v := 0) dX9_meanValue_6 rfl (s_lstore (pc := 7) (L1 := [some (.ref p0), some (.ref p1), some (.long r3), none, some (.long 0), none, none]) dX9_meanValue_7 (Nat.le_of_ble_eq_true rfl) rfl (s_iconst (pc := 9) dX9_meanValue_9 ci_0 (s_istore (pc := 10) (L1 := [some (.ref p0), some (.ref p1), some (.long r3), none, some (.long 0), none, some (.int 0)]) dX9_meanValue_10 (Nat.le_of_ble_eq_true rfl) rfl (Exists.elim h1 (fun n15 hn => s_sel (L1 := [some (.ref p0), some (.ref p1), some (.long r3), none, some (.long 0), none, some (.int 0)]) [true, true, true, false, true, false, true] rfl (P_lp_X9_meanValue_12 n15 p0 p1 r3 0 0 M2 hn)))))))))))))
/-! X8_wishedBid -/
theorem dX8_wishedBid_0 : cod mX8_wishedBid 0 (.aload_n 2) 1 := by decide +kernel
theorem dX8_wishedBid_1 : cod mX8_wishedBid 1 (.aload_n 1) 1 := by decide +kernel
theorem dX8_wishedBid_2 : cod mX8_wishedBid 2 (.invokevirtual 7) 3 := by decide +kernel
theorem dX8_wishedBid_5 : cod mX8_wishedBid 5 (.aload_n 0) 1 := by decide +kernel
theorem dX8_wishedBid_6 : cod mX8_wishedBid 6 (.getfield 13) 3 := by decide +kernel
theorem dX8_wishedBid_9 : cod mX8_wishedBid 9 (.isub) 1 := by decide +kernel
theorem dX8_wishedBid_10 : cod mX8_wishedBid 10 (.ireturn) 1 := by decide +kernel
def wp_X8_wishedBid (p0 : Nat) (p1 : Nat) (p2 : Nat) (M : Mem) (Q : Int32 → Mem → Prop) : Prop := mK M p2 = 10 ∧ wp_X9_meanValue p2 p1 M (fun r3 M2 => isW M2 p0 ∧ Q (r3 - (mI M2 p0 0)) M2)
theorem T_X8_wishedBid {G : GG} {Q : Int32 → Mem → Prop} {M : Mem} {p0 : Nat} {p1 : Nat} {p2 : Nat} (h : wp_X8_wishedBid p0 p1 p2 M Q) : PMet G mX8_wishedBid 2 0 0 [.ref p0, .ref p1, .ref p2] M (QI Q) :=
  mk_met (by decide) rfl rfl (by
    intro w hw x9 e9
    subst e9
    simp at hw) (Nat.le_of_ble_eq_true rfl) (s_pad (L1 := [some (.ref p0), some (.ref p1), some (.ref p2)]) 3 rfl (s_aload_n (pc := 0) dX8_wishedBid_0 rfl (s_aload_n (pc := 1) dX8_wishedBid_1 rfl (s_callV (pc := 2) (As := [.ref p1]) (rest := []) (d' := 1) (mc' := 0) (ms' := 0) dX8_wishedBid_2 c_X8_7 (Nat.le_of_ble_eq_true rfl) rfl h.1 rfl rfl (Nat.le_of_ble_eq_true rfl) (rm_ok rfl rfl) ⟨Nat.le_refl 0, Nat.le_refl 0⟩ (T_X9_meanValue h.2) (kkI (fun r3 M2 h1 => s_aload_n (pc := 5) dX8_wishedBid_5 rfl (s_getW (pc := 6) dX8_wishedBid_6 f_X8_13 h1.1 (s_isub (pc := 9) dX8_wishedBid_9 (s_ireturn (pc := 10) dX8_wishedBid_10 rfl (Nat.zero_le _) (Nat.zero_le _) ⟨_, rfl, h1.2⟩)))))))))
/-! X11_bid -/
def wv_X11_wishedBid (p0 p1 p2 : Nat) (M : Mem) (Q : Int32 → Mem → Prop) : Prop := (mK M p0 = 12 → wp_X11_wishedBid p0 p1 p2 M Q) ∧ (mK M p0 = 3 → wp_X2_wishedBid p0 p1 p2 M Q) ∧ (mK M p0 = 4 → wp_X3_wishedBid p0 p1 p2 M Q) ∧ (mK M p0 = 9 → wp_X8_wishedBid p0 p1 p2 M Q) ∧ (mK M p0 = 2 → wp_X1_wishedBid p0 p1 p2 M Q) ∧ (mK M p0 = 11 → wp_X10_wishedBid p0 p1 p2 M Q)
theorem dX11_bid_0 : cod mX11_bid 0 (.iconst 0) 1 := by decide +kernel
theorem dX11_bid_1 : cod mX11_bid 1 (.bipush 99) 2 := by decide +kernel
theorem dX11_bid_3 : cod mX11_bid 3 (.aload_n 0) 1 := by decide +kernel
theorem dX11_bid_4 : cod mX11_bid 4 (.aload_n 1) 1 := by decide +kernel
theorem dX11_bid_5 : cod mX11_bid 5 (.aload_n 2) 1 := by decide +kernel
theorem dX11_bid_6 : cod mX11_bid 6 (.invokevirtual 15) 3 := by decide +kernel
theorem dX11_bid_9 : cod mX11_bid 9 (.invokestatic 19) 3 := by decide +kernel
theorem dX11_bid_12 : cod mX11_bid 12 (.invokestatic 25) 3 := by decide +kernel
theorem dX11_bid_15 : cod mX11_bid 15 (.ireturn) 1 := by decide +kernel
def wp_X11_bid (p0 : Nat) (p1 : Nat) (p2 : Nat) (M : Mem) (Q : Int32 → Mem → Prop) : Prop := isW M p0 ∧ wv_X11_wishedBid p0 p1 p2 M (fun r3 M2 => Q (iMax 0 (iMin 99 r3)) M2)
theorem T_X11_bid {G : GG} {Q : Int32 → Mem → Prop} {M : Mem} {p0 : Nat} {p1 : Nat} {p2 : Nat} (h : wp_X11_bid p0 p1 p2 M Q) : PMet G mX11_bid 3 0 0 [.ref p0, .ref p1, .ref p2] M (QI Q) :=
  mk_met (by decide) rfl rfl (by
    intro w hw x9 e9
    subst e9
    simp at hw) (Nat.le_of_ble_eq_true rfl) (s_pad (L1 := [some (.ref p0), some (.ref p1), some (.ref p2)]) 3 rfl (s_iconst (pc := 0) dX11_bid_0 ci_0 (s_bipush (pc := 1) dX11_bid_1 cb_99 (s_aload_n (pc := 3) dX11_bid_3 rfl (s_aload_n (pc := 4) dX11_bid_4 rfl (s_aload_n (pc := 5) dX11_bid_5 rfl (s_callW (pc := 6) (Q' := QI (fun r3 M2 => Q (iMax 0 (iMin 99 r3)) M2)) (As := [.ref p1, .ref p2]) (rest := [.int 99, .int 0]) dX11_bid_6 h.1 rfl rfl (Nat.le_of_ble_eq_true rfl) (by
    intro c hc6 hk
    rcases hc6 with rfl | rfl | rfl | rfl | rfl | rfl
    · exact ⟨mX11_wishedBid, 0, Or.inl ⟨c_X11_15, rfl⟩, rm_ok rfl rfl, T_X11_wishedBid (h.2.1 hk)⟩
    · exact ⟨mX2_wishedBid, 1, Or.inr ⟨mX11_wishedBid, c_X11_15_2⟩, rm_ok rfl rfl, T_X2_wishedBid (h.2.2.1 hk)⟩
    · exact ⟨mX3_wishedBid, 2, Or.inr ⟨mX11_wishedBid, c_X11_15_3⟩, rm_ok rfl rfl, T_X3_wishedBid (h.2.2.2.1 hk)⟩
    · exact ⟨mX8_wishedBid, 2, Or.inr ⟨mX11_wishedBid, c_X11_15_8⟩, rm_ok rfl rfl, T_X8_wishedBid (h.2.2.2.2.1 hk)⟩
    · exact ⟨mX1_wishedBid, 1, Or.inr ⟨mX11_wishedBid, c_X11_15_1⟩, rm_ok rfl rfl, T_X1_wishedBid (h.2.2.2.2.2.1 hk)⟩
    · exact ⟨mX10_wishedBid, 0, Or.inr ⟨mX11_wishedBid, c_X11_15_10⟩, rm_ok rfl rfl, T_X10_wishedBid (h.2.2.2.2.2.2 hk)⟩) ⟨Nat.le_refl 0, Nat.le_refl 0⟩ (kkI (fun r3 M2 h1 => s_mmin (pc := 9) dX11_bid_9 c_X11_19 (Nat.le_of_ble_eq_true rfl) (Nat.le_of_ble_eq_true rfl) (Nat.le_refl 0) (Nat.le_refl 0) (s_mmax (pc := 12) dX11_bid_12 c_X11_25 (Nat.le_of_ble_eq_true rfl) (Nat.le_of_ble_eq_true rfl) (Nat.le_refl 0) (Nat.le_refl 0) (s_ireturn (pc := 15) dX11_bid_15 rfl (Nat.zero_le _) (Nat.zero_le _) ⟨_, rfl, h1⟩)))))))))))
/-! X9_fairAsk -/
theorem dX9_fairAsk_0 : cod mX9_fairAsk 0 (.iconst 0) 1 := by decide +kernel
theorem dX9_fairAsk_1 : cod mX9_fairAsk 1 (.istore_n 2) 1 := by decide +kernel
theorem dX9_fairAsk_2 : cod mX9_fairAsk 2 (.iload_n 2) 1 := by decide +kernel
theorem dX9_fairAsk_3 : cod mX9_fairAsk 3 (.bipush 99) 2 := by decide +kernel
theorem dX9_fairAsk_5 : cod mX9_fairAsk 5 (.if_icmp .gt 94) 3 := by decide +kernel
theorem dX9_fairAsk_8 : cod mX9_fairAsk 8 (.lconst 0) 1 := by decide +kernel
theorem dX9_fairAsk_9 : cod mX9_fairAsk 9 (.lstore_n 3) 1 := by decide +kernel
theorem dX9_fairAsk_10 : cod mX9_fairAsk 10 (.lconst 0) 1 := by decide +kernel
theorem dX9_fairAsk_11 : cod mX9_fairAsk 11 (.lstore 5) 2 := by decide +kernel
theorem dX9_fairAsk_13 : cod mX9_fairAsk 13 (.iconst 0) 1 := by decide +kernel
theorem dX9_fairAsk_14 : cod mX9_fairAsk 14 (.istore 7) 2 := by decide +kernel
theorem dX9_fairAsk_16 : cod mX9_fairAsk 16 (.iload 7) 2 := by decide +kernel
theorem dX9_fairAsk_18 : cod mX9_fairAsk 18 (.aload_n 1) 1 := by decide +kernel
theorem dX9_fairAsk_19 : cod mX9_fairAsk 19 (.getfield 15) 3 := by decide +kernel
theorem dX9_fairAsk_22 : cod mX9_fairAsk 22 (.if_icmp .ge 53) 3 := by decide +kernel
theorem dX9_fairAsk_25 : cod mX9_fairAsk 25 (.aload_n 0) 1 := by decide +kernel
theorem dX9_fairAsk_26 : cod mX9_fairAsk 26 (.getfield 9) 3 := by decide +kernel
theorem dX9_fairAsk_29 : cod mX9_fairAsk 29 (.iload 7) 2 := by decide +kernel
theorem dX9_fairAsk_31 : cod mX9_fairAsk 31 (.laload) 1 := by decide +kernel
theorem dX9_fairAsk_32 : cod mX9_fairAsk 32 (.aload_n 1) 1 := by decide +kernel
theorem dX9_fairAsk_33 : cod mX9_fairAsk 33 (.getfield 37) 3 := by decide +kernel
theorem dX9_fairAsk_36 : cod mX9_fairAsk 36 (.iload 7) 2 := by decide +kernel
theorem dX9_fairAsk_38 : cod mX9_fairAsk 38 (.bipush 101) 2 := by decide +kernel
theorem dX9_fairAsk_40 : cod mX9_fairAsk 40 (.imul) 1 := by decide +kernel
theorem dX9_fairAsk_41 : cod mX9_fairAsk 41 (.iload_n 2) 1 := by decide +kernel
theorem dX9_fairAsk_42 : cod mX9_fairAsk 42 (.iadd) 1 := by decide +kernel
theorem dX9_fairAsk_43 : cod mX9_fairAsk 43 (.iaload) 1 := by decide +kernel
theorem dX9_fairAsk_44 : cod mX9_fairAsk 44 (.i2l) 1 := by decide +kernel
theorem dX9_fairAsk_45 : cod mX9_fairAsk 45 (.lmul) 1 := by decide +kernel
theorem dX9_fairAsk_46 : cod mX9_fairAsk 46 (.lstore 8) 2 := by decide +kernel
theorem dX9_fairAsk_48 : cod mX9_fairAsk 48 (.lload_n 3) 1 := by decide +kernel
theorem dX9_fairAsk_49 : cod mX9_fairAsk 49 (.lload 8) 2 := by decide +kernel
theorem dX9_fairAsk_51 : cod mX9_fairAsk 51 (.ladd) 1 := by decide +kernel
theorem dX9_fairAsk_52 : cod mX9_fairAsk 52 (.lstore_n 3) 1 := by decide +kernel
theorem dX9_fairAsk_53 : cod mX9_fairAsk 53 (.lload 5) 2 := by decide +kernel
theorem dX9_fairAsk_55 : cod mX9_fairAsk 55 (.lload 8) 2 := by decide +kernel
theorem dX9_fairAsk_57 : cod mX9_fairAsk 57 (.aload_n 1) 1 := by decide +kernel
theorem dX9_fairAsk_58 : cod mX9_fairAsk 58 (.getfield 79) 3 := by decide +kernel
theorem dX9_fairAsk_61 : cod mX9_fairAsk 61 (.iload 7) 2 := by decide +kernel
theorem dX9_fairAsk_63 : cod mX9_fairAsk 63 (.iaload) 1 := by decide +kernel
theorem dX9_fairAsk_64 : cod mX9_fairAsk 64 (.i2l) 1 := by decide +kernel
theorem dX9_fairAsk_65 : cod mX9_fairAsk 65 (.lmul) 1 := by decide +kernel
theorem dX9_fairAsk_66 : cod mX9_fairAsk 66 (.ladd) 1 := by decide +kernel
theorem dX9_fairAsk_67 : cod mX9_fairAsk 67 (.lstore 5) 2 := by decide +kernel
theorem dX9_fairAsk_69 : cod mX9_fairAsk 69 (.iinc 7 1) 3 := by decide +kernel
theorem dX9_fairAsk_72 : cod mX9_fairAsk 72 (.goto (-56)) 3 := by decide +kernel
theorem dX9_fairAsk_75 : cod mX9_fairAsk 75 (.lload_n 3) 1 := by decide +kernel
theorem dX9_fairAsk_76 : cod mX9_fairAsk 76 (.lconst 0) 1 := by decide +kernel
theorem dX9_fairAsk_77 : cod mX9_fairAsk 77 (.lcmp) 1 := by decide +kernel
theorem dX9_fairAsk_78 : cod mX9_fairAsk 78 (.ifCond .le 15) 3 := by decide +kernel
theorem dX9_fairAsk_81 : cod mX9_fairAsk 81 (.iload_n 2) 1 := by decide +kernel
theorem dX9_fairAsk_82 : cod mX9_fairAsk 82 (.i2l) 1 := by decide +kernel
theorem dX9_fairAsk_83 : cod mX9_fairAsk 83 (.lload_n 3) 1 := by decide +kernel
theorem dX9_fairAsk_84 : cod mX9_fairAsk 84 (.lmul) 1 := by decide +kernel
theorem dX9_fairAsk_85 : cod mX9_fairAsk 85 (.lload 5) 2 := by decide +kernel
theorem dX9_fairAsk_87 : cod mX9_fairAsk 87 (.lcmp) 1 := by decide +kernel
theorem dX9_fairAsk_88 : cod mX9_fairAsk 88 (.ifCond .lt 5) 3 := by decide +kernel
theorem dX9_fairAsk_91 : cod mX9_fairAsk 91 (.iload_n 2) 1 := by decide +kernel
theorem dX9_fairAsk_92 : cod mX9_fairAsk 92 (.ireturn) 1 := by decide +kernel
theorem dX9_fairAsk_93 : cod mX9_fairAsk 93 (.iinc 2 1) 3 := by decide +kernel
theorem dX9_fairAsk_96 : cod mX9_fairAsk 96 (.goto (-94)) 3 := by decide +kernel
theorem dX9_fairAsk_99 : cod mX9_fairAsk 99 (.bipush (-4)) 2 := by decide +kernel
theorem dX9_fairAsk_101 : cod mX9_fairAsk 101 (.ireturn) 1 := by decide +kernel
def jn_X9_fairAsk_93 (K2 : Nat → Nat → Int32 → Mem → Prop) (Q : Int32 → Mem → Prop) (x0 : Nat) (x1 : Nat) (x2 : Int32) (M : Mem) : Prop := K2 x0 x1 (x2 + 1) M
theorem P_jn_X9_fairAsk_93 {G : GG} {K2 : Nat → Nat → Int32 → Mem → Prop} {Q : Int32 → Mem → Prop} (hK2 : ∀ (x0 : Nat) (x1 : Nat) (x2 : Int32) (M : Mem), K2 x0 x1 x2 M → PW G mX9_fairAsk (rmD 0 0 0) (QI Q) 2 [some (.ref x0), some (.ref x1), some (.int x2), none, none, none, none, none, none, none] [] M 0 0) (x0 : Nat) (x1 : Nat) (x2 : Int32) (M : Mem) (h : jn_X9_fairAsk_93 K2 Q x0 x1 x2 M) : PW G mX9_fairAsk (rmD 0 0 0) (QI Q) 93 [some (.ref x0), some (.ref x1), some (.int x2), none, none, none, none, none, none, none] [] M 0 0 := (s_iinc (pc := 93) (L1 := [some (.ref x0), some (.ref x1), some (.int (x2 + 1)), none, none, none, none, none, none, none]) dX9_fairAsk_93 rfl ci_1 (Nat.le_of_ble_eq_true rfl) rfl (s_goto (pc := 96) (tgt := 2) dX9_fairAsk_96 rfl (s_sel (L1 := [some (.ref x0), some (.ref x1), some (.int (x2 + 1)), none, none, none, none, none, none, none]) [true, true, true, false, false, false, false, false, false, false] rfl (hK2 x0 x1 (x2 + 1) M h))))
def lp_X9_fairAsk_16 (K2 : Nat → Nat → Int32 → Mem → Prop) (Q : Int32 → Mem → Prop) : Nat → Nat → Nat → Int32 → Int64 → Int64 → Int32 → Mem → Prop
  | 0 => fun _ _ _ _ _ _ _ => False
  | n + 1 => fun x0 x1 x2 x3 x5 x7 M => mK M x1 = 7 ∧ ((mI M x1 0) ≤ x7 → (x3 ≤ (0 : Int64) → jn_X9_fairAsk_93 K2 Q x0 x1 x2 M) ∧ (¬ x3 ≤ (0 : Int64) → ((x2.toInt64 * x3) < x5 → jn_X9_fairAsk_93 K2 Q x0 x1 x2 M) ∧ (¬ (x2.toInt64 * x3) < x5 → Q x2 M))) ∧ (¬ (mI M x1 0) ≤ x7 → mK M x0 = 10 ∧ mK M (mR M x0 0) = 21 ∧ vp_in x7 (mN M (mR M x0 0)) ∧ mK M (mR M x1 10) = 20 ∧ vp_in ((x7 * 101) + x2) (mN M (mR M x1 10)) ∧ ∀ y17 : Int64, y17 = (mJ M (mR M x0 0) x7.toNatClampNeg) * ((mI M (mR M x1 10) ((x7 * 101) + x2).toNatClampNeg).toInt64) → ∀ y20 : Int64, y20 = x3 + y17 → mK M (mR M x1 2) = 20 ∧ vp_in x7 (mN M (mR M x1 2)) ∧ ∀ y23 : Int64, y23 = x5 + (y17 * ((mI M (mR M x1 2) x7.toNatClampNeg).toInt64)) → (lp_X9_fairAsk_16 K2 Q n) x0 x1 x2 y20 y23 (x7 + 1) M)
theorem P_lp_X9_fairAsk_16 {G : GG} {K2 : Nat → Nat → Int32 → Mem → Prop} {Q : Int32 → Mem → Prop} (hK2 : ∀ (x0 : Nat) (x1 : Nat) (x2 : Int32) (M : Mem), K2 x0 x1 x2 M → PW G mX9_fairAsk (rmD 0 0 0) (QI Q) 2 [some (.ref x0), some (.ref x1), some (.int x2), none, none, none, none, none, none, none] [] M 0 0) : ∀ (n : Nat) (x0 : Nat) (x1 : Nat) (x2 : Int32) (x3 : Int64) (x5 : Int64) (x7 : Int32) (M : Mem), lp_X9_fairAsk_16 K2 Q n x0 x1 x2 x3 x5 x7 M → PW G mX9_fairAsk (rmD 0 0 0) (QI Q) 16 [some (.ref x0), some (.ref x1), some (.int x2), some (.long x3), none, some (.long x5), none, some (.int x7), none, none] [] M 0 0 := by
  intro n
  induction n with
  | zero => intro x0 x1 x2 x3 x5 x7 M h; exact h.elim
  | succ n ih =>
    intro x0 x1 x2 x3 x5 x7 M h
    exact (s_iload (pc := 16) dX9_fairAsk_16 rfl (s_aload_n (pc := 18) dX9_fairAsk_18 rfl (s_getI (pc := 19) dX9_fairAsk_19 f_X9_15 rfl h.1 (s_icmp_ge (pc := 22) (tgt := 75) dX9_fairAsk_22 rfl (fun c5 => have h6 := h.2.1 c5; s_lload_n (pc := 75) dX9_fairAsk_75 rfl (s_lconst (pc := 76) (v := 0) dX9_fairAsk_76 rfl (s_lif_le (pc := 77) (tgt := 93) dX9_fairAsk_77 dX9_fairAsk_78 rfl (fun c9 => have h10 := h6.1 c9; s_sel (L1 := [some (.ref x0), some (.ref x1), some (.int x2), none, none, none, none, none, none, none]) [true, true, true, false, false, false, false, false, false, false] rfl (P_jn_X9_fairAsk_93 hK2 x0 x1 x2 M h10)) (fun c11 => have h12 := h6.2 c11; s_iload_n (pc := 81) dX9_fairAsk_81 rfl (s_i2l (pc := 82) dX9_fairAsk_82 (s_lload_n (pc := 83) dX9_fairAsk_83 rfl (s_lmul (pc := 84) dX9_fairAsk_84 (s_lload (pc := 85) dX9_fairAsk_85 rfl (s_lif_lt (pc := 87) (tgt := 93) dX9_fairAsk_87 dX9_fairAsk_88 rfl (fun c13 => have h14 := h12.1 c13; s_sel (L1 := [some (.ref x0), some (.ref x1), some (.int x2), none, none, none, none, none, none, none]) [true, true, true, false, false, false, false, false, false, false] rfl (P_jn_X9_fairAsk_93 hK2 x0 x1 x2 M h14)) (fun c15 => have h16 := h12.2 c15; s_iload_n (pc := 91) dX9_fairAsk_91 rfl (s_ireturn (pc := 92) dX9_fairAsk_92 rfl (Nat.zero_le _) (Nat.zero_le _) ⟨_, rfl, h16⟩))))))))))) (fun c7 => have h8 := h.2.2 c7; s_aload_n (pc := 25) dX9_fairAsk_25 rfl (s_getR (pc := 26) dX9_fairAsk_26 f_X9_9 rfl h8.1 (s_iload (pc := 29) dX9_fairAsk_29 rfl (s_lal (pc := 31) dX9_fairAsk_31 h8.2.1 h8.2.2.1 (s_aload_n (pc := 32) dX9_fairAsk_32 rfl (s_getR (pc := 33) dX9_fairAsk_33 f_X9_37 rfl h.1 (s_iload (pc := 36) dX9_fairAsk_36 rfl (s_bipush (pc := 38) dX9_fairAsk_38 cb_101 (s_imul (pc := 40) dX9_fairAsk_40 (s_iload_n (pc := 41) dX9_fairAsk_41 rfl (s_iadd (pc := 42) dX9_fairAsk_42 (s_ial (pc := 43) dX9_fairAsk_43 h8.2.2.2.1 h8.2.2.2.2.1 (s_i2l (pc := 44) dX9_fairAsk_44 (s_lmul (pc := 45) dX9_fairAsk_45 (nmJ (fun y17 e18 => have h19 := h8.2.2.2.2.2 y17 e18; s_lstore (pc := 46) (L1 := [some (.ref x0), some (.ref x1), some (.int x2), some (.long x3), none, some (.long x5), none, some (.int x7), some (.long y17), none]) dX9_fairAsk_46 (Nat.le_of_ble_eq_true rfl) rfl (s_lload_n (pc := 48) dX9_fairAsk_48 rfl (s_lload (pc := 49) dX9_fairAsk_49 rfl (s_ladd (pc := 51) dX9_fairAsk_51 (nmJ (fun y20 e21 => have h22 := h19 y20 e21; s_lstore_n (pc := 52) (L1 := [some (.ref x0), some (.ref x1), some (.int x2), some (.long y20), none, some (.long x5), none, some (.int x7), some (.long y17), none]) dX9_fairAsk_52 (Nat.le_of_ble_eq_true rfl) rfl (s_lload (pc := 53) dX9_fairAsk_53 rfl (s_lload (pc := 55) dX9_fairAsk_55 rfl (s_aload_n (pc := 57) dX9_fairAsk_57 rfl (s_getR (pc := 58) dX9_fairAsk_58 f_X9_79 rfl h.1 (s_iload (pc := 61) dX9_fairAsk_61 rfl (s_ial (pc := 63) dX9_fairAsk_63 h22.1 h22.2.1 (s_i2l (pc := 64) dX9_fairAsk_64 (s_lmul (pc := 65) dX9_fairAsk_65 (s_ladd (pc := 66) dX9_fairAsk_66 (nmJ (fun y23 e24 => have h25 := h22.2.2 y23 e24; s_lstore (pc := 67) (L1 := [some (.ref x0), some (.ref x1), some (.int x2), some (.long y20), none, some (.long y23), none, some (.int x7), some (.long y17), none]) dX9_fairAsk_67 (Nat.le_of_ble_eq_true rfl) rfl (s_iinc (pc := 69) (L1 := [some (.ref x0), some (.ref x1), some (.int x2), some (.long y20), none, some (.long y23), none, some (.int (x7 + 1)), some (.long y17), none]) dX9_fairAsk_69 rfl ci_1 (Nat.le_of_ble_eq_true rfl) rfl (s_goto (pc := 72) (tgt := 16) dX9_fairAsk_72 rfl (s_sel (L1 := [some (.ref x0), some (.ref x1), some (.int x2), some (.long y20), none, some (.long y23), none, some (.int (x7 + 1)), none, none]) [true, true, true, true, false, true, false, true, false, false] rfl (ih x0 x1 x2 y20 y23 (x7 + 1) M h25))))))))))))))))))))))))))))))))))))))))
def lp_X9_fairAsk_2 (Q : Int32 → Mem → Prop) : Nat → Nat → Nat → Int32 → Mem → Prop
  | 0 => fun _ _ _ _ => False
  | n + 1 => fun x0 x1 x2 M => ((99 : Int32) < x2 → Q (-4) M) ∧ (¬ (99 : Int32) < x2 → ∃ n26 : Nat, lp_X9_fairAsk_16 (fun fx0 fx1 fx2 fM => lp_X9_fairAsk_2 Q n fx0 fx1 fx2 fM) Q n26 x0 x1 x2 0 0 0 M)
theorem P_lp_X9_fairAsk_2 {G : GG} {Q : Int32 → Mem → Prop} : ∀ (n : Nat) (x0 : Nat) (x1 : Nat) (x2 : Int32) (M : Mem), lp_X9_fairAsk_2 Q n x0 x1 x2 M → PW G mX9_fairAsk (rmD 0 0 0) (QI Q) 2 [some (.ref x0), some (.ref x1), some (.int x2), none, none, none, none, none, none, none] [] M 0 0 := by
  intro n
  induction n with
  | zero => intro x0 x1 x2 M h; exact h.elim
  | succ n ih =>
    intro x0 x1 x2 M h
    exact (s_iload_n (pc := 2) dX9_fairAsk_2 rfl (s_bipush (pc := 3) dX9_fairAsk_3 cb_99 (s_icmp_gt (pc := 5) (tgt := 99) dX9_fairAsk_5 rfl (fun c1 => have h2 := h.1 c1; s_bipush (pc := 99) dX9_fairAsk_99 cb_m4 (s_ireturn (pc := 101) dX9_fairAsk_101 rfl (Nat.zero_le _) (Nat.zero_le _) ⟨_, rfl, h2⟩)) (fun c3 => have h4 := h.2 c3; s_lconst (pc := 8) (v := 0) dX9_fairAsk_8 rfl (s_lstore_n (pc := 9) (L1 := [some (.ref x0), some (.ref x1), some (.int x2), some (.long 0), none, none, none, none, none, none]) dX9_fairAsk_9 (Nat.le_of_ble_eq_true rfl) rfl (s_lconst (pc := 10) (v := 0) dX9_fairAsk_10 rfl (s_lstore (pc := 11) (L1 := [some (.ref x0), some (.ref x1), some (.int x2), some (.long 0), none, some (.long 0), none, none, none, none]) dX9_fairAsk_11 (Nat.le_of_ble_eq_true rfl) rfl (s_iconst (pc := 13) dX9_fairAsk_13 ci_0 (s_istore (pc := 14) (L1 := [some (.ref x0), some (.ref x1), some (.int x2), some (.long 0), none, some (.long 0), none, some (.int 0), none, none]) dX9_fairAsk_14 (Nat.le_of_ble_eq_true rfl) rfl (Exists.elim h4 (fun n26 hn => s_sel (L1 := [some (.ref x0), some (.ref x1), some (.int x2), some (.long 0), none, some (.long 0), none, some (.int 0), none, none]) [true, true, true, true, false, true, false, true, false, false] rfl (P_lp_X9_fairAsk_16 ih n26 x0 x1 x2 0 0 0 M hn))))))))))))
def wp_X9_fairAsk (p0 : Nat) (p1 : Nat) (M : Mem) (Q : Int32 → Mem → Prop) : Prop := ∃ n27 : Nat, lp_X9_fairAsk_2 Q n27 p0 p1 0 M
theorem T_X9_fairAsk {G : GG} {Q : Int32 → Mem → Prop} {M : Mem} {p0 : Nat} {p1 : Nat} (h : wp_X9_fairAsk p0 p1 M Q) : PMet G mX9_fairAsk 0 0 0 [.ref p0, .ref p1] M (QI Q) :=
  mk_met (by decide) rfl rfl (by
    intro w hw x9 e9
    subst e9
    simp at hw) (Nat.le_of_ble_eq_true rfl) (s_pad (L1 := [some (.ref p0), some (.ref p1), none, none, none, none, none, none, none, none]) 10 rfl (s_iconst (pc := 0) dX9_fairAsk_0 ci_0 (s_istore_n (pc := 1) (L1 := [some (.ref p0), some (.ref p1), some (.int 0), none, none, none, none, none, none, none]) dX9_fairAsk_1 (Nat.le_of_ble_eq_true rfl) rfl (Exists.elim h (fun n27 hn => s_sel (L1 := [some (.ref p0), some (.ref p1), some (.int 0), none, none, none, none, none, none, none]) [true, true, true, false, false, false, false, false, false, false] rfl (P_lp_X9_fairAsk_2 n27 p0 p1 0 M hn))))))
/-! X1_wishedAsk -/
theorem dX1_wishedAsk_0 : cod mX1_wishedAsk 0 (.aload_n 2) 1 := by decide +kernel
theorem dX1_wishedAsk_1 : cod mX1_wishedAsk 1 (.aload_n 1) 1 := by decide +kernel
theorem dX1_wishedAsk_2 : cod mX1_wishedAsk 2 (.invokevirtual 21) 3 := by decide +kernel
theorem dX1_wishedAsk_5 : cod mX1_wishedAsk 5 (.istore_n 3) 1 := by decide +kernel
theorem dX1_wishedAsk_6 : cod mX1_wishedAsk 6 (.iload_n 3) 1 := by decide +kernel
theorem dX1_wishedAsk_7 : cod mX1_wishedAsk 7 (.bipush (-4)) 2 := by decide +kernel
theorem dX1_wishedAsk_9 : cod mX1_wishedAsk 9 (.if_icmp .ne 8) 3 := by decide +kernel
theorem dX1_wishedAsk_12 : cod mX1_wishedAsk 12 (.bipush 100) 2 := by decide +kernel
theorem dX1_wishedAsk_14 : cod mX1_wishedAsk 14 (.goto 4) 3 := by decide +kernel
theorem dX1_wishedAsk_17 : cod mX1_wishedAsk 17 (.iload_n 3) 1 := by decide +kernel
theorem dX1_wishedAsk_18 : cod mX1_wishedAsk 18 (.aload_n 0) 1 := by decide +kernel
theorem dX1_wishedAsk_19 : cod mX1_wishedAsk 19 (.getfield 15) 3 := by decide +kernel
theorem dX1_wishedAsk_22 : cod mX1_wishedAsk 22 (.iadd) 1 := by decide +kernel
theorem dX1_wishedAsk_23 : cod mX1_wishedAsk 23 (.ireturn) 1 := by decide +kernel
def wp_X1_wishedAsk (p0 : Nat) (p1 : Nat) (p2 : Nat) (M : Mem) (Q : Int32 → Mem → Prop) : Prop := mK M p2 = 10 ∧ wp_X9_fairAsk p2 p1 M (fun r3 M2 => (¬ r3 = ((-4) : Int32) → isW M2 p0 ∧ Q (r3 + (mI M2 p0 0)) M2) ∧ (r3 = ((-4) : Int32) → isW M2 p0 ∧ Q (100 + (mI M2 p0 0)) M2))
theorem T_X1_wishedAsk {G : GG} {Q : Int32 → Mem → Prop} {M : Mem} {p0 : Nat} {p1 : Nat} {p2 : Nat} (h : wp_X1_wishedAsk p0 p1 p2 M Q) : PMet G mX1_wishedAsk 1 0 0 [.ref p0, .ref p1, .ref p2] M (QI Q) :=
  mk_met (by decide) rfl rfl (by
    intro w hw x9 e9
    subst e9
    simp at hw) (Nat.le_of_ble_eq_true rfl) (s_pad (L1 := [some (.ref p0), some (.ref p1), some (.ref p2), none]) 4 rfl (s_aload_n (pc := 0) dX1_wishedAsk_0 rfl (s_aload_n (pc := 1) dX1_wishedAsk_1 rfl (s_callV (pc := 2) (As := [.ref p1]) (rest := []) (d' := 0) (mc' := 0) (ms' := 0) dX1_wishedAsk_2 c_X1_21 (Nat.le_of_ble_eq_true rfl) rfl h.1 rfl rfl (Nat.le_of_ble_eq_true rfl) (rm_ok rfl rfl) ⟨Nat.le_refl 0, Nat.le_refl 0⟩ (T_X9_fairAsk h.2) (kkI (fun r3 M2 h1 => s_istore_n (pc := 5) (L1 := [some (.ref p0), some (.ref p1), some (.ref p2), some (.int r3)]) dX1_wishedAsk_5 (Nat.le_of_ble_eq_true rfl) rfl (s_iload_n (pc := 6) dX1_wishedAsk_6 rfl (s_bipush (pc := 7) dX1_wishedAsk_7 cb_m4 (s_icmp_ne (pc := 9) (tgt := 17) dX1_wishedAsk_9 rfl (fun c4 => have h5 := h1.1 c4; s_iload_n (pc := 17) dX1_wishedAsk_17 rfl (s_aload_n (pc := 18) dX1_wishedAsk_18 rfl (s_getW (pc := 19) dX1_wishedAsk_19 f_X1_15 h5.1 (s_iadd (pc := 22) dX1_wishedAsk_22 (s_ireturn (pc := 23) dX1_wishedAsk_23 rfl (Nat.zero_le _) (Nat.zero_le _) ⟨_, rfl, h5.2⟩))))) (fun c6 => have h7 := h1.2 c6; s_bipush (pc := 12) dX1_wishedAsk_12 cb_100 (s_goto (pc := 14) (tgt := 18) dX1_wishedAsk_14 rfl (s_aload_n (pc := 18) dX1_wishedAsk_18 rfl (s_getW (pc := 19) dX1_wishedAsk_19 f_X1_15 h7.1 (s_iadd (pc := 22) dX1_wishedAsk_22 (s_ireturn (pc := 23) dX1_wishedAsk_23 rfl (Nat.zero_le _) (Nat.zero_le _) ⟨_, rfl, h7.2⟩)))))))))))))))
/-! X8_wishedAsk -/
theorem dX8_wishedAsk_0 : cod mX8_wishedAsk 0 (.aload_n 2) 1 := by decide +kernel
theorem dX8_wishedAsk_1 : cod mX8_wishedAsk 1 (.aload_n 1) 1 := by decide +kernel
theorem dX8_wishedAsk_2 : cod mX8_wishedAsk 2 (.invokevirtual 7) 3 := by decide +kernel
theorem dX8_wishedAsk_5 : cod mX8_wishedAsk 5 (.aload_n 0) 1 := by decide +kernel
theorem dX8_wishedAsk_6 : cod mX8_wishedAsk 6 (.getfield 13) 3 := by decide +kernel
theorem dX8_wishedAsk_9 : cod mX8_wishedAsk 9 (.iadd) 1 := by decide +kernel
theorem dX8_wishedAsk_10 : cod mX8_wishedAsk 10 (.iconst 1) 1 := by decide +kernel
theorem dX8_wishedAsk_11 : cod mX8_wishedAsk 11 (.iadd) 1 := by decide +kernel
theorem dX8_wishedAsk_12 : cod mX8_wishedAsk 12 (.ireturn) 1 := by decide +kernel
def wp_X8_wishedAsk (p0 : Nat) (p1 : Nat) (p2 : Nat) (M : Mem) (Q : Int32 → Mem → Prop) : Prop := mK M p2 = 10 ∧ wp_X9_meanValue p2 p1 M (fun r3 M2 => isW M2 p0 ∧ Q ((r3 + (mI M2 p0 0)) + 1) M2)
theorem T_X8_wishedAsk {G : GG} {Q : Int32 → Mem → Prop} {M : Mem} {p0 : Nat} {p1 : Nat} {p2 : Nat} (h : wp_X8_wishedAsk p0 p1 p2 M Q) : PMet G mX8_wishedAsk 2 0 0 [.ref p0, .ref p1, .ref p2] M (QI Q) :=
  mk_met (by decide) rfl rfl (by
    intro w hw x9 e9
    subst e9
    simp at hw) (Nat.le_of_ble_eq_true rfl) (s_pad (L1 := [some (.ref p0), some (.ref p1), some (.ref p2)]) 3 rfl (s_aload_n (pc := 0) dX8_wishedAsk_0 rfl (s_aload_n (pc := 1) dX8_wishedAsk_1 rfl (s_callV (pc := 2) (As := [.ref p1]) (rest := []) (d' := 1) (mc' := 0) (ms' := 0) dX8_wishedAsk_2 c_X8_7 (Nat.le_of_ble_eq_true rfl) rfl h.1 rfl rfl (Nat.le_of_ble_eq_true rfl) (rm_ok rfl rfl) ⟨Nat.le_refl 0, Nat.le_refl 0⟩ (T_X9_meanValue h.2) (kkI (fun r3 M2 h1 => s_aload_n (pc := 5) dX8_wishedAsk_5 rfl (s_getW (pc := 6) dX8_wishedAsk_6 f_X8_13 h1.1 (s_iadd (pc := 9) dX8_wishedAsk_9 (s_iconst (pc := 10) dX8_wishedAsk_10 ci_1 (s_iadd (pc := 11) dX8_wishedAsk_11 (s_ireturn (pc := 12) dX8_wishedAsk_12 rfl (Nat.zero_le _) (Nat.zero_le _) ⟨_, rfl, h1.2⟩)))))))))))
/-! X2_wishedAsk -/
theorem dX2_wishedAsk_0 : cod mX2_wishedAsk 0 (.aload_n 1) 1 := by decide +kernel
theorem dX2_wishedAsk_1 : cod mX2_wishedAsk 1 (.invokevirtual 7) 3 := by decide +kernel
theorem dX2_wishedAsk_4 : cod mX2_wishedAsk 4 (.aload_n 0) 1 := by decide +kernel
theorem dX2_wishedAsk_5 : cod mX2_wishedAsk 5 (.getfield 13) 3 := by decide +kernel
theorem dX2_wishedAsk_8 : cod mX2_wishedAsk 8 (.iadd) 1 := by decide +kernel
theorem dX2_wishedAsk_9 : cod mX2_wishedAsk 9 (.iconst 1) 1 := by decide +kernel
theorem dX2_wishedAsk_10 : cod mX2_wishedAsk 10 (.iadd) 1 := by decide +kernel
theorem dX2_wishedAsk_11 : cod mX2_wishedAsk 11 (.ireturn) 1 := by decide +kernel
def wp_X2_wishedAsk (p0 : Nat) (p1 : Nat) (p2 : Nat) (M : Mem) (Q : Int32 → Mem → Prop) : Prop := mK M p1 = 7 ∧ wp_X6_meanByChances p1 M (fun r3 M2 => isW M2 p0 ∧ Q ((r3 + (mI M2 p0 0)) + 1) M2)
theorem T_X2_wishedAsk {G : GG} {Q : Int32 → Mem → Prop} {M : Mem} {p0 : Nat} {p1 : Nat} {p2 : Nat} (h : wp_X2_wishedAsk p0 p1 p2 M Q) : PMet G mX2_wishedAsk 1 0 0 [.ref p0, .ref p1, .ref p2] M (QI Q) :=
  mk_met (by decide) rfl rfl (by
    intro w hw x9 e9
    subst e9
    simp at hw) (Nat.le_of_ble_eq_true rfl) (s_pad (L1 := [some (.ref p0), some (.ref p1), some (.ref p2)]) 3 rfl (s_aload_n (pc := 0) dX2_wishedAsk_0 rfl (s_callV (pc := 1) (As := []) (rest := []) (d' := 0) (mc' := 0) (ms' := 0) dX2_wishedAsk_1 c_X2_7 (Nat.le_of_ble_eq_true rfl) rfl h.1 rfl rfl (Nat.le_of_ble_eq_true rfl) (rm_ok rfl rfl) ⟨Nat.le_refl 0, Nat.le_refl 0⟩ (T_X6_meanByChances h.2) (kkI (fun r3 M2 h1 => s_aload_n (pc := 4) dX2_wishedAsk_4 rfl (s_getW (pc := 5) dX2_wishedAsk_5 f_X2_13 h1.1 (s_iadd (pc := 8) dX2_wishedAsk_8 (s_iconst (pc := 9) dX2_wishedAsk_9 ci_1 (s_iadd (pc := 10) dX2_wishedAsk_10 (s_ireturn (pc := 11) dX2_wishedAsk_11 rfl (Nat.zero_le _) (Nat.zero_le _) ⟨_, rfl, h1.2⟩))))))))))
/-! X11_wishedAsk -/
theorem dX11_wishedAsk_0 : cod mX11_wishedAsk 0 (.bipush 100) 2 := by decide +kernel
theorem dX11_wishedAsk_2 : cod mX11_wishedAsk 2 (.ireturn) 1 := by decide +kernel
def wp_X11_wishedAsk (p0 : Nat) (p1 : Nat) (p2 : Nat) (M : Mem) (Q : Int32 → Mem → Prop) : Prop := Q 100 M
theorem T_X11_wishedAsk {G : GG} {Q : Int32 → Mem → Prop} {M : Mem} {p0 : Nat} {p1 : Nat} {p2 : Nat} (h : wp_X11_wishedAsk p0 p1 p2 M Q) : PMet G mX11_wishedAsk 0 0 0 [.ref p0, .ref p1, .ref p2] M (QI Q) :=
  mk_met (by decide) rfl rfl (by
    intro w hw x9 e9
    subst e9
    simp at hw) (Nat.le_of_ble_eq_true rfl) (s_pad (L1 := [some (.ref p0), some (.ref p1), some (.ref p2)]) 3 rfl (s_bipush (pc := 0) dX11_wishedAsk_0 cb_100 (s_ireturn (pc := 2) dX11_wishedAsk_2 rfl (Nat.zero_le _) (Nat.zero_le _) ⟨_, rfl, h⟩)))
/-! X10_wishedAsk -/
theorem dX10_wishedAsk_0 : cod mX10_wishedAsk 0 (.iconst 2) 1 := by decide +kernel
theorem dX10_wishedAsk_1 : cod mX10_wishedAsk 1 (.aload_n 0) 1 := by decide +kernel
theorem dX10_wishedAsk_2 : cod mX10_wishedAsk 2 (.getfield 7) 3 := by decide +kernel
theorem dX10_wishedAsk_5 : cod mX10_wishedAsk 5 (.imul) 1 := by decide +kernel
theorem dX10_wishedAsk_6 : cod mX10_wishedAsk 6 (.iconst 1) 1 := by decide +kernel
theorem dX10_wishedAsk_7 : cod mX10_wishedAsk 7 (.iadd) 1 := by decide +kernel
theorem dX10_wishedAsk_8 : cod mX10_wishedAsk 8 (.ireturn) 1 := by decide +kernel
def wp_X10_wishedAsk (p0 : Nat) (p1 : Nat) (p2 : Nat) (M : Mem) (Q : Int32 → Mem → Prop) : Prop := isW M p0 ∧ Q ((2 * (mI M p0 0)) + 1) M
theorem T_X10_wishedAsk {G : GG} {Q : Int32 → Mem → Prop} {M : Mem} {p0 : Nat} {p1 : Nat} {p2 : Nat} (h : wp_X10_wishedAsk p0 p1 p2 M Q) : PMet G mX10_wishedAsk 0 0 0 [.ref p0, .ref p1, .ref p2] M (QI Q) :=
  mk_met (by decide) rfl rfl (by
    intro w hw x9 e9
    subst e9
    simp at hw) (Nat.le_of_ble_eq_true rfl) (s_pad (L1 := [some (.ref p0), some (.ref p1), some (.ref p2)]) 3 rfl (s_iconst (pc := 0) dX10_wishedAsk_0 ci_2 (s_aload_n (pc := 1) dX10_wishedAsk_1 rfl (s_getW (pc := 2) dX10_wishedAsk_2 f_X10_7 h.1 (s_imul (pc := 5) dX10_wishedAsk_5 (s_iconst (pc := 6) dX10_wishedAsk_6 ci_1 (s_iadd (pc := 7) dX10_wishedAsk_7 (s_ireturn (pc := 8) dX10_wishedAsk_8 rfl (Nat.zero_le _) (Nat.zero_le _) ⟨_, rfl, h.2⟩))))))))
/-! X3_wishedAsk -/
theorem dX3_wishedAsk_0 : cod mX3_wishedAsk 0 (.aload_n 0) 1 := by decide +kernel
theorem dX3_wishedAsk_1 : cod mX3_wishedAsk 1 (.aload_n 1) 1 := by decide +kernel
theorem dX3_wishedAsk_2 : cod mX3_wishedAsk 2 (.aload_n 2) 1 := by decide +kernel
theorem dX3_wishedAsk_3 : cod mX3_wishedAsk 3 (.invokespecial 17) 3 := by decide +kernel
theorem dX3_wishedAsk_6 : cod mX3_wishedAsk 6 (.aload_n 2) 1 := by decide +kernel
theorem dX3_wishedAsk_7 : cod mX3_wishedAsk 7 (.getfield 11) 3 := by decide +kernel
theorem dX3_wishedAsk_10 : cod mX3_wishedAsk 10 (.isub) 1 := by decide +kernel
theorem dX3_wishedAsk_11 : cod mX3_wishedAsk 11 (.ireturn) 1 := by decide +kernel
def wp_X3_wishedAsk (p0 : Nat) (p1 : Nat) (p2 : Nat) (M : Mem) (Q : Int32 → Mem → Prop) : Prop := isW M p0 ∧ wp_X2_wishedAsk p0 p1 p2 M (fun r3 M2 => mK M2 p2 = 10 ∧ Q (r3 - (mI M2 p2 1)) M2)
theorem T_X3_wishedAsk {G : GG} {Q : Int32 → Mem → Prop} {M : Mem} {p0 : Nat} {p1 : Nat} {p2 : Nat} (h : wp_X3_wishedAsk p0 p1 p2 M Q) : PMet G mX3_wishedAsk 2 0 0 [.ref p0, .ref p1, .ref p2] M (QI Q) :=
  mk_met (by decide) rfl rfl (by
    intro w hw x9 e9
    subst e9
    simp at hw) (Nat.le_of_ble_eq_true rfl) (s_pad (L1 := [some (.ref p0), some (.ref p1), some (.ref p2)]) 3 rfl (s_aload_n (pc := 0) dX3_wishedAsk_0 rfl (s_aload_n (pc := 1) dX3_wishedAsk_1 rfl (s_aload_n (pc := 2) dX3_wishedAsk_2 rfl (s_callUW (pc := 3) (As := [.ref p1, .ref p2]) (rest := []) (d' := 1) (mc' := 0) (ms' := 0) dX3_wishedAsk_3 c_X3_17 h.1 rfl rfl (Nat.le_of_ble_eq_true rfl) (rm_ok rfl rfl) ⟨Nat.le_refl 0, Nat.le_refl 0⟩ (T_X2_wishedAsk h.2) (kkI (fun r3 M2 h1 => s_aload_n (pc := 6) dX3_wishedAsk_6 rfl (s_getI (pc := 7) dX3_wishedAsk_7 f_X3_11 rfl h1.1 (s_isub (pc := 10) dX3_wishedAsk_10 (s_ireturn (pc := 11) dX3_wishedAsk_11 rfl (Nat.zero_le _) (Nat.zero_le _) ⟨_, rfl, h1.2⟩))))))))))
/-! X11_ask -/
def wv_X11_wishedAsk (p0 p1 p2 : Nat) (M : Mem) (Q : Int32 → Mem → Prop) : Prop := (mK M p0 = 12 → wp_X11_wishedAsk p0 p1 p2 M Q) ∧ (mK M p0 = 3 → wp_X2_wishedAsk p0 p1 p2 M Q) ∧ (mK M p0 = 4 → wp_X3_wishedAsk p0 p1 p2 M Q) ∧ (mK M p0 = 9 → wp_X8_wishedAsk p0 p1 p2 M Q) ∧ (mK M p0 = 2 → wp_X1_wishedAsk p0 p1 p2 M Q) ∧ (mK M p0 = 11 → wp_X10_wishedAsk p0 p1 p2 M Q)
theorem dX11_ask_0 : cod mX11_ask 0 (.iload_n 3) 1 := by decide +kernel
theorem dX11_ask_1 : cod mX11_ask 1 (.iconst 1) 1 := by decide +kernel
theorem dX11_ask_2 : cod mX11_ask 2 (.iadd) 1 := by decide +kernel
theorem dX11_ask_3 : cod mX11_ask 3 (.bipush 100) 2 := by decide +kernel
theorem dX11_ask_5 : cod mX11_ask 5 (.aload_n 0) 1 := by decide +kernel
theorem dX11_ask_6 : cod mX11_ask 6 (.aload_n 1) 1 := by decide +kernel
theorem dX11_ask_7 : cod mX11_ask 7 (.aload_n 2) 1 := by decide +kernel
theorem dX11_ask_8 : cod mX11_ask 8 (.invokevirtual 28) 3 := by decide +kernel
theorem dX11_ask_11 : cod mX11_ask 11 (.invokestatic 19) 3 := by decide +kernel
theorem dX11_ask_14 : cod mX11_ask 14 (.invokestatic 25) 3 := by decide +kernel
theorem dX11_ask_17 : cod mX11_ask 17 (.ireturn) 1 := by decide +kernel
def wp_X11_ask (p0 : Nat) (p1 : Nat) (p2 : Nat) (p3 : Int32) (M : Mem) (Q : Int32 → Mem → Prop) : Prop := isW M p0 ∧ wv_X11_wishedAsk p0 p1 p2 M (fun r3 M2 => Q (iMax (p3 + 1) (iMin 100 r3)) M2)
theorem T_X11_ask {G : GG} {Q : Int32 → Mem → Prop} {M : Mem} {p0 : Nat} {p1 : Nat} {p2 : Nat} {p3 : Int32} (h : wp_X11_ask p0 p1 p2 p3 M Q) : PMet G mX11_ask 3 0 0 [.ref p0, .ref p1, .ref p2, .int p3] M (QI Q) :=
  mk_met (by decide) rfl rfl (by
    intro w hw x9 e9
    subst e9
    simp at hw) (Nat.le_of_ble_eq_true rfl) (s_pad (L1 := [some (.ref p0), some (.ref p1), some (.ref p2), some (.int p3)]) 4 rfl (s_iload_n (pc := 0) dX11_ask_0 rfl (s_iconst (pc := 1) dX11_ask_1 ci_1 (s_iadd (pc := 2) dX11_ask_2 (s_bipush (pc := 3) dX11_ask_3 cb_100 (s_aload_n (pc := 5) dX11_ask_5 rfl (s_aload_n (pc := 6) dX11_ask_6 rfl (s_aload_n (pc := 7) dX11_ask_7 rfl (s_callW (pc := 8) (Q' := QI (fun r3 M2 => Q (iMax (p3 + 1) (iMin 100 r3)) M2)) (As := [.ref p1, .ref p2]) (rest := [.int 100, .int (p3 + 1)]) dX11_ask_8 h.1 rfl rfl (Nat.le_of_ble_eq_true rfl) (by
    intro c hc6 hk
    rcases hc6 with rfl | rfl | rfl | rfl | rfl | rfl
    · exact ⟨mX11_wishedAsk, 0, Or.inl ⟨c_X11_28, rfl⟩, rm_ok rfl rfl, T_X11_wishedAsk (h.2.1 hk)⟩
    · exact ⟨mX2_wishedAsk, 1, Or.inr ⟨mX11_wishedAsk, c_X11_28_2⟩, rm_ok rfl rfl, T_X2_wishedAsk (h.2.2.1 hk)⟩
    · exact ⟨mX3_wishedAsk, 2, Or.inr ⟨mX11_wishedAsk, c_X11_28_3⟩, rm_ok rfl rfl, T_X3_wishedAsk (h.2.2.2.1 hk)⟩
    · exact ⟨mX8_wishedAsk, 2, Or.inr ⟨mX11_wishedAsk, c_X11_28_8⟩, rm_ok rfl rfl, T_X8_wishedAsk (h.2.2.2.2.1 hk)⟩
    · exact ⟨mX1_wishedAsk, 1, Or.inr ⟨mX11_wishedAsk, c_X11_28_1⟩, rm_ok rfl rfl, T_X1_wishedAsk (h.2.2.2.2.2.1 hk)⟩
    · exact ⟨mX10_wishedAsk, 0, Or.inr ⟨mX11_wishedAsk, c_X11_28_10⟩, rm_ok rfl rfl, T_X10_wishedAsk (h.2.2.2.2.2.2 hk)⟩) ⟨Nat.le_refl 0, Nat.le_refl 0⟩ (kkI (fun r3 M2 h1 => s_mmin (pc := 11) dX11_ask_11 c_X11_19 (Nat.le_of_ble_eq_true rfl) (Nat.le_of_ble_eq_true rfl) (Nat.le_refl 0) (Nat.le_refl 0) (s_mmax (pc := 14) dX11_ask_14 c_X11_25 (Nat.le_of_ble_eq_true rfl) (Nat.le_of_ble_eq_true rfl) (Nat.le_refl 0) (Nat.le_refl 0) (s_ireturn (pc := 17) dX11_ask_17 rfl (Nat.zero_le _) (Nat.zero_le _) ⟨_, rfl, h1⟩)))))))))))))
/-! X9_oddsOf -/
theorem dX9_oddsOf_0 : cod mX9_oddsOf 0 (.aload_n 0) 1 := by decide +kernel
theorem dX9_oddsOf_1 : cod mX9_oddsOf 1 (.getfield 25) 3 := by decide +kernel
theorem dX9_oddsOf_4 : cod mX9_oddsOf 4 (.aload_n 1) 1 := by decide +kernel
theorem dX9_oddsOf_5 : cod mX9_oddsOf 5 (.getfield 34) 3 := by decide +kernel
theorem dX9_oddsOf_8 : cod mX9_oddsOf 8 (.ineg) 1 := by decide +kernel
theorem dX9_oddsOf_9 : cod mX9_oddsOf 9 (.if_icmp .le 18) 3 := by decide +kernel
theorem dX9_oddsOf_12 : cod mX9_oddsOf 12 (.aload_n 1) 1 := by decide +kernel
theorem dX9_oddsOf_13 : cod mX9_oddsOf 13 (.getfield 37) 3 := by decide +kernel
theorem dX9_oddsOf_16 : cod mX9_oddsOf 16 (.iload_n 3) 1 := by decide +kernel
theorem dX9_oddsOf_17 : cod mX9_oddsOf 17 (.bipush 101) 2 := by decide +kernel
theorem dX9_oddsOf_19 : cod mX9_oddsOf 19 (.imul) 1 := by decide +kernel
theorem dX9_oddsOf_20 : cod mX9_oddsOf 20 (.iload 5) 2 := by decide +kernel
theorem dX9_oddsOf_22 : cod mX9_oddsOf 22 (.iadd) 1 := by decide +kernel
theorem dX9_oddsOf_23 : cod mX9_oddsOf 23 (.iaload) 1 := by decide +kernel
theorem dX9_oddsOf_24 : cod mX9_oddsOf 24 (.goto 4) 3 := by decide +kernel
theorem dX9_oddsOf_27 : cod mX9_oddsOf 27 (.iconst 0) 1 := by decide +kernel
theorem dX9_oddsOf_28 : cod mX9_oddsOf 28 (.istore 6) 2 := by decide +kernel
theorem dX9_oddsOf_30 : cod mX9_oddsOf 30 (.aload_n 0) 1 := by decide +kernel
theorem dX9_oddsOf_31 : cod mX9_oddsOf 31 (.getfield 25) 3 := by decide +kernel
theorem dX9_oddsOf_34 : cod mX9_oddsOf 34 (.aload_n 1) 1 := by decide +kernel
theorem dX9_oddsOf_35 : cod mX9_oddsOf 35 (.getfield 34) 3 := by decide +kernel
theorem dX9_oddsOf_38 : cod mX9_oddsOf 38 (.if_icmp .ge 18) 3 := by decide +kernel
theorem dX9_oddsOf_41 : cod mX9_oddsOf 41 (.aload_n 1) 1 := by decide +kernel
theorem dX9_oddsOf_42 : cod mX9_oddsOf 42 (.getfield 40) 3 := by decide +kernel
theorem dX9_oddsOf_45 : cod mX9_oddsOf 45 (.iload_n 3) 1 := by decide +kernel
theorem dX9_oddsOf_46 : cod mX9_oddsOf 46 (.bipush 101) 2 := by decide +kernel
theorem dX9_oddsOf_48 : cod mX9_oddsOf 48 (.imul) 1 := by decide +kernel
theorem dX9_oddsOf_49 : cod mX9_oddsOf 49 (.iload 4) 2 := by decide +kernel
theorem dX9_oddsOf_51 : cod mX9_oddsOf 51 (.iadd) 1 := by decide +kernel
theorem dX9_oddsOf_52 : cod mX9_oddsOf 52 (.iaload) 1 := by decide +kernel
theorem dX9_oddsOf_53 : cod mX9_oddsOf 53 (.goto 4) 3 := by decide +kernel
theorem dX9_oddsOf_56 : cod mX9_oddsOf 56 (.iconst 0) 1 := by decide +kernel
theorem dX9_oddsOf_57 : cod mX9_oddsOf 57 (.istore 7) 2 := by decide +kernel
theorem dX9_oddsOf_59 : cod mX9_oddsOf 59 (.iload_n 2) 1 := by decide +kernel
theorem dX9_oddsOf_60 : cod mX9_oddsOf 60 (.iconst 1) 1 := by decide +kernel
theorem dX9_oddsOf_61 : cod mX9_oddsOf 61 (.if_icmp .ne 6) 3 := by decide +kernel
theorem dX9_oddsOf_64 : cod mX9_oddsOf 64 (.iload 6) 2 := by decide +kernel
theorem dX9_oddsOf_66 : cod mX9_oddsOf 66 (.ireturn) 1 := by decide +kernel
theorem dX9_oddsOf_67 : cod mX9_oddsOf 67 (.iload_n 2) 1 := by decide +kernel
theorem dX9_oddsOf_68 : cod mX9_oddsOf 68 (.iconst 2) 1 := by decide +kernel
theorem dX9_oddsOf_69 : cod mX9_oddsOf 69 (.if_icmp .ne 8) 3 := by decide +kernel
theorem dX9_oddsOf_72 : cod mX9_oddsOf 72 (.iload 7) 2 := by decide +kernel
theorem dX9_oddsOf_74 : cod mX9_oddsOf 74 (.goto 11) 3 := by decide +kernel
theorem dX9_oddsOf_77 : cod mX9_oddsOf 77 (.bipush 100) 2 := by decide +kernel
theorem dX9_oddsOf_79 : cod mX9_oddsOf 79 (.iload 6) 2 := by decide +kernel
theorem dX9_oddsOf_81 : cod mX9_oddsOf 81 (.isub) 1 := by decide +kernel
theorem dX9_oddsOf_82 : cod mX9_oddsOf 82 (.iload 7) 2 := by decide +kernel
theorem dX9_oddsOf_84 : cod mX9_oddsOf 84 (.isub) 1 := by decide +kernel
theorem dX9_oddsOf_85 : cod mX9_oddsOf 85 (.ireturn) 1 := by decide +kernel
def jn_X9_oddsOf_57 (Q : Int32 → Mem → Prop) (x2 : Int32) (x6 : Int32) (s0 : Int32) (M : Mem) : Prop := (¬ x2 = (1 : Int32) → (¬ x2 = (2 : Int32) → Q ((100 - x6) - s0) M) ∧ (x2 = (2 : Int32) → Q s0 M)) ∧ (x2 = (1 : Int32) → Q x6 M)
theorem P_jn_X9_oddsOf_57 {G : GG} {Q : Int32 → Mem → Prop} (x2 : Int32) (x6 : Int32) (s0 : Int32) (M : Mem) (h : jn_X9_oddsOf_57 Q x2 x6 s0 M) : PW G mX9_oddsOf (rmD 0 0 0) (QI Q) 57 [none, none, some (.int x2), none, none, none, some (.int x6), none] [.int s0] M 0 0 := (s_istore (pc := 57) (L1 := [none, none, some (.int x2), none, none, none, some (.int x6), some (.int s0)]) dX9_oddsOf_57 (Nat.le_of_ble_eq_true rfl) rfl (s_iload_n (pc := 59) dX9_oddsOf_59 rfl (s_iconst (pc := 60) dX9_oddsOf_60 ci_1 (s_icmp_ne (pc := 61) (tgt := 67) dX9_oddsOf_61 rfl (fun c9 => have h10 := h.1 c9; s_iload_n (pc := 67) dX9_oddsOf_67 rfl (s_iconst (pc := 68) dX9_oddsOf_68 ci_2 (s_icmp_ne (pc := 69) (tgt := 77) dX9_oddsOf_69 rfl (fun c13 => have h14 := h10.1 c13; s_bipush (pc := 77) dX9_oddsOf_77 cb_100 (s_iload (pc := 79) dX9_oddsOf_79 rfl (s_isub (pc := 81) dX9_oddsOf_81 (s_iload (pc := 82) dX9_oddsOf_82 rfl (s_isub (pc := 84) dX9_oddsOf_84 (s_ireturn (pc := 85) dX9_oddsOf_85 rfl (Nat.zero_le _) (Nat.zero_le _) ⟨_, rfl, h14⟩)))))) (fun c15 => have h16 := h10.2 c15; s_iload (pc := 72) dX9_oddsOf_72 rfl (s_goto (pc := 74) (tgt := 85) dX9_oddsOf_74 rfl (s_ireturn (pc := 85) dX9_oddsOf_85 rfl (Nat.zero_le _) (Nat.zero_le _) ⟨_, rfl, h16⟩)))))) (fun c11 => have h12 := h.2 c11; s_iload (pc := 64) dX9_oddsOf_64 rfl (s_ireturn (pc := 66) dX9_oddsOf_66 rfl (Nat.zero_le _) (Nat.zero_le _) ⟨_, rfl, h12⟩))))))
def jn_X9_oddsOf_28 (Q : Int32 → Mem → Prop) (x0 : Nat) (x1 : Nat) (x2 : Int32) (x3 : Int32) (x4 : Int32) (s0 : Int32) (M : Mem) : Prop := mK M x0 = 10 ∧ mK M x1 = 7 ∧ ((mI M x1 7) ≤ (mI M x0 1) → jn_X9_oddsOf_57 Q x2 s0 0 M) ∧ (¬ (mI M x1 7) ≤ (mI M x0 1) → mK M (mR M x1 11) = 20 ∧ vp_in ((x3 * 101) + x4) (mN M (mR M x1 11)) ∧ jn_X9_oddsOf_57 Q x2 s0 (mI M (mR M x1 11) ((x3 * 101) + x4).toNatClampNeg) M)
theorem P_jn_X9_oddsOf_28 {G : GG} {Q : Int32 → Mem → Prop} (x0 : Nat) (x1 : Nat) (x2 : Int32) (x3 : Int32) (x4 : Int32) (s0 : Int32) (M : Mem) (h : jn_X9_oddsOf_28 Q x0 x1 x2 x3 x4 s0 M) : PW G mX9_oddsOf (rmD 0 0 0) (QI Q) 28 [some (.ref x0), some (.ref x1), some (.int x2), some (.int x3), some (.int x4), none, none, none] [.int s0] M 0 0 := (s_istore (pc := 28) (L1 := [some (.ref x0), some (.ref x1), some (.int x2), some (.int x3), some (.int x4), none, some (.int s0), none]) dX9_oddsOf_28 (Nat.le_of_ble_eq_true rfl) rfl (s_aload_n (pc := 30) dX9_oddsOf_30 rfl (s_getI (pc := 31) dX9_oddsOf_31 f_X9_25 rfl h.1 (s_aload_n (pc := 34) dX9_oddsOf_34 rfl (s_getI (pc := 35) dX9_oddsOf_35 f_X9_34 rfl h.2.1 (s_icmp_ge (pc := 38) (tgt := 56) dX9_oddsOf_38 rfl (fun c5 => have h6 := h.2.2.1 c5; s_iconst (pc := 56) dX9_oddsOf_56 ci_0 (s_sel (L1 := [none, none, some (.int x2), none, none, none, some (.int s0), none]) [false, false, true, false, false, false, true, false] rfl (P_jn_X9_oddsOf_57 x2 s0 0 M h6))) (fun c7 => have h8 := h.2.2.2 c7; s_aload_n (pc := 41) dX9_oddsOf_41 rfl (s_getR (pc := 42) dX9_oddsOf_42 f_X9_40 rfl h.2.1 (s_iload_n (pc := 45) dX9_oddsOf_45 rfl (s_bipush (pc := 46) dX9_oddsOf_46 cb_101 (s_imul (pc := 48) dX9_oddsOf_48 (s_iload (pc := 49) dX9_oddsOf_49 rfl (s_iadd (pc := 51) dX9_oddsOf_51 (s_ial (pc := 52) dX9_oddsOf_52 h8.1 h8.2.1 (s_goto (pc := 53) (tgt := 57) dX9_oddsOf_53 rfl (s_sel (L1 := [none, none, some (.int x2), none, none, none, some (.int s0), none]) [false, false, true, false, false, false, true, false] rfl (P_jn_X9_oddsOf_57 x2 s0 (mI M (mR M x1 11) ((x3 * 101) + x4).toNatClampNeg) M h8.2.2)))))))))))))))))
def wp_X9_oddsOf (p0 : Nat) (p1 : Nat) (p2 : Int32) (p3 : Int32) (p4 : Int32) (p5 : Int32) (M : Mem) (Q : Int32 → Mem → Prop) : Prop := mK M p0 = 10 ∧ mK M p1 = 7 ∧ ((mI M p0 1) ≤ (-(mI M p1 7)) → jn_X9_oddsOf_28 Q p0 p1 p2 p3 p4 0 M) ∧ (¬ (mI M p0 1) ≤ (-(mI M p1 7)) → mK M (mR M p1 10) = 20 ∧ vp_in ((p3 * 101) + p5) (mN M (mR M p1 10)) ∧ jn_X9_oddsOf_28 Q p0 p1 p2 p3 p4 (mI M (mR M p1 10) ((p3 * 101) + p5).toNatClampNeg) M)
theorem T_X9_oddsOf {G : GG} {Q : Int32 → Mem → Prop} {M : Mem} {p0 : Nat} {p1 : Nat} {p2 : Int32} {p3 : Int32} {p4 : Int32} {p5 : Int32} (h : wp_X9_oddsOf p0 p1 p2 p3 p4 p5 M Q) : PMet G mX9_oddsOf 0 0 0 [.ref p0, .ref p1, .int p2, .int p3, .int p4, .int p5] M (QI Q) :=
  mk_met (by decide) rfl rfl (by
    intro w hw x9 e9
    subst e9
    simp at hw) (Nat.le_of_ble_eq_true rfl) (s_pad (L1 := [some (.ref p0), some (.ref p1), some (.int p2), some (.int p3), some (.int p4), some (.int p5), none, none]) 8 rfl (s_aload_n (pc := 0) dX9_oddsOf_0 rfl (s_getI (pc := 1) dX9_oddsOf_1 f_X9_25 rfl h.1 (s_aload_n (pc := 4) dX9_oddsOf_4 rfl (s_getI (pc := 5) dX9_oddsOf_5 f_X9_34 rfl h.2.1 (s_ineg (pc := 8) dX9_oddsOf_8 (s_icmp_le (pc := 9) (tgt := 27) dX9_oddsOf_9 rfl (fun c1 => have h2 := h.2.2.1 c1; s_iconst (pc := 27) dX9_oddsOf_27 ci_0 (s_sel (L1 := [some (.ref p0), some (.ref p1), some (.int p2), some (.int p3), some (.int p4), none, none, none]) [true, true, true, true, true, false, false, false] rfl (P_jn_X9_oddsOf_28 p0 p1 p2 p3 p4 0 M h2))) (fun c3 => have h4 := h.2.2.2 c3; s_aload_n (pc := 12) dX9_oddsOf_12 rfl (s_getR (pc := 13) dX9_oddsOf_13 f_X9_37 rfl h.2.1 (s_iload_n (pc := 16) dX9_oddsOf_16 rfl (s_bipush (pc := 17) dX9_oddsOf_17 cb_101 (s_imul (pc := 19) dX9_oddsOf_19 (s_iload (pc := 20) dX9_oddsOf_20 rfl (s_iadd (pc := 22) dX9_oddsOf_22 (s_ial (pc := 23) dX9_oddsOf_23 h4.1 h4.2.1 (s_goto (pc := 24) (tgt := 28) dX9_oddsOf_24 rfl (s_sel (L1 := [some (.ref p0), some (.ref p1), some (.int p2), some (.int p3), some (.int p4), none, none, none]) [true, true, true, true, true, false, false, false] rfl (P_jn_X9_oddsOf_28 p0 p1 p2 p3 p4 (mI M (mR M p1 10) ((p3 * 101) + p5).toNatClampNeg) M h4.2.2))))))))))))))))))
/-! X9_heldAfter -/
theorem dX9_heldAfter_0 : cod mX9_heldAfter 0 (.iload_n 1) 1 := by decide +kernel
theorem dX9_heldAfter_1 : cod mX9_heldAfter 1 (.iconst 1) 1 := by decide +kernel
theorem dX9_heldAfter_2 : cod mX9_heldAfter 2 (.if_icmp .ne 12) 3 := by decide +kernel
theorem dX9_heldAfter_5 : cod mX9_heldAfter 5 (.aload_n 0) 1 := by decide +kernel
theorem dX9_heldAfter_6 : cod mX9_heldAfter 6 (.getfield 25) 3 := by decide +kernel
theorem dX9_heldAfter_9 : cod mX9_heldAfter 9 (.iconst 1) 1 := by decide +kernel
theorem dX9_heldAfter_10 : cod mX9_heldAfter 10 (.isub) 1 := by decide +kernel
theorem dX9_heldAfter_11 : cod mX9_heldAfter 11 (.goto 21) 3 := by decide +kernel
theorem dX9_heldAfter_14 : cod mX9_heldAfter 14 (.iload_n 1) 1 := by decide +kernel
theorem dX9_heldAfter_15 : cod mX9_heldAfter 15 (.iconst 2) 1 := by decide +kernel
theorem dX9_heldAfter_16 : cod mX9_heldAfter 16 (.if_icmp .ne 12) 3 := by decide +kernel
theorem dX9_heldAfter_19 : cod mX9_heldAfter 19 (.aload_n 0) 1 := by decide +kernel
theorem dX9_heldAfter_20 : cod mX9_heldAfter 20 (.getfield 25) 3 := by decide +kernel
theorem dX9_heldAfter_23 : cod mX9_heldAfter 23 (.iconst 1) 1 := by decide +kernel
theorem dX9_heldAfter_24 : cod mX9_heldAfter 24 (.iadd) 1 := by decide +kernel
theorem dX9_heldAfter_25 : cod mX9_heldAfter 25 (.goto 7) 3 := by decide +kernel
theorem dX9_heldAfter_28 : cod mX9_heldAfter 28 (.aload_n 0) 1 := by decide +kernel
theorem dX9_heldAfter_29 : cod mX9_heldAfter 29 (.getfield 25) 3 := by decide +kernel
theorem dX9_heldAfter_32 : cod mX9_heldAfter 32 (.ireturn) 1 := by decide +kernel
def wp_X9_heldAfter (p0 : Nat) (p1 : Int32) (M : Mem) (Q : Int32 → Mem → Prop) : Prop := (¬ p1 = (1 : Int32) → (¬ p1 = (2 : Int32) → mK M p0 = 10 ∧ Q (mI M p0 1) M) ∧ (p1 = (2 : Int32) → mK M p0 = 10 ∧ Q ((mI M p0 1) + 1) M)) ∧ (p1 = (1 : Int32) → mK M p0 = 10 ∧ Q ((mI M p0 1) - 1) M)
theorem T_X9_heldAfter {G : GG} {Q : Int32 → Mem → Prop} {M : Mem} {p0 : Nat} {p1 : Int32} (h : wp_X9_heldAfter p0 p1 M Q) : PMet G mX9_heldAfter 0 0 0 [.ref p0, .int p1] M (QI Q) :=
  mk_met (by decide) rfl rfl (by
    intro w hw x9 e9
    subst e9
    simp at hw) (Nat.le_of_ble_eq_true rfl) (s_pad (L1 := [some (.ref p0), some (.int p1)]) 2 rfl (s_iload_n (pc := 0) dX9_heldAfter_0 rfl (s_iconst (pc := 1) dX9_heldAfter_1 ci_1 (s_icmp_ne (pc := 2) (tgt := 14) dX9_heldAfter_2 rfl (fun c1 => have h2 := h.1 c1; s_iload_n (pc := 14) dX9_heldAfter_14 rfl (s_iconst (pc := 15) dX9_heldAfter_15 ci_2 (s_icmp_ne (pc := 16) (tgt := 28) dX9_heldAfter_16 rfl (fun c5 => have h6 := h2.1 c5; s_aload_n (pc := 28) dX9_heldAfter_28 rfl (s_getI (pc := 29) dX9_heldAfter_29 f_X9_25 rfl h6.1 (s_ireturn (pc := 32) dX9_heldAfter_32 rfl (Nat.zero_le _) (Nat.zero_le _) ⟨_, rfl, h6.2⟩))) (fun c7 => have h8 := h2.2 c7; s_aload_n (pc := 19) dX9_heldAfter_19 rfl (s_getI (pc := 20) dX9_heldAfter_20 f_X9_25 rfl h8.1 (s_iconst (pc := 23) dX9_heldAfter_23 ci_1 (s_iadd (pc := 24) dX9_heldAfter_24 (s_goto (pc := 25) (tgt := 32) dX9_heldAfter_25 rfl (s_ireturn (pc := 32) dX9_heldAfter_32 rfl (Nat.zero_le _) (Nat.zero_le _) ⟨_, rfl, h8.2⟩))))))))) (fun c3 => have h4 := h.2 c3; s_aload_n (pc := 5) dX9_heldAfter_5 rfl (s_getI (pc := 6) dX9_heldAfter_6 f_X9_25 rfl h4.1 (s_iconst (pc := 9) dX9_heldAfter_9 ci_1 (s_isub (pc := 10) dX9_heldAfter_10 (s_goto (pc := 11) (tgt := 32) dX9_heldAfter_11 rfl (s_ireturn (pc := 32) dX9_heldAfter_32 rfl (Nat.zero_le _) (Nat.zero_le _) ⟨_, rfl, h4.2⟩))))))))))
/-! X9_takeTimes -/
theorem dX9_takeTimes_0 : cod mX9_takeTimes 0 (.iconst 0) 1 := by decide +kernel
theorem dX9_takeTimes_1 : cod mX9_takeTimes 1 (.istore 6) 2 := by decide +kernel
theorem dX9_takeTimes_3 : cod mX9_takeTimes 3 (.iconst 0) 1 := by decide +kernel
theorem dX9_takeTimes_4 : cod mX9_takeTimes 4 (.istore 7) 2 := by decide +kernel
theorem dX9_takeTimes_6 : cod mX9_takeTimes 6 (.iload 7) 2 := by decide +kernel
theorem dX9_takeTimes_8 : cod mX9_takeTimes 8 (.aload_n 2) 1 := by decide +kernel
theorem dX9_takeTimes_9 : cod mX9_takeTimes 9 (.getfield 15) 3 := by decide +kernel
theorem dX9_takeTimes_12 : cod mX9_takeTimes 12 (.if_icmp .ge 59) 3 := by decide +kernel
theorem dX9_takeTimes_15 : cod mX9_takeTimes 15 (.aload_n 0) 1 := by decide +kernel
theorem dX9_takeTimes_16 : cod mX9_takeTimes 16 (.getfield 9) 3 := by decide +kernel
theorem dX9_takeTimes_19 : cod mX9_takeTimes 19 (.iload 7) 2 := by decide +kernel
theorem dX9_takeTimes_21 : cod mX9_takeTimes 21 (.aload_n 1) 1 := by decide +kernel
theorem dX9_takeTimes_22 : cod mX9_takeTimes 22 (.getfield 9) 3 := by decide +kernel
theorem dX9_takeTimes_25 : cod mX9_takeTimes 25 (.iload 7) 2 := by decide +kernel
theorem dX9_takeTimes_27 : cod mX9_takeTimes 27 (.laload) 1 := by decide +kernel
theorem dX9_takeTimes_28 : cod mX9_takeTimes 28 (.aload_n 1) 1 := by decide +kernel
theorem dX9_takeTimes_29 : cod mX9_takeTimes 29 (.aload_n 2) 1 := by decide +kernel
theorem dX9_takeTimes_30 : cod mX9_takeTimes 30 (.iload_n 3) 1 := by decide +kernel
theorem dX9_takeTimes_31 : cod mX9_takeTimes 31 (.iload 7) 2 := by decide +kernel
theorem dX9_takeTimes_33 : cod mX9_takeTimes 33 (.iload 4) 2 := by decide +kernel
theorem dX9_takeTimes_35 : cod mX9_takeTimes 35 (.iload 5) 2 := by decide +kernel
theorem dX9_takeTimes_37 : cod mX9_takeTimes 37 (.invokevirtual 43) 3 := by decide +kernel
theorem dX9_takeTimes_40 : cod mX9_takeTimes 40 (.i2l) 1 := by decide +kernel
theorem dX9_takeTimes_41 : cod mX9_takeTimes 41 (.lmul) 1 := by decide +kernel
theorem dX9_takeTimes_42 : cod mX9_takeTimes 42 (.lastore) 1 := by decide +kernel
theorem dX9_takeTimes_43 : cod mX9_takeTimes 43 (.iload 6) 2 := by decide +kernel
theorem dX9_takeTimes_45 : cod mX9_takeTimes 45 (.aload_n 0) 1 := by decide +kernel
theorem dX9_takeTimes_46 : cod mX9_takeTimes 46 (.getfield 9) 3 := by decide +kernel
theorem dX9_takeTimes_49 : cod mX9_takeTimes 49 (.iload 7) 2 := by decide +kernel
theorem dX9_takeTimes_51 : cod mX9_takeTimes 51 (.laload) 1 := by decide +kernel
theorem dX9_takeTimes_52 : cod mX9_takeTimes 52 (.lconst 0) 1 := by decide +kernel
theorem dX9_takeTimes_53 : cod mX9_takeTimes 53 (.lcmp) 1 := by decide +kernel
theorem dX9_takeTimes_54 : cod mX9_takeTimes 54 (.ifCond .le 7) 3 := by decide +kernel
theorem dX9_takeTimes_57 : cod mX9_takeTimes 57 (.iconst 1) 1 := by decide +kernel
theorem dX9_takeTimes_58 : cod mX9_takeTimes 58 (.goto 4) 3 := by decide +kernel
theorem dX9_takeTimes_61 : cod mX9_takeTimes 61 (.iconst 0) 1 := by decide +kernel
theorem dX9_takeTimes_62 : cod mX9_takeTimes 62 (.ior) 1 := by decide +kernel
theorem dX9_takeTimes_63 : cod mX9_takeTimes 63 (.istore 6) 2 := by decide +kernel
theorem dX9_takeTimes_65 : cod mX9_takeTimes 65 (.iinc 7 1) 3 := by decide +kernel
theorem dX9_takeTimes_68 : cod mX9_takeTimes 68 (.goto (-62)) 3 := by decide +kernel
theorem dX9_takeTimes_71 : cod mX9_takeTimes 71 (.aload_n 0) 1 := by decide +kernel
theorem dX9_takeTimes_72 : cod mX9_takeTimes 72 (.aload_n 1) 1 := by decide +kernel
theorem dX9_takeTimes_73 : cod mX9_takeTimes 73 (.iload_n 3) 1 := by decide +kernel
theorem dX9_takeTimes_74 : cod mX9_takeTimes 74 (.invokevirtual 47) 3 := by decide +kernel
theorem dX9_takeTimes_77 : cod mX9_takeTimes 77 (.putfield 25) 3 := by decide +kernel
theorem dX9_takeTimes_80 : cod mX9_takeTimes 80 (.iload 6) 2 := by decide +kernel
theorem dX9_takeTimes_82 : cod mX9_takeTimes 82 (.ireturn) 1 := by decide +kernel
def jn_X9_takeTimes_62 (K6 : Nat → Nat → Nat → Int32 → Int32 → Int32 → Int32 → Int32 → Mem → Prop) (Q : Int32 → Mem → Prop) (x0 : Nat) (x1 : Nat) (x2 : Nat) (x3 : Int32) (x4 : Int32) (x5 : Int32) (x7 : Int32) (s0 : Int32) (s1 : Int32) (M : Mem) : Prop := ∀ y21 : Int32, y21 = s1 ||| s0 → K6 x0 x1 x2 x3 x4 x5 y21 (x7 + 1) M
theorem P_jn_X9_takeTimes_62 {G : GG} {K6 : Nat → Nat → Nat → Int32 → Int32 → Int32 → Int32 → Int32 → Mem → Prop} {Q : Int32 → Mem → Prop} (hK6 : ∀ (x0 : Nat) (x1 : Nat) (x2 : Nat) (x3 : Int32) (x4 : Int32) (x5 : Int32) (x6 : Int32) (x7 : Int32) (M : Mem), K6 x0 x1 x2 x3 x4 x5 x6 x7 M → PW G mX9_takeTimes (rmD 1 0 0) (QI Q) 6 [some (.ref x0), some (.ref x1), some (.ref x2), some (.int x3), some (.int x4), some (.int x5), some (.int x6), some (.int x7)] [] M 0 0) (x0 : Nat) (x1 : Nat) (x2 : Nat) (x3 : Int32) (x4 : Int32) (x5 : Int32) (x7 : Int32) (s0 : Int32) (s1 : Int32) (M : Mem) (h : jn_X9_takeTimes_62 K6 Q x0 x1 x2 x3 x4 x5 x7 s0 s1 M) : PW G mX9_takeTimes (rmD 1 0 0) (QI Q) 62 [some (.ref x0), some (.ref x1), some (.ref x2), some (.int x3), some (.int x4), some (.int x5), none, some (.int x7)] [.int s0, .int s1] M 0 0 := (s_ior (pc := 62) dX9_takeTimes_62 (nmI (fun y21 e22 => have h23 := h y21 e22; s_istore (pc := 63) (L1 := [some (.ref x0), some (.ref x1), some (.ref x2), some (.int x3), some (.int x4), some (.int x5), some (.int y21), some (.int x7)]) dX9_takeTimes_63 (Nat.le_of_ble_eq_true rfl) rfl (s_iinc (pc := 65) (L1 := [some (.ref x0), some (.ref x1), some (.ref x2), some (.int x3), some (.int x4), some (.int x5), some (.int y21), some (.int (x7 + 1))]) dX9_takeTimes_65 rfl ci_1 (Nat.le_of_ble_eq_true rfl) rfl (s_goto (pc := 68) (tgt := 6) dX9_takeTimes_68 rfl (s_sel (L1 := [some (.ref x0), some (.ref x1), some (.ref x2), some (.int x3), some (.int x4), some (.int x5), some (.int y21), some (.int (x7 + 1))]) [true, true, true, true, true, true, true, true] rfl (hK6 x0 x1 x2 x3 x4 x5 y21 (x7 + 1) M h23)))))))
def lp_X9_takeTimes_6 (Q : Int32 → Mem → Prop) : Nat → Nat → Nat → Nat → Int32 → Int32 → Int32 → Int32 → Int32 → Mem → Prop
  | 0 => fun _ _ _ _ _ _ _ _ _ => False
  | n + 1 => fun x0 x1 x2 x3 x4 x5 x6 x7 M => mK M x2 = 7 ∧ ((mI M x2 0) ≤ x7 → mK M x1 = 10 ∧ wp_X9_heldAfter x1 x3 M (fun r7 M6 => mK M6 x0 = 10 ∧ ∀ M8 : Mem, M8 = uI M6 x0 1 r7 → (x6 = 0 ∨ x6 = 1) ∧ Q x6 M8)) ∧ (¬ (mI M x2 0) ≤ x7 → mK M x0 = 10 ∧ mK M x1 = 10 ∧ mK M (mR M x1 0) = 21 ∧ vp_in x7 (mN M (mR M x1 0)) ∧ wp_X9_oddsOf x1 x2 x3 x7 x4 x5 M (fun r13 M12 => mK M12 (mR M x0 0) = 21 ∧ vp_in x7 (mN M12 (mR M x0 0)) ∧ ∀ M14 : Mem, M14 = uJ M12 (mR M x0 0) x7.toNatClampNeg ((mJ M (mR M x1 0) x7.toNatClampNeg) * r13.toInt64) → mK M14 x0 = 10 ∧ mK M14 (mR M14 x0 0) = 21 ∧ vp_in x7 (mN M14 (mR M14 x0 0)) ∧ ((mJ M14 (mR M14 x0 0) x7.toNatClampNeg) ≤ (0 : Int64) → jn_X9_takeTimes_62 (fun fx0 fx1 fx2 fx3 fx4 fx5 fx6 fx7 fM => lp_X9_takeTimes_6 Q n fx0 fx1 fx2 fx3 fx4 fx5 fx6 fx7 fM) Q x0 x1 x2 x3 x4 x5 x7 0 x6 M14) ∧ (¬ (mJ M14 (mR M14 x0 0) x7.toNatClampNeg) ≤ (0 : Int64) → jn_X9_takeTimes_62 (fun fx0 fx1 fx2 fx3 fx4 fx5 fx6 fx7 fM => lp_X9_takeTimes_6 Q n fx0 fx1 fx2 fx3 fx4 fx5 fx6 fx7 fM) Q x0 x1 x2 x3 x4 x5 x7 1 x6 M14)))
theorem P_lp_X9_takeTimes_6 {G : GG} {Q : Int32 → Mem → Prop} : ∀ (n : Nat) (x0 : Nat) (x1 : Nat) (x2 : Nat) (x3 : Int32) (x4 : Int32) (x5 : Int32) (x6 : Int32) (x7 : Int32) (M : Mem), lp_X9_takeTimes_6 Q n x0 x1 x2 x3 x4 x5 x6 x7 M → PW G mX9_takeTimes (rmD 1 0 0) (QI Q) 6 [some (.ref x0), some (.ref x1), some (.ref x2), some (.int x3), some (.int x4), some (.int x5), some (.int x6), some (.int x7)] [] M 0 0 := by
  intro n
  induction n with
  | zero => intro x0 x1 x2 x3 x4 x5 x6 x7 M h; exact h.elim
  | succ n ih =>
    intro x0 x1 x2 x3 x4 x5 x6 x7 M h
    exact (s_iload (pc := 6) dX9_takeTimes_6 rfl (s_aload_n (pc := 8) dX9_takeTimes_8 rfl (s_getI (pc := 9) dX9_takeTimes_9 f_X9_15 rfl h.1 (s_icmp_ge (pc := 12) (tgt := 71) dX9_takeTimes_12 rfl (fun c1 => have h2 := h.2.1 c1; s_aload_n (pc := 71) dX9_takeTimes_71 rfl (s_aload_n (pc := 72) dX9_takeTimes_72 rfl (s_iload_n (pc := 73) dX9_takeTimes_73 rfl (s_callV (pc := 74) (As := [.int x3]) (rest := [.ref x0]) (d' := 0) (mc' := 0) (ms' := 0) dX9_takeTimes_74 c_X9_47 (Nat.le_of_ble_eq_true rfl) rfl h2.1 rfl rfl (Nat.le_of_ble_eq_true rfl) (rm_ok rfl rfl) ⟨Nat.le_refl 0, Nat.le_refl 0⟩ (T_X9_heldAfter h2.2) (kkI (fun r7 M6 h5 => s_putI (pc := 77) dX9_takeTimes_77 f_X9_25 (Or.inl rfl) (Or.inl rfl) h5.1 (nmM (fun M8 e9 => have h10 := h5.2 M8 e9; s_iload (pc := 80) dX9_takeTimes_80 rfl (s_zreturn (pc := 82) dX9_takeTimes_82 rfl h10.1 (Nat.zero_le _) (Nat.zero_le _) ⟨_, rfl, h10.2⟩))))))))) (fun c3 => have h4 := h.2.2 c3; s_aload_n (pc := 15) dX9_takeTimes_15 rfl (s_getR (pc := 16) dX9_takeTimes_16 f_X9_9 rfl h4.1 (s_iload (pc := 19) dX9_takeTimes_19 rfl (s_aload_n (pc := 21) dX9_takeTimes_21 rfl (s_getR (pc := 22) dX9_takeTimes_22 f_X9_9 rfl h4.2.1 (s_iload (pc := 25) dX9_takeTimes_25 rfl (s_lal (pc := 27) dX9_takeTimes_27 h4.2.2.1 h4.2.2.2.1 (s_aload_n (pc := 28) dX9_takeTimes_28 rfl (s_aload_n (pc := 29) dX9_takeTimes_29 rfl (s_iload_n (pc := 30) dX9_takeTimes_30 rfl (s_iload (pc := 31) dX9_takeTimes_31 rfl (s_iload (pc := 33) dX9_takeTimes_33 rfl (s_iload (pc := 35) dX9_takeTimes_35 rfl (s_callV (pc := 37) (As := [.ref x2, .int x3, .int x7, .int x4, .int x5]) (rest := [.long (mJ M (mR M x1 0) x7.toNatClampNeg), .int x7, .ref (mR M x0 0)]) (d' := 0) (mc' := 0) (ms' := 0) dX9_takeTimes_37 c_X9_43 (Nat.le_of_ble_eq_true rfl) rfl h4.2.1 rfl rfl (Nat.le_of_ble_eq_true rfl) (rm_ok rfl rfl) ⟨Nat.le_refl 0, Nat.le_refl 0⟩ (T_X9_oddsOf h4.2.2.2.2) (kkI (fun r13 M12 h11 => s_i2l (pc := 40) dX9_takeTimes_40 (s_lmul (pc := 41) dX9_takeTimes_41 (s_las (pc := 42) dX9_takeTimes_42 h11.1 h11.2.1 (nmM (fun M14 e15 => have h16 := (h11.2.2) M14 e15; s_iload (pc := 43) dX9_takeTimes_43 rfl (s_aload_n (pc := 45) dX9_takeTimes_45 rfl (s_getR (pc := 46) dX9_takeTimes_46 f_X9_9 rfl h16.1 (s_iload (pc := 49) dX9_takeTimes_49 rfl (s_lal (pc := 51) dX9_takeTimes_51 h16.2.1 h16.2.2.1 (s_lconst (pc := 52) (v := 0) dX9_takeTimes_52 rfl (s_lif_le (pc := 53) (tgt := 61) dX9_takeTimes_53 dX9_takeTimes_54 rfl (fun c17 => have h18 := h16.2.2.2.1 c17; s_iconst (pc := 61) dX9_takeTimes_61 ci_0 (s_sel (L1 := [some (.ref x0), some (.ref x1), some (.ref x2), some (.int x3), some (.int x4), some (.int x5), none, some (.int x7)]) [true, true, true, true, true, true, false, true] rfl (P_jn_X9_takeTimes_62 ih x0 x1 x2 x3 x4 x5 x7 0 x6 M14 h18))) (fun c19 => have h20 := h16.2.2.2.2 c19; s_iconst (pc := 57) dX9_takeTimes_57 ci_1 (s_goto (pc := 58) (tgt := 62) dX9_takeTimes_58 rfl (s_sel (L1 := [some (.ref x0), some (.ref x1), some (.ref x2), some (.int x3), some (.int x4), some (.int x5), none, some (.int x7)]) [true, true, true, true, true, true, false, true] rfl (P_jn_X9_takeTimes_62 ih x0 x1 x2 x3 x4 x5 x7 1 x6 M14 h20))))))))))))))))))))))))))))))))))
def wp_X9_takeTimes (p0 : Nat) (p1 : Nat) (p2 : Nat) (p3 : Int32) (p4 : Int32) (p5 : Int32) (M : Mem) (Q : Int32 → Mem → Prop) : Prop := ∃ n24 : Nat, lp_X9_takeTimes_6 Q n24 p0 p1 p2 p3 p4 p5 0 0 M
theorem T_X9_takeTimes {G : GG} {Q : Int32 → Mem → Prop} {M : Mem} {p0 : Nat} {p1 : Nat} {p2 : Nat} {p3 : Int32} {p4 : Int32} {p5 : Int32} (h : wp_X9_takeTimes p0 p1 p2 p3 p4 p5 M Q) : PMet G mX9_takeTimes 1 0 0 [.ref p0, .ref p1, .ref p2, .int p3, .int p4, .int p5] M (QI Q) :=
  mk_met (by decide) rfl rfl (by
    intro w hw x9 e9
    subst e9
    simp at hw) (Nat.le_of_ble_eq_true rfl) (s_pad (L1 := [some (.ref p0), some (.ref p1), some (.ref p2), some (.int p3), some (.int p4), some (.int p5), none, none]) 8 rfl (s_iconst (pc := 0) dX9_takeTimes_0 ci_0 (s_istore (pc := 1) (L1 := [some (.ref p0), some (.ref p1), some (.ref p2), some (.int p3), some (.int p4), some (.int p5), some (.int 0), none]) dX9_takeTimes_1 (Nat.le_of_ble_eq_true rfl) rfl (s_iconst (pc := 3) dX9_takeTimes_3 ci_0 (s_istore (pc := 4) (L1 := [some (.ref p0), some (.ref p1), some (.ref p2), some (.int p3), some (.int p4), some (.int p5), some (.int 0), some (.int 0)]) dX9_takeTimes_4 (Nat.le_of_ble_eq_true rfl) rfl (Exists.elim h (fun n24 hn => s_sel (L1 := [some (.ref p0), some (.ref p1), some (.ref p2), some (.int p3), some (.int p4), some (.int p5), some (.int 0), some (.int 0)]) [true, true, true, true, true, true, true, true] rfl (P_lp_X9_takeTimes_6 n24 p0 p1 p2 p3 p4 p5 0 0 M hn))))))))
/-! X12_divisorOf -/
theorem dX12_divisorOf_0 : cod mX12_divisorOf 0 (.lload_n 0) 1 := by decide +kernel
theorem dX12_divisorOf_1 : cod mX12_divisorOf 1 (.lstore 4) 2 := by decide +kernel
theorem dX12_divisorOf_3 : cod mX12_divisorOf 3 (.lload_n 2) 1 := by decide +kernel
theorem dX12_divisorOf_4 : cod mX12_divisorOf 4 (.lstore 6) 2 := by decide +kernel
theorem dX12_divisorOf_6 : cod mX12_divisorOf 6 (.iconst 0) 1 := by decide +kernel
theorem dX12_divisorOf_7 : cod mX12_divisorOf 7 (.istore 8) 2 := by decide +kernel
theorem dX12_divisorOf_9 : cod mX12_divisorOf 9 (.iload 8) 2 := by decide +kernel
theorem dX12_divisorOf_11 : cod mX12_divisorOf 11 (.bipush 100) 2 := by decide +kernel
theorem dX12_divisorOf_13 : cod mX12_divisorOf 13 (.if_icmp .ge 31) 3 := by decide +kernel
theorem dX12_divisorOf_16 : cod mX12_divisorOf 16 (.lload 6) 2 := by decide +kernel
theorem dX12_divisorOf_18 : cod mX12_divisorOf 18 (.lconst 0) 1 := by decide +kernel
theorem dX12_divisorOf_19 : cod mX12_divisorOf 19 (.lcmp) 1 := by decide +kernel
theorem dX12_divisorOf_20 : cod mX12_divisorOf 20 (.ifCond .eq 24) 3 := by decide +kernel
theorem dX12_divisorOf_23 : cod mX12_divisorOf 23 (.lload 4) 2 := by decide +kernel
theorem dX12_divisorOf_25 : cod mX12_divisorOf 25 (.lload 6) 2 := by decide +kernel
theorem dX12_divisorOf_27 : cod mX12_divisorOf 27 (.lrem) 1 := by decide +kernel
theorem dX12_divisorOf_28 : cod mX12_divisorOf 28 (.lstore 9) 2 := by decide +kernel
theorem dX12_divisorOf_30 : cod mX12_divisorOf 30 (.lload 6) 2 := by decide +kernel
theorem dX12_divisorOf_32 : cod mX12_divisorOf 32 (.lstore 4) 2 := by decide +kernel
theorem dX12_divisorOf_34 : cod mX12_divisorOf 34 (.lload 9) 2 := by decide +kernel
theorem dX12_divisorOf_36 : cod mX12_divisorOf 36 (.lstore 6) 2 := by decide +kernel
theorem dX12_divisorOf_38 : cod mX12_divisorOf 38 (.iinc 8 1) 3 := by decide +kernel
theorem dX12_divisorOf_41 : cod mX12_divisorOf 41 (.goto (-32)) 3 := by decide +kernel
theorem dX12_divisorOf_44 : cod mX12_divisorOf 44 (.lload 4) 2 := by decide +kernel
theorem dX12_divisorOf_46 : cod mX12_divisorOf 46 (.lreturn) 1 := by decide +kernel
def lp_X12_divisorOf_9 (Q : Int64 → Mem → Prop) : Nat → Int64 → Int64 → Int32 → Mem → Prop
  | 0 => fun _ _ _ _ => False
  | n + 1 => fun x4 x6 x8 M => ((100 : Int32) ≤ x8 → Q x4 M) ∧ (¬ (100 : Int32) ≤ x8 → (x6 = (0 : Int64) → Q x4 M) ∧ (¬ x6 = (0 : Int64) → ¬ x6 = 0 ∧ ∀ y9 : Int64, y9 = x4 - x4 / x6 * x6 → (lp_X12_divisorOf_9 Q n) x6 y9 (x8 + 1) M))
theorem P_lp_X12_divisorOf_9 {G : GG} {Q : Int64 → Mem → Prop} : ∀ (n : Nat) (x4 : Int64) (x6 : Int64) (x8 : Int32) (M : Mem), lp_X12_divisorOf_9 Q n x4 x6 x8 M → PW G mX12_divisorOf (rmD 0 0 0) (QJ Q) 9 [none, none, none, none, some (.long x4), none, some (.long x6), none, some (.int x8), none, none] [] M 0 0 := by
  intro n
  induction n with
  | zero => intro x4 x6 x8 M h; exact h.elim
  | succ n ih =>
    intro x4 x6 x8 M h
    exact (s_iload (pc := 9) dX12_divisorOf_9 rfl (s_bipush (pc := 11) dX12_divisorOf_11 cb_100 (s_icmp_ge (pc := 13) (tgt := 44) dX12_divisorOf_13 rfl (fun c1 => have h2 := h.1 c1; s_lload (pc := 44) dX12_divisorOf_44 rfl (s_lreturn (pc := 46) dX12_divisorOf_46 rfl (Nat.zero_le _) (Nat.zero_le _) ⟨_, rfl, h2⟩)) (fun c3 => have h4 := h.2 c3; s_lload (pc := 16) dX12_divisorOf_16 rfl (s_lconst (pc := 18) (v := 0) dX12_divisorOf_18 rfl (s_lif_eq (pc := 19) (tgt := 44) dX12_divisorOf_19 dX12_divisorOf_20 rfl (fun c5 => have h6 := h4.1 c5; s_lload (pc := 44) dX12_divisorOf_44 rfl (s_lreturn (pc := 46) dX12_divisorOf_46 rfl (Nat.zero_le _) (Nat.zero_le _) ⟨_, rfl, h6⟩)) (fun c7 => have h8 := h4.2 c7; s_lload (pc := 23) dX12_divisorOf_23 rfl (s_lload (pc := 25) dX12_divisorOf_25 rfl (s_lrem (pc := 27) dX12_divisorOf_27 h8.1 (nmJ (fun y9 e10 => have h11 := h8.2 y9 e10; s_lstore (pc := 28) (L1 := [none, none, none, none, some (.long x4), none, some (.long x6), none, some (.int x8), some (.long y9), none]) dX12_divisorOf_28 (Nat.le_of_ble_eq_true rfl) rfl (s_lload (pc := 30) dX12_divisorOf_30 rfl (s_lstore (pc := 32) (L1 := [none, none, none, none, some (.long x6), none, some (.long x6), none, some (.int x8), some (.long y9), none]) dX12_divisorOf_32 (Nat.le_of_ble_eq_true rfl) rfl (s_lload (pc := 34) dX12_divisorOf_34 rfl (s_lstore (pc := 36) (L1 := [none, none, none, none, some (.long x6), none, some (.long y9), none, some (.int x8), some (.long y9), none]) dX12_divisorOf_36 (Nat.le_of_ble_eq_true rfl) rfl (s_iinc (pc := 38) (L1 := [none, none, none, none, some (.long x6), none, some (.long y9), none, some (.int (x8 + 1)), some (.long y9), none]) dX12_divisorOf_38 rfl ci_1 (Nat.le_of_ble_eq_true rfl) rfl (s_goto (pc := 41) (tgt := 9) dX12_divisorOf_41 rfl (s_sel (L1 := [none, none, none, none, some (.long x6), none, some (.long y9), none, some (.int (x8 + 1)), none, none]) [false, false, false, false, true, false, true, false, true, false, false] rfl (ih x6 y9 (x8 + 1) M h11)))))))))))))))))))
def wp_X12_divisorOf (p0 : Int64) (p1 : Int64) (M : Mem) (Q : Int64 → Mem → Prop) : Prop := ∃ n12 : Nat, lp_X12_divisorOf_9 Q n12 p0 p1 0 M
theorem T_X12_divisorOf {G : GG} {Q : Int64 → Mem → Prop} {M : Mem} {p0 : Int64} {p1 : Int64} (h : wp_X12_divisorOf p0 p1 M Q) : PMet G mX12_divisorOf 0 0 0 [.long p0, .long p1] M (QJ Q) :=
  mk_met (by decide) rfl rfl (by
    intro w hw x9 e9
    subst e9
    simp at hw) (Nat.le_of_ble_eq_true rfl) (s_pad (L1 := [some (.long p0), none, some (.long p1), none, none, none, none, none, none, none, none]) 11 rfl (s_lload_n (pc := 0) dX12_divisorOf_0 rfl (s_lstore (pc := 1) (L1 := [some (.long p0), none, some (.long p1), none, some (.long p0), none, none, none, none, none, none]) dX12_divisorOf_1 (Nat.le_of_ble_eq_true rfl) rfl (s_lload_n (pc := 3) dX12_divisorOf_3 rfl (s_lstore (pc := 4) (L1 := [some (.long p0), none, some (.long p1), none, some (.long p0), none, some (.long p1), none, none, none, none]) dX12_divisorOf_4 (Nat.le_of_ble_eq_true rfl) rfl (s_iconst (pc := 6) dX12_divisorOf_6 ci_0 (s_istore (pc := 7) (L1 := [some (.long p0), none, some (.long p1), none, some (.long p0), none, some (.long p1), none, some (.int 0), none, none]) dX12_divisorOf_7 (Nat.le_of_ble_eq_true rfl) rfl (Exists.elim h (fun n12 hn => s_sel (L1 := [none, none, none, none, some (.long p0), none, some (.long p1), none, some (.int 0), none, none]) [false, false, false, false, true, false, true, false, true, false, false] rfl (P_lp_X12_divisorOf_9 n12 p0 p1 0 M hn))))))))))
/-! X9_greatest -/
theorem dX9_greatest_0 : cod mX9_greatest 0 (.lconst 0) 1 := by decide +kernel
theorem dX9_greatest_1 : cod mX9_greatest 1 (.lstore_n 2) 1 := by decide +kernel
theorem dX9_greatest_2 : cod mX9_greatest 2 (.iconst 0) 1 := by decide +kernel
theorem dX9_greatest_3 : cod mX9_greatest 3 (.istore 4) 2 := by decide +kernel
theorem dX9_greatest_5 : cod mX9_greatest 5 (.iload 4) 2 := by decide +kernel
theorem dX9_greatest_7 : cod mX9_greatest 7 (.aload_n 1) 1 := by decide +kernel
theorem dX9_greatest_8 : cod mX9_greatest 8 (.getfield 15) 3 := by decide +kernel
theorem dX9_greatest_11 : cod mX9_greatest 11 (.if_icmp .ge 21) 3 := by decide +kernel
theorem dX9_greatest_14 : cod mX9_greatest 14 (.lload_n 2) 1 := by decide +kernel
theorem dX9_greatest_15 : cod mX9_greatest 15 (.aload_n 0) 1 := by decide +kernel
theorem dX9_greatest_16 : cod mX9_greatest 16 (.getfield 9) 3 := by decide +kernel
theorem dX9_greatest_19 : cod mX9_greatest 19 (.iload 4) 2 := by decide +kernel
theorem dX9_greatest_21 : cod mX9_greatest 21 (.laload) 1 := by decide +kernel
theorem dX9_greatest_22 : cod mX9_greatest 22 (.invokestatic 69) 3 := by decide +kernel
theorem dX9_greatest_25 : cod mX9_greatest 25 (.lstore_n 2) 1 := by decide +kernel
theorem dX9_greatest_26 : cod mX9_greatest 26 (.iinc 4 1) 3 := by decide +kernel
theorem dX9_greatest_29 : cod mX9_greatest 29 (.goto (-24)) 3 := by decide +kernel
theorem dX9_greatest_32 : cod mX9_greatest 32 (.lload_n 2) 1 := by decide +kernel
theorem dX9_greatest_33 : cod mX9_greatest 33 (.lreturn) 1 := by decide +kernel
def lp_X9_greatest_5 (Q : Int64 → Mem → Prop) : Nat → Nat → Nat → Int64 → Int32 → Mem → Prop
  | 0 => fun _ _ _ _ _ => False
  | n + 1 => fun x0 x1 x2 x4 M => mK M x1 = 7 ∧ ((mI M x1 0) ≤ x4 → Q x2 M) ∧ (¬ (mI M x1 0) ≤ x4 → mK M x0 = 10 ∧ mK M (mR M x0 0) = 21 ∧ vp_in x4 (mN M (mR M x0 0)) ∧ ∀ y5 : Int64, y5 = jMax x2 (mJ M (mR M x0 0) x4.toNatClampNeg) → (lp_X9_greatest_5 Q n) x0 x1 y5 (x4 + 1) M)
theorem P_lp_X9_greatest_5 {G : GG} {Q : Int64 → Mem → Prop} : ∀ (n : Nat) (x0 : Nat) (x1 : Nat) (x2 : Int64) (x4 : Int32) (M : Mem), lp_X9_greatest_5 Q n x0 x1 x2 x4 M → PW G mX9_greatest (rmD 1 0 0) (QJ Q) 5 [some (.ref x0), some (.ref x1), some (.long x2), none, some (.int x4)] [] M 0 0 := by
  intro n
  induction n with
  | zero => intro x0 x1 x2 x4 M h; exact h.elim
  | succ n ih =>
    intro x0 x1 x2 x4 M h
    exact (s_iload (pc := 5) dX9_greatest_5 rfl (s_aload_n (pc := 7) dX9_greatest_7 rfl (s_getI (pc := 8) dX9_greatest_8 f_X9_15 rfl h.1 (s_icmp_ge (pc := 11) (tgt := 32) dX9_greatest_11 rfl (fun c1 => have h2 := h.2.1 c1; s_lload_n (pc := 32) dX9_greatest_32 rfl (s_lreturn (pc := 33) dX9_greatest_33 rfl (Nat.zero_le _) (Nat.zero_le _) ⟨_, rfl, h2⟩)) (fun c3 => have h4 := h.2.2 c3; s_lload_n (pc := 14) dX9_greatest_14 rfl (s_aload_n (pc := 15) dX9_greatest_15 rfl (s_getR (pc := 16) dX9_greatest_16 f_X9_9 rfl h4.1 (s_iload (pc := 19) dX9_greatest_19 rfl (s_lal (pc := 21) dX9_greatest_21 h4.2.1 h4.2.2.1 (s_mmaxJ (pc := 22) dX9_greatest_22 c_X9_69 (Nat.le_of_ble_eq_true rfl) (Nat.le_of_ble_eq_true rfl) (Nat.le_refl 0) (Nat.le_refl 0) (nmJ (fun y5 e6 => have h7 := h4.2.2.2 y5 e6; s_lstore_n (pc := 25) (L1 := [some (.ref x0), some (.ref x1), some (.long y5), none, some (.int x4)]) dX9_greatest_25 (Nat.le_of_ble_eq_true rfl) rfl (s_iinc (pc := 26) (L1 := [some (.ref x0), some (.ref x1), some (.long y5), none, some (.int (x4 + 1))]) dX9_greatest_26 rfl ci_1 (Nat.le_of_ble_eq_true rfl) rfl (s_goto (pc := 29) (tgt := 5) dX9_greatest_29 rfl (s_sel (L1 := [some (.ref x0), some (.ref x1), some (.long y5), none, some (.int (x4 + 1))]) [true, true, true, false, true] rfl (ih x0 x1 y5 (x4 + 1) M h7))))))))))))))))
def wp_X9_greatest (p0 : Nat) (p1 : Nat) (M : Mem) (Q : Int64 → Mem → Prop) : Prop := ∃ n8 : Nat, lp_X9_greatest_5 Q n8 p0 p1 0 0 M
theorem T_X9_greatest {G : GG} {Q : Int64 → Mem → Prop} {M : Mem} {p0 : Nat} {p1 : Nat} (h : wp_X9_greatest p0 p1 M Q) : PMet G mX9_greatest 1 0 0 [.ref p0, .ref p1] M (QJ Q) :=
  mk_met (by decide) rfl rfl (by
    intro w hw x9 e9
    subst e9
    simp at hw) (Nat.le_of_ble_eq_true rfl) (s_pad (L1 := [some (.ref p0), some (.ref p1), none, none, none]) 5 rfl (s_lconst (pc := 0) (v := 0) dX9_greatest_0 rfl (s_lstore_n (pc := 1) (L1 := [some (.ref p0), some (.ref p1), some (.long 0), none, none]) dX9_greatest_1 (Nat.le_of_ble_eq_true rfl) rfl (s_iconst (pc := 2) dX9_greatest_2 ci_0 (s_istore (pc := 3) (L1 := [some (.ref p0), some (.ref p1), some (.long 0), none, some (.int 0)]) dX9_greatest_3 (Nat.le_of_ble_eq_true rfl) rfl (Exists.elim h (fun n8 hn => s_sel (L1 := [some (.ref p0), some (.ref p1), some (.long 0), none, some (.int 0)]) [true, true, true, false, true] rfl (P_lp_X9_greatest_5 n8 p0 p1 0 0 M hn))))))))
/-! X9_halve -/
theorem dX9_halve_0 : cod mX9_halve 0 (.iconst 0) 1 := by decide +kernel
theorem dX9_halve_1 : cod mX9_halve 1 (.istore_n 2) 1 := by decide +kernel
theorem dX9_halve_2 : cod mX9_halve 2 (.iload_n 2) 1 := by decide +kernel
theorem dX9_halve_3 : cod mX9_halve 3 (.aload_n 1) 1 := by decide +kernel
theorem dX9_halve_4 : cod mX9_halve 4 (.getfield 15) 3 := by decide +kernel
theorem dX9_halve_7 : cod mX9_halve 7 (.if_icmp .ge 40) 3 := by decide +kernel
theorem dX9_halve_10 : cod mX9_halve 10 (.aload_n 0) 1 := by decide +kernel
theorem dX9_halve_11 : cod mX9_halve 11 (.getfield 9) 3 := by decide +kernel
theorem dX9_halve_14 : cod mX9_halve 14 (.iload_n 2) 1 := by decide +kernel
theorem dX9_halve_15 : cod mX9_halve 15 (.aload_n 0) 1 := by decide +kernel
theorem dX9_halve_16 : cod mX9_halve 16 (.getfield 9) 3 := by decide +kernel
theorem dX9_halve_19 : cod mX9_halve 19 (.iload_n 2) 1 := by decide +kernel
theorem dX9_halve_20 : cod mX9_halve 20 (.laload) 1 := by decide +kernel
theorem dX9_halve_21 : cod mX9_halve 21 (.lconst 1) 1 := by decide +kernel
theorem dX9_halve_22 : cod mX9_halve 22 (.lcmp) 1 := by decide +kernel
theorem dX9_halve_23 : cod mX9_halve 23 (.ifCond .ne 7) 3 := by decide +kernel
theorem dX9_halve_26 : cod mX9_halve 26 (.lconst 1) 1 := by decide +kernel
theorem dX9_halve_27 : cod mX9_halve 27 (.goto 13) 3 := by decide +kernel
theorem dX9_halve_30 : cod mX9_halve 30 (.aload_n 0) 1 := by decide +kernel
theorem dX9_halve_31 : cod mX9_halve 31 (.getfield 9) 3 := by decide +kernel
theorem dX9_halve_34 : cod mX9_halve 34 (.iload_n 2) 1 := by decide +kernel
theorem dX9_halve_35 : cod mX9_halve 35 (.laload) 1 := by decide +kernel
theorem dX9_halve_36 : cod mX9_halve 36 (.ldc2_w 74) 3 := by decide +kernel
theorem dX9_halve_39 : cod mX9_halve 39 (.ldiv) 1 := by decide +kernel
theorem dX9_halve_40 : cod mX9_halve 40 (.lastore) 1 := by decide +kernel
theorem dX9_halve_41 : cod mX9_halve 41 (.iinc 2 1) 3 := by decide +kernel
theorem dX9_halve_44 : cod mX9_halve 44 (.goto (-42)) 3 := by decide +kernel
theorem dX9_halve_47 : cod mX9_halve 47 (.return_) 1 := by decide +kernel
def jn_X9_halve_40 (K2 : Nat → Nat → Int32 → Mem → Prop) (Q : Mem → Prop) (x0 : Nat) (x1 : Nat) (x2 : Int32) (s0 : Int64) (s1 : Int32) (s2 : Nat) (M : Mem) : Prop := mK M s2 = 21 ∧ vp_in s1 (mN M s2) ∧ ∀ M9 : Mem, M9 = uJ M s2 s1.toNatClampNeg s0 → K2 x0 x1 (x2 + 1) M9
theorem P_jn_X9_halve_40 {G : GG} {K2 : Nat → Nat → Int32 → Mem → Prop} {Q : Mem → Prop} (hK2 : ∀ (x0 : Nat) (x1 : Nat) (x2 : Int32) (M : Mem), K2 x0 x1 x2 M → PW G mX9_halve (rmD 0 0 0) (QV Q) 2 [some (.ref x0), some (.ref x1), some (.int x2)] [] M 0 0) (x0 : Nat) (x1 : Nat) (x2 : Int32) (s0 : Int64) (s1 : Int32) (s2 : Nat) (M : Mem) (h : jn_X9_halve_40 K2 Q x0 x1 x2 s0 s1 s2 M) : PW G mX9_halve (rmD 0 0 0) (QV Q) 40 [some (.ref x0), some (.ref x1), some (.int x2)] [.long s0, .int s1, .ref s2] M 0 0 := (s_las (pc := 40) dX9_halve_40 h.1 h.2.1 (nmM (fun M9 e10 => have h11 := (h.2.2) M9 e10; s_iinc (pc := 41) (L1 := [some (.ref x0), some (.ref x1), some (.int (x2 + 1))]) dX9_halve_41 rfl ci_1 (Nat.le_of_ble_eq_true rfl) rfl (s_goto (pc := 44) (tgt := 2) dX9_halve_44 rfl (s_sel (L1 := [some (.ref x0), some (.ref x1), some (.int (x2 + 1))]) [true, true, true] rfl (hK2 x0 x1 (x2 + 1) M9 h11))))))
def lp_X9_halve_2 (Q : Mem → Prop) : Nat → Nat → Nat → Int32 → Mem → Prop
  | 0 => fun _ _ _ _ => False
  | n + 1 => fun x0 x1 x2 M => mK M x1 = 7 ∧ ((mI M x1 0) ≤ x2 → Q M) ∧ (¬ (mI M x1 0) ≤ x2 → mK M x0 = 10 ∧ mK M (mR M x0 0) = 21 ∧ vp_in x2 (mN M (mR M x0 0)) ∧ (¬ (mJ M (mR M x0 0) x2.toNatClampNeg) = (1 : Int64) → vp_in x2 (mN M (mR M x0 0)) ∧ jn_X9_halve_40 (fun fx0 fx1 fx2 fM => lp_X9_halve_2 Q n fx0 fx1 fx2 fM) Q x0 x1 x2 ((mJ M (mR M x0 0) x2.toNatClampNeg) / 2) x2 (mR M x0 0) M) ∧ ((mJ M (mR M x0 0) x2.toNatClampNeg) = (1 : Int64) → jn_X9_halve_40 (fun fx0 fx1 fx2 fM => lp_X9_halve_2 Q n fx0 fx1 fx2 fM) Q x0 x1 x2 1 x2 (mR M x0 0) M))
theorem P_lp_X9_halve_2 {G : GG} {Q : Mem → Prop} : ∀ (n : Nat) (x0 : Nat) (x1 : Nat) (x2 : Int32) (M : Mem), lp_X9_halve_2 Q n x0 x1 x2 M → PW G mX9_halve (rmD 0 0 0) (QV Q) 2 [some (.ref x0), some (.ref x1), some (.int x2)] [] M 0 0 := by
  intro n
  induction n with
  | zero => intro x0 x1 x2 M h; exact h.elim
  | succ n ih =>
    intro x0 x1 x2 M h
    exact (s_iload_n (pc := 2) dX9_halve_2 rfl (s_aload_n (pc := 3) dX9_halve_3 rfl (s_getI (pc := 4) dX9_halve_4 f_X9_15 rfl h.1 (s_icmp_ge (pc := 7) (tgt := 47) dX9_halve_7 rfl (fun c1 => have h2 := h.2.1 c1; s_return (pc := 47) dX9_halve_47 rfl (Nat.zero_le _) (Nat.zero_le _) ⟨rfl, h2⟩) (fun c3 => have h4 := h.2.2 c3; s_aload_n (pc := 10) dX9_halve_10 rfl (s_getR (pc := 11) dX9_halve_11 f_X9_9 rfl h4.1 (s_iload_n (pc := 14) dX9_halve_14 rfl (s_aload_n (pc := 15) dX9_halve_15 rfl (s_getR (pc := 16) dX9_halve_16 f_X9_9 rfl h4.1 (s_iload_n (pc := 19) dX9_halve_19 rfl (s_lal (pc := 20) dX9_halve_20 h4.2.1 h4.2.2.1 (s_lconst (pc := 21) (v := 1) dX9_halve_21 rfl (s_lif_ne (pc := 22) (tgt := 30) dX9_halve_22 dX9_halve_23 rfl (fun c5 => have h6 := h4.2.2.2.1 c5; s_aload_n (pc := 30) dX9_halve_30 rfl (s_getR (pc := 31) dX9_halve_31 f_X9_9 rfl h4.1 (s_iload_n (pc := 34) dX9_halve_34 rfl (s_lal (pc := 35) dX9_halve_35 h4.2.1 h6.1 (s_ldc2 (pc := 36) dX9_halve_36 k_X9_74 (s_ldiv (pc := 39) dX9_halve_39 (by decide) (s_sel (L1 := [some (.ref x0), some (.ref x1), some (.int x2)]) [true, true, true] rfl (P_jn_X9_halve_40 ih x0 x1 x2 ((mJ M (mR M x0 0) x2.toNatClampNeg) / 2) x2 (mR M x0 0) M h6.2)))))))) (fun c7 => have h8 := h4.2.2.2.2 c7; s_lconst (pc := 26) (v := 1) dX9_halve_26 rfl (s_goto (pc := 27) (tgt := 40) dX9_halve_27 rfl (s_sel (L1 := [some (.ref x0), some (.ref x1), some (.int x2)]) [true, true, true] rfl (P_jn_X9_halve_40 ih x0 x1 x2 1 x2 (mR M x0 0) M h8)))))))))))))))))
def wp_X9_halve (p0 : Nat) (p1 : Nat) (M : Mem) (Q : Mem → Prop) : Prop := ∃ n12 : Nat, lp_X9_halve_2 Q n12 p0 p1 0 M
theorem T_X9_halve {G : GG} {Q : Mem → Prop} {M : Mem} {p0 : Nat} {p1 : Nat} (h : wp_X9_halve p0 p1 M Q) : PMet G mX9_halve 0 0 0 [.ref p0, .ref p1] M (QV Q) :=
  mk_met (by decide) rfl rfl (by
    intro w hw x9 e9
    subst e9
    simp at hw) (Nat.le_of_ble_eq_true rfl) (s_pad (L1 := [some (.ref p0), some (.ref p1), none]) 3 rfl (s_iconst (pc := 0) dX9_halve_0 ci_0 (s_istore_n (pc := 1) (L1 := [some (.ref p0), some (.ref p1), some (.int 0)]) dX9_halve_1 (Nat.le_of_ble_eq_true rfl) rfl (Exists.elim h (fun n12 hn => s_sel (L1 := [some (.ref p0), some (.ref p1), some (.int 0)]) [true, true, true] rfl (P_lp_X9_halve_2 n12 p0 p1 0 M hn))))))
