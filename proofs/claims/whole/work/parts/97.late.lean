/-! NEW long[7][6]; THE LATE CONSTRUCTORS; THE LAW'S START -/
theorem mo_outer (c : ClassId) (N h0 : Nat) : ∀ i : Nat, Jvm.Free.Multi.outerC c N h0 i = arrV c N (fun j => if j < i then Value.ref (h0 + 1 + j) else .null)
  | 0 => by
    show ({ cls := c, slots := Array.replicate N .null, vm := .none } : Cell) = _
    rw [arrV_new]
    exact congrArg (arrV c N) (funext fun j => (if_neg (Nat.not_lt_zero j)).symm)
  | i + 1 => by
    show (Jvm.Free.Multi.outerC c N h0 i).setSlot i (.ref (h0 + 1 + i)) = _
    rw [mo_outer c N h0 i, arrV_store]
    refine congrArg (arrV c N) (funext fun j => ?_)
    unfold updV
    by_cases e : j = i
    · subst e
      rw [if_pos rfl, if_pos (Nat.lt_succ_self _)]
    · rw [if_neg e]
      by_cases h : j < i
      · show (if j < i then Value.ref (h0 + 1 + j) else Value.null) = _
        rw [if_pos h, if_pos (Nat.lt_succ_of_lt h)]
      · show (if j < i then Value.ref (h0 + 1 + j) else Value.null) = _
        rw [if_neg h, if_neg (by omega)]
theorem mna_rel {G : GG} {M : Mem} {H F : Heap} (hR : Rel G M H) (z : F.size = H.size + 8) (old : ∀ q : Nat, q < H.size → F[q]? = H[q]?) (h0 : F[H.size]? = some (arrV (G.2.2.1 5) 7 (fun j => if j < 7 then Value.ref (H.size + 1 + j) else .null))) (h1 : ∀ j, j < 7 → F[H.size + 1 + j]? = some (arrV (G.2.2.1 1) 6 (fun _ => .long 0))) : Rel G (mna M) F := by
  have hT := hR.1
  have hs := hR.2.1
  refine ⟨show 2 ≤ mT M + 8 by omega, show F.size = G.2.2.2.1 + (mT M + 8 - 2) by omega, fun a ha => ?_, fun a => ?_⟩
  · show 2 ≤ a ∧ a < mT M + 8
    by_cases e : a = mT M
    · omega
    · by_cases e2 : mT M < a ∧ a < mT M + 8
      · omega
      · have ha : mK M a ≠ 0 := by
          have q : mK (mna M) a = mK M a := (if_neg e).trans (if_neg e2)
          rw [← q]; exact ha
        have := hR.2.2.1 a ha
        omega
  · by_cases e : a = mT M
    · subst e
      have hk : mK (mna M) (mT M) = 25 := mna_K
      refine ⟨fun c hc hkc => ?_, fun t ht hkt => ?_⟩
      · omega
      · have : t = 5 := by omega
        subst this
        have hn : mN (mna M) (mT M) = 7 := if_pos rfl
        rw [top_ad hR, h0, hn]
        refine congrArg some (congrArg (arrV _ _) (funext fun j => ?_))
        show (if j < 7 then Value.ref (H.size + 1 + j) else Value.null) = vj G (.ref (mR (mna M) (mT M) j))
        have hr : mR (mna M) (mT M) j = if j < 7 then mT M + 1 + j else 0 := congrFun (if_pos rfl) j
        by_cases h : j < 7
        · have hr2 : mR (mna M) (mT M) j = mT M + 1 + j := hr.trans (if_pos h)
          rw [hr2, if_pos h, vj_ref (by omega), ad_eq (by omega)]
          have e9 : (H.size + 1 + j : Nat) = G.2.2.2.1 + (mT M + 1 + j - 2) := by omega
          exact congrArg Value.ref e9
        · have hr2 : mR (mna M) (mT M) j = 0 := hr.trans (if_neg h)
          rw [hr2, if_neg h]
          rfl
    · by_cases e2 : mT M < a ∧ a < mT M + 8
      · have hk : mK (mna M) a = 21 := (if_neg e).trans (if_pos e2)
        refine ⟨fun c hc hkc => ?_, fun t ht hkt => ?_⟩
        · omega
        · have : t = 1 := by omega
          subst this
          have hn : mN (mna M) a = 6 := (if_neg e).trans (if_pos e2)
          have hj : mJ (mna M) a = fun _ => 0 := if_pos ⟨by omega, e2.2⟩
          have h9 := h1 (a - mT M - 1) (by omega)
          rw [show H.size + 1 + (a - mT M - 1) = ad G a by rw [ad_eq (by omega)]; omega] at h9
          rw [h9, hn]
          refine congrArg some (congrArg (arrV _ _) (funext fun j => ?_))
          show Value.long 0 = .long (mJ (mna M) a j)
          rw [hj]
      · have n1 : ¬ (mT M ≤ a ∧ a < mT M + 8) := by omega
        exact (hR.2.2.2 a).kept ((if_neg e).trans (if_neg e2)) ((if_neg e).trans (if_neg e2)) (if_neg n1) (if_neg n1) ((if_neg e).trans (if_neg e2)) (fun h => old _ (hR.in h).2)
theorem s_mna {G : GG} {rm : Room} {Q : Option Value → Mem → Prop} {pc : Nat} {L : List (Option Value)} {st : List Value} {M : Mem} {k sl : Nat} (hc : cod mX0_init pc (.multianewarray 17 2) 4) (hk : k + 8 ≤ rm.cells) (hs : sl + 49 ≤ rm.slots) (kk : PW G mX0_init rm Q (pc + 4) L (.ref (mT M) :: st) (mna M) (k + 8) (sl + 49)) : PW G mX0_init rm Q pc L (.int 6 :: .int 7 :: st) M k sl := by
  intro p e s m args below meth c Z H locs ls C hl hR hS
  have hts := C.2.2.2.2.1
  intro T hT Xs
  obtain ⟨vm₁, cA, comp, -, fA, fC, -, -, X', step⟩ := Xs.multianewarray2F (own := RX0) (index := 17) (ty := .long) (n := 7) (k := 6) (rest := st.map (vj G)) (g := F0 m pc ls ((.int 6 :: .int 7 :: st).map (vj G))) C.1 C.2.2.2.1 (hts _ (g1 175 rfl rfl)) C.2.2.2.2.2.1.2.2.2.2.1 (hts _ na_long.2.2) rfl (by rw [C.2.1]; exact hc) rfl (by decide) (by decide) (by decide) (by decide) (by decide) rfl rfl hk hs
  have e7 : (7 : Int32).toNatClampNeg = 7 := by decide
  have e6 : (6 : Int32).toNatClampNeg = 6 := by decide
  rw [e7, e6] at X' step
  have hTh : (T.setVm vm₁).heap = H := hT
  obtain ⟨f1, f2, -, -⟩ := Jvm.Free.Multi.fill_facts (T.setVm vm₁) cA comp 7 6 (defaultValue .long) 7
  have hold : ∀ x : Nat, x < H.size → (Jvm.Free.Multi.fill (T.setVm vm₁) cA comp 7 6 (defaultValue .long) 7).heap[x]? = H[x]? := fun x hx => by
    have := Jvm.Free.Multi.fill_old (T.setVm vm₁) cA comp 7 6 (defaultValue .long) (a := x) (by rw [hTh]; exact hx) 7
    rw [hTh] at this
    exact this
  have hrow : ∀ j : Nat, j < 7 → (Jvm.Free.Multi.fill (T.setVm vm₁) cA comp 7 6 (defaultValue .long) 7).heap[H.size + 1 + j]? = some (Jvm.Free.Multi.innerC comp 6 (defaultValue .long)) := fun j hj => by
    have := Jvm.Free.Multi.fill_inner (T.setVm vm₁) cA comp 7 6 (defaultValue .long) 7 j hj
    rw [hTh] at this
    exact this
  generalize Jvm.Free.Multi.fill (T.setVm vm₁) cA comp 7 6 (defaultValue .long) 7 = F at X' step f1 f2 hold hrow
  rw [hTh] at f1 f2
  have hcA : cA = G.2.2.1 5 := by
    have h3 : s.vm.findClass ("[" ++ (FieldType.array .long).toString) = some (G.2.2.1 5) := (C.2.2.2.2.2.1.2.1 5 (by decide)).2
    exact Option.some.inj (fA.symm.trans h3)
  have hcC : comp = G.2.2.1 1 := by
    have h3 : s.vm.findClass (FieldType.array .long).toString = some (G.2.2.1 1) := (C.2.2.2.2.2.1.2.1 1 (by decide)).2
    exact Option.some.inj (fC.symm.trans h3)
  rw [mo_outer, hcA] at f2
  have hR' : Rel G (mna M) F.heap := mna_rel hR (by rw [f1]) hold f2 (fun j hj => by
    rw [hrow j hj, hcC]
    exact congrArg some (arrV_new _ _ _))
  obtain ⟨t, a1, b1⟩ := kk p e s m args below meth c Z F.heap locs ls C hl hR' ⟨by rw [f1]; have := hS.1; omega, fun x h1 h2 => (hold x (Nat.lt_of_lt_of_le h1 hS.1)).trans (hS.2.1 x h1 h2), hS.2.2⟩ F rfl X'
  refine ⟨t, step t ?_, b1⟩
  rw [List.map_cons, vj_ref (show mT M ≠ 0 by have := hR.1; omega), top_ad hR, ← hT] at a1
  exact a1

theorem dX0_init_0 : cod mX0_init 0 (.aload_n 0) 1 := by decide +kernel
theorem dX0_init_1 : cod mX0_init 1 (.invokespecial 3) 3 := by decide +kernel
theorem dX0_init_4 : cod mX0_init 4 (.aload_n 0) 1 := by decide +kernel
theorem dX0_init_5 : cod mX0_init 5 (.bipush 7) 2 := by decide +kernel
theorem dX0_init_7 : cod mX0_init 7 (.anewarray 9) 3 := by decide +kernel
theorem dX0_init_10 : cod mX0_init 10 (.putfield 11) 3 := by decide +kernel
theorem dX0_init_13 : cod mX0_init 13 (.aload_n 0) 1 := by decide +kernel
theorem dX0_init_14 : cod mX0_init 14 (.bipush 7) 2 := by decide +kernel
theorem dX0_init_16 : cod mX0_init 16 (.bipush 6) 2 := by decide +kernel
theorem dX0_init_18 : cod mX0_init 18 (.multianewarray 17 2) 4 := by decide +kernel
theorem dX0_init_22 : cod mX0_init 22 (.putfield 19) 3 := by decide +kernel
theorem dX0_init_25 : cod mX0_init 25 (.iconst 0) 1 := by decide +kernel
theorem dX0_init_26 : cod mX0_init 26 (.istore_n 1) 1 := by decide +kernel
theorem dX0_init_27 : cod mX0_init 27 (.iload_n 1) 1 := by decide +kernel
theorem dX0_init_28 : cod mX0_init 28 (.bipush 6) 2 := by decide +kernel
theorem dX0_init_30 : cod mX0_init 30 (.if_icmp .gt 22) 3 := by decide +kernel
theorem dX0_init_33 : cod mX0_init 33 (.aload_n 0) 1 := by decide +kernel
theorem dX0_init_34 : cod mX0_init 34 (.getfield 11) 3 := by decide +kernel
theorem dX0_init_37 : cod mX0_init 37 (.iload_n 1) 1 := by decide +kernel
theorem dX0_init_38 : cod mX0_init 38 (.new 9) 3 := by decide +kernel
theorem dX0_init_41 : cod mX0_init 41 (.dup) 1 := by decide +kernel
theorem dX0_init_42 : cod mX0_init 42 (.invokespecial 22) 3 := by decide +kernel
theorem dX0_init_45 : cod mX0_init 45 (.aastore) 1 := by decide +kernel
theorem dX0_init_46 : cod mX0_init 46 (.iinc 1 1) 3 := by decide +kernel
theorem dX0_init_49 : cod mX0_init 49 (.goto (-22)) 3 := by decide +kernel
theorem dX0_init_52 : cod mX0_init 52 (.return_) 1 := by decide +kernel
theorem P_lp_X0_init_27 {G : GG} {Q : Mem → Prop} : ∀ (n : Nat) (x0 : Nat) (x1 : Int32) (M : Mem) (k sl : Nat), lp_X0_init_27 Q n x0 x1 M k sl → PW G mX0_init (rmD 1 23 112) (QV Q) 27 [some (.ref x0), some (.int x1)] [] M k sl := by
  intro n
  induction n with
  | zero => intro x0 x1 M k sl h; exact h.elim
  | succ n ih =>
    intro x0 x1 M k sl h
    exact (s_iload_n (pc := 27) dX0_init_27 rfl (s_bipush (pc := 28) dX0_init_28 cb_6 (s_icmp_gt (pc := 30) (tgt := 52) dX0_init_30 rfl (fun c18 => have h19 := h.1 c18; s_return (pc := 52) dX0_init_52 rfl h19.1.1 h19.1.2 ⟨rfl, h19.2⟩) (fun c20 => have h21 := h.2 c20; s_aload_n (pc := 33) dX0_init_33 rfl (s_getR (pc := 34) dX0_init_34 f_X0_11 rfl h21.1 (s_iload_n (pc := 37) dX0_init_37 rfl (s_new (pc := 38) (n := 2) dX0_init_38 n_X0_9 rfl h21.2.1.1 h21.2.1.2 (nmR (fun a22 e23 => nmM (fun M25 e26 => have h27 := h21.2.2 a22 e23 M25 e26; s_dup (pc := 41) dX0_init_41 rfl (s_callINK (pc := 42) (As := []) (rest := [.ref a22, .int x1, .ref (mR M x0 0)]) (d' := 0) (mc' := 1) (ms' := 6) dX0_init_42 c_X0_22 (nw_K2 e23 e26) rfl rfl (Nat.le_of_ble_eq_true rfl) (rm_ok rfl rfl) h27.1 (T_X9_init h27.2) (kkV (fun M29 h28 => s_aas (pc := 45) (t := 3) (c := 9) dX0_init_45 (Or.inl ⟨rfl, rfl⟩) h28.1 h28.2.1 h28.2.2.1 (nmM (fun M30 e31 => have h32 := (h28.2.2.2) M30 e31; s_iinc (pc := 46) (L1 := [some (.ref x0), some (.int (x1 + 1))]) dX0_init_46 rfl ci_1 (Nat.le_of_ble_eq_true rfl) rfl (s_goto (pc := 49) (tgt := 27) dX0_init_49 rfl (s_sel (L1 := [some (.ref x0), some (.int (x1 + 1))]) [true, true] rfl (ih x0 (x1 + 1) M30 ((k + 1) + 1) ((sl + 2) + 6) h32))))))))))))))))))
theorem T_X0_init {G : GG} {Q : Mem → Prop} {M : Mem} {p0 : Nat} (h : wp_X0_init p0 M Q) : PMet G mX0_init 1 23 112 [.ref p0] M (QV Q) :=
  mk_met (by decide) rfl rfl (by
    intro w hw x9 e9
    subst e9
    simp at hw) (Nat.le_of_ble_eq_true rfl) (s_pad (L1 := [some (.ref p0), none]) 2 rfl (s_aload_n (pc := 0) dX0_init_0 rfl (s_objInitK (pc := 1) dX0_init_1 ob_X0_3 h.1 (Nat.le_of_ble_eq_true rfl) (Nat.le_of_ble_eq_true rfl) (s_aload_n (pc := 4) dX0_init_4 rfl (s_bipush (pc := 5) dX0_init_5 cb_7 (s_anewarray (pc := 7) (n := 7) dX0_init_7 an_X0_9 (by decide) rfl (Nat.le_of_ble_eq_true rfl) h.2.1.1 h.2.1.2 (nmR (fun a1 e2 => nmM (fun M4 e5 => have h6 := h.2.2 a1 e2 M4 e5; s_putR (pc := 10) dX0_init_10 f_X0_11 (Or.inr ⟨rfl, rfl⟩) rfl h6.1 (nmM (fun M7 e8 => have h9 := h6.2 M7 e8; s_aload_n (pc := 13) dX0_init_13 rfl (s_bipush (pc := 14) dX0_init_14 cb_7 (s_bipush (pc := 16) dX0_init_16 cb_6 (s_mna (pc := 18) dX0_init_18 h9.1.1 h9.1.2 (nmR (fun a10 e11 => nmM (fun M12 e13 => have h14 := h9.2 a10 e11 M12 e13; s_putR (pc := 22) dX0_init_22 f_X0_19 (Or.inr ⟨rfl, rfl⟩) rfl h14.1 (nmM (fun M15 e16 => have h17 := h14.2 M15 e16; s_iconst (pc := 25) dX0_init_25 ci_0 (s_istore_n (pc := 26) (L1 := [some (.ref p0), some (.int 0)]) dX0_init_26 (Nat.le_of_ble_eq_true rfl) rfl (Exists.elim h17 (fun n33 hn => s_sel (L1 := [some (.ref p0), some (.int 0)]) [true, true] rfl (P_lp_X0_init_27 n33 p0 0 M15 ((0 + 1) + 8) ((0 + 7) + 49) hn)))))))))))))))))))))))
theorem dX12_init_0 : cod mX12_init 0 (.aload_n 0) 1 := by decide +kernel
theorem dX12_init_1 : cod mX12_init 1 (.invokespecial 1) 3 := by decide +kernel
theorem dX12_init_4 : cod mX12_init 4 (.aload_n 0) 1 := by decide +kernel
theorem dX12_init_5 : cod mX12_init 5 (.new 7) 3 := by decide +kernel
theorem dX12_init_8 : cod mX12_init 8 (.dup) 1 := by decide +kernel
theorem dX12_init_9 : cod mX12_init 9 (.invokespecial 9) 3 := by decide +kernel
theorem dX12_init_12 : cod mX12_init 12 (.putfield 10) 3 := by decide +kernel
theorem dX12_init_15 : cod mX12_init 15 (.aload_n 0) 1 := by decide +kernel
theorem dX12_init_16 : cod mX12_init 16 (.new 7) 3 := by decide +kernel
theorem dX12_init_19 : cod mX12_init 19 (.dup) 1 := by decide +kernel
theorem dX12_init_20 : cod mX12_init 20 (.invokespecial 9) 3 := by decide +kernel
theorem dX12_init_23 : cod mX12_init 23 (.putfield 16) 3 := by decide +kernel
theorem dX12_init_26 : cod mX12_init 26 (.aload_n 0) 1 := by decide +kernel
theorem dX12_init_27 : cod mX12_init 27 (.new 7) 3 := by decide +kernel
theorem dX12_init_30 : cod mX12_init 30 (.dup) 1 := by decide +kernel
theorem dX12_init_31 : cod mX12_init 31 (.invokespecial 9) 3 := by decide +kernel
theorem dX12_init_34 : cod mX12_init 34 (.putfield 19) 3 := by decide +kernel
theorem dX12_init_37 : cod mX12_init 37 (.aload_n 0) 1 := by decide +kernel
theorem dX12_init_38 : cod mX12_init 38 (.new 22) 3 := by decide +kernel
theorem dX12_init_41 : cod mX12_init 41 (.dup) 1 := by decide +kernel
theorem dX12_init_42 : cod mX12_init 42 (.invokespecial 24) 3 := by decide +kernel
theorem dX12_init_45 : cod mX12_init 45 (.putfield 25) 3 := by decide +kernel
theorem dX12_init_48 : cod mX12_init 48 (.aload_n 0) 1 := by decide +kernel
theorem dX12_init_49 : cod mX12_init 49 (.new 22) 3 := by decide +kernel
theorem dX12_init_52 : cod mX12_init 52 (.dup) 1 := by decide +kernel
theorem dX12_init_53 : cod mX12_init 53 (.invokespecial 24) 3 := by decide +kernel
theorem dX12_init_56 : cod mX12_init 56 (.putfield 29) 3 := by decide +kernel
theorem dX12_init_59 : cod mX12_init 59 (.aload_n 0) 1 := by decide +kernel
theorem dX12_init_60 : cod mX12_init 60 (.new 22) 3 := by decide +kernel
theorem dX12_init_63 : cod mX12_init 63 (.dup) 1 := by decide +kernel
theorem dX12_init_64 : cod mX12_init 64 (.invokespecial 24) 3 := by decide +kernel
theorem dX12_init_67 : cod mX12_init 67 (.putfield 32) 3 := by decide +kernel
theorem dX12_init_70 : cod mX12_init 70 (.aload_n 0) 1 := by decide +kernel
theorem dX12_init_71 : cod mX12_init 71 (.bipush 8) 2 := by decide +kernel
theorem dX12_init_73 : cod mX12_init 73 (.anewarray 35) 3 := by decide +kernel
theorem dX12_init_76 : cod mX12_init 76 (.putfield 37) 3 := by decide +kernel
theorem dX12_init_79 : cod mX12_init 79 (.iconst 0) 1 := by decide +kernel
theorem dX12_init_80 : cod mX12_init 80 (.istore_n 1) 1 := by decide +kernel
theorem dX12_init_81 : cod mX12_init 81 (.iload_n 1) 1 := by decide +kernel
theorem dX12_init_82 : cod mX12_init 82 (.bipush 8) 2 := by decide +kernel
theorem dX12_init_84 : cod mX12_init 84 (.if_icmp .ge 22) 3 := by decide +kernel
theorem dX12_init_87 : cod mX12_init 87 (.aload_n 0) 1 := by decide +kernel
theorem dX12_init_88 : cod mX12_init 88 (.getfield 37) 3 := by decide +kernel
theorem dX12_init_91 : cod mX12_init 91 (.iload_n 1) 1 := by decide +kernel
theorem dX12_init_92 : cod mX12_init 92 (.new 35) 3 := by decide +kernel
theorem dX12_init_95 : cod mX12_init 95 (.dup) 1 := by decide +kernel
theorem dX12_init_96 : cod mX12_init 96 (.invokespecial 41) 3 := by decide +kernel
theorem dX12_init_99 : cod mX12_init 99 (.aastore) 1 := by decide +kernel
theorem dX12_init_100 : cod mX12_init 100 (.iinc 1 1) 3 := by decide +kernel
theorem dX12_init_103 : cod mX12_init 103 (.goto (-22)) 3 := by decide +kernel
theorem dX12_init_106 : cod mX12_init 106 (.aload_n 0) 1 := by decide +kernel
theorem dX12_init_107 : cod mX12_init 107 (.new 42) 3 := by decide +kernel
theorem dX12_init_110 : cod mX12_init 110 (.dup) 1 := by decide +kernel
theorem dX12_init_111 : cod mX12_init 111 (.invokespecial 44) 3 := by decide +kernel
theorem dX12_init_114 : cod mX12_init 114 (.putfield 45) 3 := by decide +kernel
theorem dX12_init_117 : cod mX12_init 117 (.aload_n 0) 1 := by decide +kernel
theorem dX12_init_118 : cod mX12_init 118 (.new 49) 3 := by decide +kernel
theorem dX12_init_121 : cod mX12_init 121 (.dup) 1 := by decide +kernel
theorem dX12_init_122 : cod mX12_init 122 (.invokespecial 51) 3 := by decide +kernel
theorem dX12_init_125 : cod mX12_init 125 (.putfield 52) 3 := by decide +kernel
theorem dX12_init_128 : cod mX12_init 128 (.aload_n 0) 1 := by decide +kernel
theorem dX12_init_129 : cod mX12_init 129 (.new 56) 3 := by decide +kernel
theorem dX12_init_132 : cod mX12_init 132 (.dup) 1 := by decide +kernel
theorem dX12_init_133 : cod mX12_init 133 (.invokespecial 58) 3 := by decide +kernel
theorem dX12_init_136 : cod mX12_init 136 (.putfield 59) 3 := by decide +kernel
theorem dX12_init_139 : cod mX12_init 139 (.return_) 1 := by decide +kernel
theorem P_lp_X12_init_81 {G : GG} {Q : Mem → Prop} : ∀ (n : Nat) (x0 : Nat) (x1 : Int32) (M : Mem) (k sl : Nat), lp_X12_init_81 Q n x0 x1 M k sl → PW G mX12_init (rmD 2 84 5026) (QV Q) 81 [some (.ref x0), some (.int x1)] [] M k sl := by
  intro n
  induction n with
  | zero => intro x0 x1 M k sl h; exact h.elim
  | succ n ih =>
    intro x0 x1 M k sl h
    exact (s_iload_n (pc := 81) dX12_init_81 rfl (s_bipush (pc := 82) dX12_init_82 cb_8 (s_icmp_ge (pc := 84) (tgt := 106) dX12_init_84 rfl (fun c76 => have h77 := h.1 c76; s_aload_n (pc := 106) dX12_init_106 rfl (s_new (pc := 107) (n := 4) dX12_init_107 n_X12_42 rfl h77.1.1 h77.1.2 (nmR (fun a80 e81 => nmM (fun M83 e84 => have h85 := h77.2 a80 e81 M83 e84; s_dup (pc := 110) dX12_init_110 rfl (s_callINK (pc := 111) (As := []) (rest := [.ref a80, .ref x0]) (d' := 0) (mc' := 1) (ms' := 3) dX12_init_111 c_X12_44 (nw_K2 e81 e84) rfl rfl (Nat.le_of_ble_eq_true rfl) (rm_ok rfl rfl) h85.1 (T_X7_init h85.2) (kkV (fun M87 h86 => s_putR (pc := 114) dX12_init_114 f_X12_45 (Or.inr ⟨rfl, rfl⟩) rfl h86.1 (nmM (fun M88 e89 => have h90 := h86.2 M88 e89; s_aload_n (pc := 117) dX12_init_117 rfl (s_new (pc := 118) (n := 9) dX12_init_118 n_X12_49 rfl h90.1.1 h90.1.2 (nmR (fun a91 e92 => nmM (fun M94 e95 => have h96 := h90.2 a91 e92 M94 e95; s_dup (pc := 121) dX12_init_121 rfl (s_callIK (pc := 122) (As := []) (rest := [.ref a91, .ref x0]) (d' := 1) (mc' := 23) (ms' := 112) dX12_init_122 c_X12_51 (nw_K2 e92 e95) rfl rfl (Nat.le_of_ble_eq_true rfl) (rm_ok rfl rfl) h96.1 (T_X0_init h96.2) (kkV (fun M98 h97 => s_putR (pc := 125) dX12_init_125 f_X12_52 (Or.inr ⟨rfl, rfl⟩) rfl h97.1 (nmM (fun M99 e100 => have h101 := h97.2 M99 e100; s_aload_n (pc := 128) dX12_init_128 rfl (s_new (pc := 129) (n := 14) dX12_init_129 n_X12_56 rfl h101.1.1 h101.1.2 (nmR (fun a102 e103 => nmM (fun M105 e106 => have h107 := h101.2 a102 e103 M105 e106; s_dup (pc := 132) dX12_init_132 rfl (s_callINK (pc := 133) (As := []) (rest := [.ref a102, .ref x0]) (d' := 1) (mc' := 10) (ms' := 258) dX12_init_133 c_X12_58 (nw_K2 e103 e106) rfl rfl (Nat.le_of_ble_eq_true rfl) (rm_ok rfl rfl) h107.1 (T_X5_init h107.2) (kkV (fun M109 h108 => s_putR (pc := 136) dX12_init_136 f_X12_59 (Or.inr ⟨rfl, rfl⟩) rfl h108.1 (nmM (fun M110 e111 => have h112 := h108.2 M110 e111; s_return (pc := 139) dX12_init_139 rfl h112.1.1 h112.1.2 ⟨rfl, h112.2⟩)))))))))))))))))))))))))))) (fun c78 => have h79 := h.2 c78; s_aload_n (pc := 87) dX12_init_87 rfl (s_getR (pc := 88) dX12_init_88 f_X12_37 rfl h79.1 (s_iload_n (pc := 91) dX12_init_91 rfl (s_new (pc := 92) (n := 4) dX12_init_92 n_X12_35 rfl h79.2.1.1 h79.2.1.2 (nmR (fun a113 e114 => nmM (fun M116 e117 => have h118 := h79.2.2 a113 e114 M116 e117; s_dup (pc := 95) dX12_init_95 rfl (s_callINK (pc := 96) (As := []) (rest := [.ref a113, .int x1, .ref (mR M x0 7)]) (d' := 0) (mc' := 1) (ms' := 100) dX12_init_96 c_X12_41 (nw_K2 e114 e117) rfl rfl (Nat.le_of_ble_eq_true rfl) (rm_ok rfl rfl) h118.1 (T_X4_init h118.2) (kkV (fun M120 h119 => s_aas (pc := 99) (t := 4) (c := 4) dX12_init_99 (Or.inr ⟨rfl, rfl⟩) h119.1 h119.2.1 h119.2.2.1 (nmM (fun M121 e122 => have h123 := (h119.2.2.2) M121 e122; s_iinc (pc := 100) (L1 := [some (.ref x0), some (.int (x1 + 1))]) dX12_init_100 rfl ci_1 (Nat.le_of_ble_eq_true rfl) rfl (s_goto (pc := 103) (tgt := 81) dX12_init_103 rfl (s_sel (L1 := [some (.ref x0), some (.int (x1 + 1))]) [true, true] rfl (ih x0 (x1 + 1) M121 ((k + 1) + 1) ((sl + 4) + 100) h123))))))))))))))))))
theorem T_X12_init {G : GG} {Q : Mem → Prop} {M : Mem} {p0 : Nat} (h : wp_X12_init p0 M Q) : PMet G mX12_init 2 84 5026 [.ref p0] M (QV Q) :=
  mk_met (by decide) rfl rfl (by
    intro w hw x9 e9
    subst e9
    simp at hw) (Nat.le_of_ble_eq_true rfl) (s_pad (L1 := [some (.ref p0), none]) 2 rfl (s_aload_n (pc := 0) dX12_init_0 rfl (s_objInitK (pc := 1) dX12_init_1 ob_X12_1 h.1 (Nat.le_of_ble_eq_true rfl) (Nat.le_of_ble_eq_true rfl) (s_aload_n (pc := 4) dX12_init_4 rfl (s_new (pc := 5) (n := 12) dX12_init_5 n_X12_7 rfl h.2.1.1 h.2.1.2 (nmR (fun a1 e2 => nmM (fun M4 e5 => have h6 := h.2.2 a1 e2 M4 e5; s_dup (pc := 8) dX12_init_8 rfl (s_callINK (pc := 9) (As := []) (rest := [.ref a1, .ref p0]) (d' := 0) (mc' := 7) (ms' := 1242) dX12_init_9 c_X12_9 (nw_K2 e2 e5) rfl rfl (Nat.le_of_ble_eq_true rfl) (rm_ok rfl rfl) h6.1 (T_X6_init h6.2) (kkV (fun M8 h7 => s_putR (pc := 12) dX12_init_12 f_X12_10 (Or.inr ⟨rfl, rfl⟩) rfl h7.1 (nmM (fun M9 e10 => have h11 := h7.2 M9 e10; s_aload_n (pc := 15) dX12_init_15 rfl (s_new (pc := 16) (n := 12) dX12_init_16 n_X12_7 rfl h11.1.1 h11.1.2 (nmR (fun a12 e13 => nmM (fun M15 e16 => have h17 := h11.2 a12 e13 M15 e16; s_dup (pc := 19) dX12_init_19 rfl (s_callINK (pc := 20) (As := []) (rest := [.ref a12, .ref p0]) (d' := 0) (mc' := 7) (ms' := 1242) dX12_init_20 c_X12_9 (nw_K2 e13 e16) rfl rfl (Nat.le_of_ble_eq_true rfl) (rm_ok rfl rfl) h17.1 (T_X6_init h17.2) (kkV (fun M19 h18 => s_putR (pc := 23) dX12_init_23 f_X12_16 (Or.inr ⟨rfl, rfl⟩) rfl h18.1 (nmM (fun M20 e21 => have h22 := h18.2 M20 e21; s_aload_n (pc := 26) dX12_init_26 rfl (s_new (pc := 27) (n := 12) dX12_init_27 n_X12_7 rfl h22.1.1 h22.1.2 (nmR (fun a23 e24 => nmM (fun M26 e27 => have h28 := h22.2 a23 e24 M26 e27; s_dup (pc := 30) dX12_init_30 rfl (s_callINK (pc := 31) (As := []) (rest := [.ref a23, .ref p0]) (d' := 0) (mc' := 7) (ms' := 1242) dX12_init_31 c_X12_9 (nw_K2 e24 e27) rfl rfl (Nat.le_of_ble_eq_true rfl) (rm_ok rfl rfl) h28.1 (T_X6_init h28.2) (kkV (fun M30 h29 => s_putR (pc := 34) dX12_init_34 f_X12_19 (Or.inr ⟨rfl, rfl⟩) rfl h29.1 (nmM (fun M31 e32 => have h33 := h29.2 M31 e32; s_aload_n (pc := 37) dX12_init_37 rfl (s_new (pc := 38) (n := 2) dX12_init_38 n_X12_22 rfl h33.1.1 h33.1.2 (nmR (fun a34 e35 => nmM (fun M37 e38 => have h39 := h33.2 a34 e35 M37 e38; s_dup (pc := 41) dX12_init_41 rfl (s_callINK (pc := 42) (As := []) (rest := [.ref a34, .ref p0]) (d' := 0) (mc' := 1) (ms' := 6) dX12_init_42 c_X12_24 (nw_K2 e35 e38) rfl rfl (Nat.le_of_ble_eq_true rfl) (rm_ok rfl rfl) h39.1 (T_X9_init h39.2) (kkV (fun M41 h40 => s_putR (pc := 45) dX12_init_45 f_X12_25 (Or.inr ⟨rfl, rfl⟩) rfl h40.1 (nmM (fun M42 e43 => have h44 := h40.2 M42 e43; s_aload_n (pc := 48) dX12_init_48 rfl (s_new (pc := 49) (n := 2) dX12_init_49 n_X12_22 rfl h44.1.1 h44.1.2 (nmR (fun a45 e46 => nmM (fun M48 e49 => have h50 := h44.2 a45 e46 M48 e49; s_dup (pc := 52) dX12_init_52 rfl (s_callINK (pc := 53) (As := []) (rest := [.ref a45, .ref p0]) (d' := 0) (mc' := 1) (ms' := 6) dX12_init_53 c_X12_24 (nw_K2 e46 e49) rfl rfl (Nat.le_of_ble_eq_true rfl) (rm_ok rfl rfl) h50.1 (T_X9_init h50.2) (kkV (fun M52 h51 => s_putR (pc := 56) dX12_init_56 f_X12_29 (Or.inr ⟨rfl, rfl⟩) rfl h51.1 (nmM (fun M53 e54 => have h55 := h51.2 M53 e54; s_aload_n (pc := 59) dX12_init_59 rfl (s_new (pc := 60) (n := 2) dX12_init_60 n_X12_22 rfl h55.1.1 h55.1.2 (nmR (fun a56 e57 => nmM (fun M59 e60 => have h61 := h55.2 a56 e57 M59 e60; s_dup (pc := 63) dX12_init_63 rfl (s_callINK (pc := 64) (As := []) (rest := [.ref a56, .ref p0]) (d' := 0) (mc' := 1) (ms' := 6) dX12_init_64 c_X12_24 (nw_K2 e57 e60) rfl rfl (Nat.le_of_ble_eq_true rfl) (rm_ok rfl rfl) h61.1 (T_X9_init h61.2) (kkV (fun M63 h62 => s_putR (pc := 67) dX12_init_67 f_X12_32 (Or.inr ⟨rfl, rfl⟩) rfl h62.1 (nmM (fun M64 e65 => have h66 := h62.2 M64 e65; s_aload_n (pc := 70) dX12_init_70 rfl (s_bipush (pc := 71) dX12_init_71 cb_8 (s_anewarray (pc := 73) (n := 8) dX12_init_73 an_X12_35 (by decide) rfl (Nat.le_of_ble_eq_true rfl) h66.1.1 h66.1.2 (nmR (fun a67 e68 => nmM (fun M70 e71 => have h72 := h66.2 a67 e68 M70 e71; s_putR (pc := 76) dX12_init_76 f_X12_37 (Or.inr ⟨rfl, rfl⟩) rfl h72.1 (nmM (fun M73 e74 => have h75 := h72.2 M73 e74; s_iconst (pc := 79) dX12_init_79 ci_0 (s_istore_n (pc := 80) (L1 := [some (.ref p0), some (.int 0)]) dX12_init_80 (Nat.le_of_ble_eq_true rfl) rfl (Exists.elim h75 (fun n124 hn => s_sel (L1 := [some (.ref p0), some (.int 0)]) [true, true] rfl (P_lp_X12_init_81 n124 p0 0 M73 (((((((((((((0 + 1) + 7) + 1) + 7) + 1) + 7) + 1) + 1) + 1) + 1) + 1) + 1) + 1) (((((((((((((0 + 12) + 1242) + 12) + 1242) + 12) + 1242) + 2) + 6) + 2) + 6) + 2) + 6) + 8) hn)))))))))))))))))))))))))))))))))))))))))))))))))))))))))))))))))))))
/-! THE LAW, FROM ITS FIRST INSTRUCTION -/
theorem lw_z {L1 : List (Option Value)} (h : L1 = [some (.ref 1), some (.ref 2), some (.ref 87), some (.ref 120), some (.int 0), none, none, none]) : L1 = lwL 0 := by
  rw [h]
  unfold lwL
  rw [nI_0]
theorem law_go {G : GG} (hL : G.2.2.2.2.2.1 ≤ 384) : PW G mL_law room_1 QL 0 [some (.ref 1)] [] mm0 0 0 :=
  s_pad (L1 := [some (.ref 1), none, none, none, none, none, none, none]) 8 rfl (s_new (pc := 0) (n := 11) dL_law_0 n_L_8 rfl (show 0 + 1 ≤ 600128 by decide) (show 0 + 11 ≤ 7301098 by decide) (s_dup (pc := 3) dL_law_3 rfl (s_callIK (pc := 4) (c := 12) (a := 2) (As := []) (rest := [.ref 2]) (d' := 2) (mc' := 84) (ms' := 5026) dL_law_4 c_L_17 m0_k.1 rfl rfl (Nat.le_of_ble_eq_true rfl) ⟨Nat.le_of_ble_eq_true rfl, Nat.le_of_ble_eq_true rfl⟩ (show 0 + 1 + 84 ≤ 600128 ∧ 0 + 11 + 5026 ≤ 7301098 by decide) (T_X12_init (Q := fun M' => M' = mmF) (S_X12_init rfl)) (kkV (fun M1 h1 => by
    subst h1
    refine s_astore_n (pc := 7) (L1 := [some (.ref 1), some (.ref 2), none, none, none, none, none, none]) dL_law_7 (Nat.le_of_ble_eq_true rfl) rfl (s_new (pc := 8) (n := 56) dL_law_8 n_L_18 rfl (show 0 + 1 + 84 + 1 ≤ 600128 by decide) (show 0 + 11 + 5026 + 56 ≤ 7301098 by decide) ?_)
    rw [mF_T]
    refine s_dup (pc := 11) dL_law_11 rfl (s_callIK (pc := 12) (c := 13) (a := 87) (As := []) (rest := [.ref 87]) (d' := 0) (mc' := 32) (ms' := 1889) dL_law_12 c_L_20 mF_k.1 rfl rfl (Nat.le_of_ble_eq_true rfl) ⟨Nat.le_of_ble_eq_true rfl, Nat.le_of_ble_eq_true rfl⟩ (show 0 + 1 + 84 + 1 + 32 ≤ 600128 ∧ 0 + 11 + 5026 + 56 + 1889 ≤ 7301098 by decide) (T_X13_init (Q := fun M' => M' = i13 (nw mmF 14 0) 87) (S_i13 _ _ _ mF_k rfl)) (kkV (fun M2 h2 => ?_)))
    subst h2
    refine s_astore_n (pc := 15) (L1 := [some (.ref 1), some (.ref 2), some (.ref 87), none, none, none, none, none]) dL_law_15 (Nat.le_of_ble_eq_true rfl) rfl (s_iconst (pc := 16) dL_law_16 ci_1 (s_newarray (pc := 17) (t := 1) (n := 1) dL_law_17 na_long (by decide) rfl (Nat.le_of_ble_eq_true rfl) (show 0 + 1 + 84 + 1 + 32 + 1 ≤ 600128 by decide) (show 0 + 11 + 5026 + 56 + 1889 + 1 ≤ 7301098 by decide) ?_))
    rw [mG_T]
    exact s_astore_n (pc := 19) (L1 := [some (.ref 1), some (.ref 2), some (.ref 87), some (.ref 120), none, none, none, none]) dL_law_19 (Nat.le_of_ble_eq_true rfl) rfl (s_iconst (pc := 20) dL_law_20 ci_0 (s_istore (pc := 21) (L1 := lwL 0) dL_law_21 (Nat.le_of_ble_eq_true rfl) (lw_z rfl) (law_loop hL 64 0 mmG c0 (0 + 1 + 84 + 1 + 32 + 1) (0 + 11 + 5026 + 56 + 1889 + 1) g_L (Nat.le_trans hL (by decide)) (by decide) (by decide) (by decide)))))))))
/-! THE WORLD AT THE START -/
theorem mem1 {w : Cond} (i : Nat) (h : tables_1_1[i]? = some w) : w ∈ lw_tbl := List.mem_append_right _ (List.mem_append_left _ (List.mem_of_getElem? h))
theorem mem2 {w : Cond} (i : Nat) (h : tables_1_2[i]? = some w) : w ∈ lw_tbl := List.mem_append_right _ (List.mem_append_right _ (List.mem_append_left _ (List.mem_of_getElem? h)))
theorem mem3 {w : Cond} (i : Nat) (h : tables_1_3[i]? = some w) : w ∈ lw_tbl := List.mem_append_right _ (List.mem_append_right _ (List.mem_append_right _ (List.mem_append_left _ (List.mem_of_getElem? h))))
theorem mem4 {w : Cond} (i : Nat) (h : tables_1_4[i]? = some w) : w ∈ lw_tbl := List.mem_append_right _ (List.mem_append_right _ (List.mem_append_right _ (List.mem_append_right _ (List.mem_append_left _ (List.mem_of_getElem? h)))))
theorem mem5 {w : Cond} (i : Nat) (h : tables_1_5[i]? = some w) : w ∈ lw_tbl := List.mem_append_right _ (List.mem_append_right _ (List.mem_append_right _ (List.mem_append_right _ (List.mem_append_right _ (List.mem_append_left _ (List.mem_of_getElem? h))))))
theorem inst_ok : ∀ c, c < 14 → Cond.instantiable (clR c) (clN c) ∈ gT := by
  intro c hc
  match c, hc with
  | 0, _ => exact n_X12_49.2.2.1
  | 1, _ => exact n_X12_382.2.2.1
  | 2, _ => exact n_X12_371.2.2.1
  | 3, _ => exact n_X12_376.2.2.1
  | 4, _ => exact n_X12_35.2.2.1
  | 5, _ => exact n_X12_56.2.2.1
  | 6, _ => exact n_X12_7.2.2.1
  | 7, _ => exact n_X12_42.2.2.1
  | 8, _ => exact n_X12_379.2.2.1
  | 9, _ => exact n_X12_22.2.2.1
  | 10, _ => exact n_X12_385.2.2.1
  | 11, _ => exact n_X12_183.2.2.1
  | 12, _ => exact n_L_8.2.2.1
  | 13, _ => exact n_L_18.2.2.1
  | n + 14, h => exact absurd h (by omega)
section GO
variable {s : State} {args : Array Value}
theorem go_cls (hts : ∀ w ∈ gT, w.before args s = true) (c : Nat) : ∃ q : ClassId × (Nat → Nat), c < 14 → u_Kn s (clR c) (clT c) (clN c) q.1 q.2 := by
  by_cases hc : c < 14
  · obtain ⟨cC, iS, h⟩ := u_known hts (cl_in hc) (hts _ (inst_ok c hc))
    exact ⟨(cC, iS), fun _ => h⟩
  · exact ⟨(0, fun _ => 0), fun h => absurd h hc⟩
theorem go_prim {ty : FieldType} (h : (Cond.arrayClass ty).before args s = true) : ∃ cA : ClassId, ArrOfT s cA ty ∧ s.vm.findClass ("[" ++ ty.toString) = some cA := by
  obtain ⟨cA, kA, comp, h1, h2, h3⟩ := Cond.arrayClass_spec (args := args) (first := s) (o := none) (s := s) (idx := []) h
  exact ⟨cA, fun n z => ⟨fun k h => (by cases h), kA, h2, comp, h3⟩, h1⟩
theorem go_obj {C : String} (h : (Cond.arrayOver (.object C)).before args s = true) : ∃ cA : ClassId, ArrOfT s cA (.object C) ∧ va_RA s cA (.object C) := by
  obtain ⟨comp, cA, kA, h1, -, h2, h3, h4⟩ := Cond.arrayOver_spec (args := args) (first := s) (o := none) (s := s) (idx := []) h
  exact ⟨cA, fun n z => ⟨fun k h => (by cases h), kA, h2, comp, h3⟩, kA, comp, h2, h3, h1, h4⟩
theorem go_arr (hts : ∀ w ∈ gT, w.before args s = true) (ht : ∀ w ∈ lw_tbl, w.before args s = true) (t : Nat) : ∃ cA : ClassId, t < 6 → ArrOfT s cA (ATy t) ∧ va_RA s cA (ATy t) := by
  match t with
  | 0 =>
    obtain ⟨cA, h1, h2⟩ := go_prim (hts _ na_int.2.2)
    exact ⟨cA, fun _ => ⟨h1, h2⟩⟩
  | 1 =>
    obtain ⟨cA, h1, h2⟩ := go_prim (hts _ na_long.2.2)
    exact ⟨cA, fun _ => ⟨h1, h2⟩⟩
  | 2 =>
    obtain ⟨cA, h1, h2⟩ := go_prim (hts _ na_boolean.2.2)
    exact ⟨cA, fun _ => ⟨h1, h2⟩⟩
  | 3 =>
    obtain ⟨cA, h1, h2⟩ := go_obj (C := "BothPrices$Thought") (ht _ (mem1 174 rfl))
    exact ⟨cA, fun _ => ⟨h1, h2⟩⟩
  | 4 =>
    obtain ⟨cA, h1, h2⟩ := go_obj (C := "BothPrices$Shelf") (ht _ (mem1 121 rfl))
    exact ⟨cA, fun _ => ⟨h1, h2⟩⟩
  | 5 =>
    have h : AOL s := ht _ (mem1 176 rfl)
    obtain ⟨comp, cA, kA, h1, -, h2, h3, h4⟩ := h.spec
    exact ⟨cA, fun _ => ⟨fun n z => ⟨fun k h => (by cases h), kA, h2, comp, h3⟩, h4⟩⟩
  | n + 6 => exact ⟨0, fun h => absurd h (by omega)⟩
theorem go_nest (ht : ∀ w ∈ lw_tbl, w.before args s = true) : KN s := by
  unfold KN NLs
  exact List.forall_mem_cons.mpr ⟨va_Nw.of rfl (ht _ (mem1 33 rfl)), List.forall_mem_cons.mpr ⟨va_Nw.of rfl (ht _ (mem1 101 rfl)), List.forall_mem_cons.mpr ⟨va_Nw.of rfl (ht _ (mem1 123 rfl)), List.forall_mem_cons.mpr ⟨va_Nw.of rfl (ht _ (mem1 150 rfl)), List.forall_mem_cons.mpr ⟨va_Nw.of rfl (ht _ (mem1 177 rfl)), List.forall_mem_cons.mpr ⟨va_Nw.of rfl (ht _ (mem1 215 rfl)), List.forall_mem_cons.mpr ⟨va_Nw.of rfl (ht _ (mem1 220 rfl)), List.forall_mem_cons.mpr ⟨va_Nw.of rfl (ht _ (mem2 238 rfl)), List.forall_mem_cons.mpr ⟨va_Nw.of rfl (ht _ (mem3 169 rfl)), List.forall_mem_cons.mpr ⟨va_Nw.of rfl (ht _ (mem3 230 rfl)), fun _ h => absurd h List.not_mem_nil⟩⟩⟩⟩⟩⟩⟩⟩⟩⟩
theorem go_exW (ht : ∀ w ∈ lw_tbl, w.before args s = true) : ∀ w ∈ exW, va_Nw w s := by
  unfold exW
  exact List.forall_mem_cons.mpr ⟨va_Nw.of rfl (ht _ (mem5 1 rfl)), List.forall_mem_cons.mpr ⟨va_Nw.of rfl (ht _ (mem5 3 rfl)), List.forall_mem_cons.mpr ⟨va_Nw.of rfl (ht _ (mem5 5 rfl)), List.forall_mem_cons.mpr ⟨va_Nw.of rfl (ht _ (mem4 239 rfl)), List.forall_mem_cons.mpr ⟨va_Nw.of rfl (ht _ (mem5 93 rfl)), fun _ h => absurd h List.not_mem_nil⟩⟩⟩⟩⟩
theorem go_text {own tx : String} {k : Nat} (h1 : (Cond.stringRef own k tx).before args s = true) (h2 : (Cond.exactly (.string own k) "java/lang/String").before args s = true) : ∃ sa, vk_R own k tx sa s := by
  obtain ⟨a, c, cA, kA, q1, -⟩ := Cond.exactly_spec (args := args) (first := s) (o := none) (s := s) (idx := []) (t := .string own k) (cls := "java/lang/String") h2
  exact ⟨a, vk_R.of h1 q1⟩
theorem go_EX {G : GG} (hl : G.1.flags = flags0) (hb : G.2.2.2.1 = s.heap.size) (ht : ∀ w ∈ lw_tbl, w.before args s = true) (hn : (Jvm.Cond.and given_1 narrow_1).before args s = true) : EX G s := by
  have hf := flat_of_before _ hn
  have hA : ∀ a : Nat, a < s.heap.size → ¬ AG G a := fun a ha q => absurd (show G.2.2.2.1 ≤ a from q) (by omega)
  refine ⟨?_, vx_Zqof (ht _ (mem5 24 rfl)) (ht _ (mem1 18 rfl)) (hf _ (by decide +kernel)) hA, vx_Zqof (ht _ (mem5 26 rfl)) (ht _ (mem1 18 rfl)) (hf _ (by decide +kernel)) hA, go_text (ht _ (mem5 37 rfl)) (hf _ (by decide +kernel)), go_text (ht _ (mem5 100 rfl)) (hf _ (by decide +kernel)), go_text (ht _ (mem5 107 rfl)) (hf _ (by decide +kernel)), va_Nc.of (hf _ (by decide +kernel)), go_exW ht⟩
  unfold Launch.stackTraces
  rw [hl]
  decide
end GO

