/-! THE REFERENCE: streets told -/
theorem cmd_wf {σ σ' : StT} {l : Nat} {n : Nat → Nat} (hw : sWF σ) (h : cmd σ l n = some σ') : sWF σ' ∧ sN σ ≤ sN σ' ∧ sS σ ≤ sS σ' := by
  unfold cmd at h
  by_cases c1 : l = 119
  · rw [if_pos c1] at h
    by_cases c : canW σ (n 0) (n 1)
    · rw [if_pos c] at h; cases h
      exact ⟨addW_wf hw c, Nat.le_succ _, Nat.le_refl _⟩
    · rw [if_neg c] at h; cases h
  rw [if_neg c1] at h
  by_cases c2 : l = 99
  · rw [if_pos c2] at h
    by_cases c : canC σ (n 0) (n 1) (n 2)
    · rw [if_pos c] at h; cases h
      exact ⟨addC_wf hw c, Nat.le_refl _, Nat.le_succ _⟩
    · rw [if_neg c] at h; cases h
  rw [if_neg c2] at h
  by_cases c3 : l = 109
  · rw [if_pos c3] at h
    by_cases c : n 0 ≤ 20
    · rw [if_pos c] at h; cases h
      exact ⟨setM_wf hw c, Nat.le_refl _, Nat.le_refl _⟩
    · rw [if_neg c] at h; cases h
  rw [if_neg c3] at h
  by_cases c4 : l = 107
  · rw [if_pos c4] at h
    by_cases c : n 0 ≤ 9
    · rw [if_pos c] at h; cases h
      exact ⟨setK_wf hw c, Nat.le_refl _, Nat.le_refl _⟩
    · rw [if_neg c] at h; cases h
  rw [if_neg c4] at h
  by_cases c5 : l = 104
  · rw [if_pos c5] at h
    by_cases c : 1 ≤ n 0 ∧ n 0 ≤ 6
    · rw [if_pos c] at h; cases h
      exact ⟨setH_wf hw c, Nat.le_refl _, Nat.le_refl _⟩
    · rw [if_neg c] at h; cases h
  rw [if_neg c5] at h; cases h
/-- what adding may touch: of the rows only what lies behind -/
abbrev cmC (nw ns a k : Nat) : Prop := (a = 87 ∧ (k = 0 ∨ k = 3 ∨ k = 7 ∨ k = 8 ∨ k = 9)) ∨ ((a = 88 ∨ a = 89) ∧ nw ≤ k) ∨ ((a = 90 ∨ a = 91 ∨ a = 92) ∧ ns ≤ k)
section REF
variable {M M0 : Mem} {σ : StT} {dd len t : Nat} {b : Nat → Nat} {f : Bool} {Q : Int32 → Mem → Prop} {QJ0 : Int64 → Mem → Prop} {QV0 : Mem → Prop}
theorem RS.num {x : Nat} {k : Nat} {σ' : StT} (h : RS M σ) (hw : sWF σ') (e1 : (sN σ', sCh σ', sVa σ', sS σ', sKd σ', sPt σ', sLi σ') = (sN σ, sCh σ, sVa σ, sS σ, sKd σ, sPt σ, sLi σ)) (hk : k = 7 ∨ k = 8 ∨ k = 9) (e7 : sMo σ' = if k = 7 then x else sMo σ) (e8 : sCo σ' = if k = 8 then x else sCo σ) (e9 : sHo σ' = if k = 9 then x else sHo σ) : RS (uI M 87 k (nI x)) σ' := by
  obtain ⟨_, x2⟩ := Prod.mk.inj e1
  obtain ⟨y1, x3⟩ := Prod.mk.inj x2
  obtain ⟨y2, x4⟩ := Prod.mk.inj x3
  obtain ⟨y3, x5⟩ := Prod.mk.inj x4
  obtain ⟨y4, x6⟩ := Prod.mk.inj x5
  obtain ⟨y5, y6⟩ := Prod.mk.inj x6
  rename_i y0
  obtain ⟨-, ⟨a0, a3, a7, a8, a9⟩, b1, b2⟩ := h
  refine ⟨hw, ⟨?_, ?_, ?_, ?_, ?_⟩, fun i hi => ?_, fun j hj => ?_⟩
  · rw [mI_uI, if_pos rfl, if_neg (by omega), y0]; exact a0
  · rw [mI_uI, if_pos rfl, if_neg (by omega), y3]; exact a3
  · rw [mI_uI, if_pos rfl, e7]
    by_cases c : k = 7
    · rw [if_pos c.symm, if_pos c]
    · rw [if_neg (fun q => c q.symm), if_neg c]; exact a7
  · rw [mI_uI, if_pos rfl, e8]
    by_cases c : k = 8
    · rw [if_pos c.symm, if_pos c]
    · rw [if_neg (fun q => c q.symm), if_neg c]; exact a8
  · rw [mI_uI, if_pos rfl, e9]
    by_cases c : k = 9
    · rw [if_pos c.symm, if_pos c]
    · rw [if_neg (fun q => c q.symm), if_neg c]; exact a9
  · rw [mI_uI, if_neg (by decide), mI_uI, if_neg (by decide), y1, y2]; exact b1 i (by omega)
  · rw [mI_uI, if_neg (by decide), mI_uI, if_neg (by decide), mI_uI, if_neg (by decide), y4, y5, y6]; exact b2 j (by omega)
theorem RS.self {k : Nat} (h : RS M σ) (hk : k = 7 ∨ k = 8 ∨ k = 9) : RS (uI M 87 k (mI M 87 k)) σ := by
  have e : ∀ a j, mI (uI M 87 k (mI M 87 k)) a j = mI M a j := fun a j => by
    rw [mI_uI]
    split
    · rename_i c; split
      · rename_i c2; rw [c, c2]
      · rfl
    · rfl
  unfold RS
  simp only [e]
  exact h
theorem S_R_comes {i t0 u nw ns : Nat} {n : Nat → Nat} (hi : i < 50) (hm : MdOK M) (hr : RS M σ) (hc : Rc M i t0 u n (lastN u)) (hL : isL u) (hn : ∀ j, j ≤ lastN u → n j < 1000) (h1 : nw ≤ sN σ) (h2 : ns ≤ sS σ)
    (hY : ∀ σ', cmd σ u n = some σ' → ∀ M', Fg (cmC nw ns) M M' → RS M' σ' → Q 1 M') (hN : cmd σ u n = none → ∀ M', Fg (cmC nw ns) M M' → Q 0 M') : wp_X13_comes 87 (nI i) M Q := by
  obtain ⟨c1, c2, c3, c4, c5⟩ := hc
  obtain ⟨w1, w2, w3, w4, w5, w6, w7, w8, w9⟩ := hr.1
  obtain ⟨a0, a3, a7, a8, a9⟩ := hr.2.1
  have u128 : u < 128 := by unfold isL at hL; omega
  have hin : vp_in (nI i) 50 := vp_in_nI hi (by omega)
  have n0 := hn 0 (by omega)
  unfold wp_X13_comes
  rw [hm.r19, hm.n19, hm.r20, hm.n20, hm.r21, hm.n21, hm.r22, hm.n22, nI_clamp (by omega), c2, c3]
  refine ⟨hm.1, hm.k20, hin, fun y1 e1 => ?_⟩
  subst e1
  refine ⟨hm.k21, hin, fun y2 e2 => ?_⟩
  subst e2
  have ue : ∀ k, k < 256 → (nI u = nI k ↔ u = k) := fun k hk => nI_eq (by omega) (by omega)
  have lt : ∀ k x : Nat, k < 1000 → x < 1000 → (nI k < nI x ↔ k < x) := fun k x hk hx => nI_lt31 (by omega) (by omega)
  have le : ∀ k x : Nat, k < 1000 → x < 1000 → (nI k ≤ nI x ↔ k ≤ x) := fun k x hk hx => nI_le31 (by omega) (by omega)
  refine ⟨hm.k19, hin, fun z => ?_, fun z => ?_, fun z => ?_, fun z => ?_, fun z99 z107 z109 z119 => ?_⟩
  · -- a sort
    have z := (ue 99 (by omega)).mp z
    have eN : lastN u = 2 := by unfold lastN; rw [if_pos z]
    have n1 := hn 1 (by omega)
    have n2 := hn 2 (by omega)
    rw [c4 (by omega), c5 (by omega)]
    have ec : cmd σ u n = if canC σ (n 0) (n 1) (n 2) then some (addC σ (n 0) (n 1) (n 2)) else none := by
      unfold cmd; rw [if_neg (by omega), if_pos z]
    have bad : ¬ canC σ (n 0) (n 1) (n 2) → Q 0 M := fun o => hN (by rw [ec, if_neg o]) M Fg.rf
    refine ⟨fun q => bad (fun o => by have := (lt 4 (n 0) (by omega) (by omega)).mp q; have := o.2.1; omega), fun q1 => ⟨fun q => bad (fun o => by have := (lt 100 (n 1) (by omega) (by omega)).mp q; have := o.2.2.2; omega), fun q2 => ⟨hm.k22, hin, fun q => bad (fun o => by have := (lt 99 (n 2) (by omega) (by omega)).mp q; have := o.2.2.1; omega), fun q3 => ⟨fun q => bad (fun o => ?_), fun q4 => S_R_parts hm hr ⟨fun q5 => ?_, fun q5 => bad (fun o => q5 ?_)⟩⟩⟩⟩⟩
    · rw [a3] at q
      have := (nI_eq (b := 6) (by omega) (by omega)).mp q
      have := o.1; omega
    · rw [nI_add] at q5
      have q5 := (nI_le31 (b := 100) (by omega) (by omega)).mp q5
      rw [a3] at q4
      have q4 : sS σ ≠ 6 := mt (nI_eq (a := sS σ) (b := 6) (by omega) (by omega)).mpr q4
      have q1 := mt (lt 4 (n 0) (by omega) (by omega)).mpr q1
      have q3 := mt (lt 99 (n 2) (by omega) (by omega)).mpr q3
      have cc : canC σ (n 0) (n 1) (n 2) := ⟨by omega, by omega, by omega, by omega⟩
      have hin6 : vp_in (nI (sS σ)) 6 := vp_in_nI (by omega) (by omega)
      rw [hm.r4, hm.n4, a3, nI_clamp (by omega)]
      refine ⟨hm.1, hm.k4, hin6, fun M1 e1 => ?_⟩
      have m1 : MdOK M1 := by rw [e1]; exact hm
      have b3 : mI M1 87 3 = nI (sS σ) := by rw [e1, mI_uI, if_neg (by decide)]; exact a3
      rw [m1.r5, m1.n5, b3, nI_clamp (by omega)]
      refine ⟨m1.k5, hin6, fun M2 e2 => ?_⟩
      have m2 : MdOK M2 := by rw [e2]; exact m1
      have d3 : mI M2 87 3 = nI (sS σ) := by rw [e2, mI_uI, if_neg (by decide)]; exact b3
      have d98 : mI M2 98 i = nI (n 2) := by rw [e2, mI_uI, if_neg (by decide), e1, mI_uI, if_neg (by decide)]; exact c5 (by omega)
      rw [m2.r22, m2.n22, m2.r6, m2.n6, d3, d98, nI_clamp (by omega)]
      refine ⟨m2.k22, hin, m2.k6, hin6, fun M3 e3 M4 e4 => ?_⟩
      have g3 : mI M3 87 3 = nI (sS σ) := by rw [e3, mI_uI, if_neg (by decide)]; exact d3
      rw [g3, nI_1] at e4
      have f4 : Fg (cmC nw ns) M M4 := by
        rw [e4, e3, e2, e1]
        exact (((Fg.pI (Or.inr (Or.inr ⟨by omega, h2⟩))).sI (Or.inr (Or.inr ⟨by omega, h2⟩))).sI (Or.inr (Or.inr ⟨by omega, h2⟩))).sI (Or.inl ⟨rfl, by omega⟩)
      have rd : ∀ a k, a ≠ 87 → a ≠ 90 → a ≠ 91 → a ≠ 92 → mI M4 a k = mI M a k := fun a k x1 x2 x3 x4 => by
        rw [e4, mI_uI, if_neg x1, e3, mI_uI, if_neg x4, e2, mI_uI, if_neg x3, e1, mI_uI, if_neg x2]
      have r7 : ∀ k, k ≠ 3 → mI M4 87 k = mI M 87 k := fun k hk => by
        rw [e4, mI_uI, if_pos rfl, if_neg hk, e3, mI_uI, if_neg (by decide), e2, mI_uI, if_neg (by decide), e1, mI_uI, if_neg (by decide)]
      refine hY _ (by rw [ec, if_pos cc]) M4 f4 ⟨addC_wf hr.1 cc, ⟨?_, ?_, ?_, ?_, ?_⟩, fun k hk => ?_, fun j hj => ?_⟩
      · rw [r7 0 (by decide)]; exact a0
      · rw [e4, mI_uI, if_pos rfl, if_pos rfl]; rfl
      · rw [r7 7 (by decide)]; exact a7
      · rw [r7 8 (by decide)]; exact a8
      · rw [r7 9 (by decide)]; exact a9
      · rw [rd 88 k (by decide) (by decide) (by decide) (by decide), rd 89 k (by decide) (by decide) (by decide) (by decide)]; exact hr.2.2.1 k hk
      · change j < sS σ + 1 at hj
        show mI M4 90 j = nI (if j = sS σ then n 0 else sKd σ j) ∧ mI M4 91 j = nI (if j = sS σ then n 1 else sPt σ j) ∧ mI M4 92 j = nI (if j = sS σ then n 2 else sLi σ j)
        have v90 : mI M4 90 j = if j = sS σ then nI (n 0) else mI M 90 j := by
          rw [e4, mI_uI, if_neg (by decide), e3, mI_uI, if_neg (by decide), e2, mI_uI, if_neg (by decide), e1, mI_uI, if_pos rfl]
        have v91 : mI M4 91 j = if j = sS σ then nI (n 1) else mI M 91 j := by
          rw [e4, mI_uI, if_neg (by decide), e3, mI_uI, if_neg (by decide), e2, mI_uI, if_pos rfl, e1, mI_uI, if_neg (show ¬ (91 : Nat) = 90 by decide)]
        have v92 : mI M4 92 j = if j = sS σ then nI (n 2) else mI M 92 j := by
          rw [e4, mI_uI, if_neg (by decide), e3, mI_uI, if_pos rfl, e2, mI_uI, if_neg (show ¬ (92 : Nat) = 91 by decide), e1, mI_uI, if_neg (show ¬ (92 : Nat) = 90 by decide)]
        rw [v90, v91, v92]
        by_cases e : j = sS σ
        · rw [if_pos e, if_pos e, if_pos e, if_pos e, if_pos e, if_pos e]; exact ⟨rfl, rfl, rfl⟩
        · rw [if_neg e, if_neg e, if_neg e, if_neg e, if_neg e, if_neg e]; exact hr.2.2.2 j (by omega)
    · rw [nI_add]
      exact nI_le (b := 100) (by have := o.2.2.2; omega) (by omega)
  · -- a cost
    have z := (ue 107 (by omega)).mp z
    have ec : cmd σ u n = if n 0 ≤ 9 then some (setK σ (n 0)) else none := by
      unfold cmd; rw [if_neg (by omega), if_neg (by omega), if_neg (by omega), if_pos z]
    have l9 := le (n 0) 9 (by omega) (by omega)
    have g9 := lt 9 (n 0) (by omega) (by omega)
    refine ⟨fun q => ⟨hm.1, fun M1 e1 => ⟨fun y => absurd (g9.mp y) (by have := l9.mp q; omega), fun _ => ?_⟩⟩, fun q => ⟨hm.1, fun M1 e1 => ⟨fun _ => ?_, fun y => absurd (g9.mpr (by have := mt l9.mpr q; omega)) y⟩⟩⟩
    · have q := l9.mp q
      refine hY _ (by rw [ec, if_pos q]) M1 (by rw [e1]; exact Fg.pI (Or.inl ⟨rfl, by omega⟩)) ?_
      rw [e1]
      exact hr.num (setK_wf hr.1 q) rfl (by omega) rfl rfl rfl
    · have q := mt l9.mpr q
      exact hN (by rw [ec, if_neg q]) M1 (by rw [e1]; exact Fg.pI (Or.inl ⟨rfl, by omega⟩))
  · -- a most
    have z := (ue 109 (by omega)).mp z
    have ec : cmd σ u n = if n 0 ≤ 20 then some (setM σ (n 0)) else none := by
      unfold cmd; rw [if_neg (by omega), if_neg (by omega), if_pos z]
    have l9 := le (n 0) 20 (by omega) (by omega)
    have g9 := lt 20 (n 0) (by omega) (by omega)
    refine ⟨fun q => ⟨hm.1, fun M1 e1 => ⟨fun y => absurd (g9.mp y) (by have := l9.mp q; omega), fun _ => ?_⟩⟩, fun q => ⟨hm.1, fun M1 e1 => ⟨fun _ => ?_, fun y => absurd (g9.mpr (by have := mt l9.mpr q; omega)) y⟩⟩⟩
    · have q := l9.mp q
      refine hY _ (by rw [ec, if_pos q]) M1 (by rw [e1]; exact Fg.pI (Or.inl ⟨rfl, by omega⟩)) ?_
      rw [e1]
      exact hr.num (setM_wf hr.1 q) rfl (by omega) rfl rfl rfl
    · have q := mt l9.mpr q
      exact hN (by rw [ec, if_neg q]) M1 (by rw [e1]; exact Fg.pI (Or.inl ⟨rfl, by omega⟩))
  · -- a worth
    have z := (ue 119 (by omega)).mp z
    have eN : lastN u = 1 := by unfold lastN; rw [if_neg (by omega), if_pos z]
    have n1 := hn 1 (by omega)
    rw [c4 (by omega)]
    have ec : cmd σ u n = if canW σ (n 0) (n 1) then some (addW σ (n 0) (n 1)) else none := by
      unfold cmd; rw [if_pos z]
    have bad : ¬ canW σ (n 0) (n 1) → Q 0 M := fun o => hN (by rw [ec, if_neg o]) M Fg.rf
    refine S_inY 1 100 (by omega) (by omega) rfl rfl (fun p => ⟨fun y => absurd y (by decide), fun _ => ⟨fun q => bad (fun o => by have := (lt 99 (n 1) (by omega) (by omega)).mp q; have := o.2.2.1; omega), fun q2 => ⟨hm.1, fun q => bad (fun o => ?_), fun q4 => S_R_chances hm hr ⟨fun q5 => ?_, fun q5 => bad (fun o => q5 ?_)⟩⟩⟩⟩) (fun p => ⟨fun _ => bad (fun o => p ?_), fun y => absurd rfl y⟩)
    · rw [a0] at q
      have := (nI_eq (b := 6) (by omega) (by omega)).mp q
      have := o.1; omega
    · rw [ix_nI (by omega)] at p
      rw [nI_add] at q5
      have q5 := (nI_le31 (b := 100) (by omega) (by omega)).mp q5
      rw [a0] at q4
      have q4 : sN σ ≠ 6 := mt (nI_eq (a := sN σ) (b := 6) (by omega) (by omega)).mpr q4
      have q2 := mt (lt 99 (n 1) (by omega) (by omega)).mpr q2
      have cc : canW σ (n 0) (n 1) := ⟨by omega, by omega, by omega, by omega⟩
      have hin6 : vp_in (nI (sN σ)) 6 := vp_in_nI (by omega) (by omega)
      rw [hm.r1, hm.n1, a0, nI_clamp (by omega)]
      refine ⟨hm.1, hm.k1, hin6, fun M1 e1 => ?_⟩
      have m1 : MdOK M1 := by rw [e1]; exact hm
      have b3 : mI M1 87 0 = nI (sN σ) := by rw [e1, mI_uI, if_neg (by decide)]; exact a0
      rw [m1.r2, m1.n2, b3, nI_clamp (by omega)]
      refine ⟨m1.k2, hin6, fun M3 e3 M4 e4 => ?_⟩
      have g3 : mI M3 87 0 = nI (sN σ) := by rw [e3, mI_uI, if_neg (by decide)]; exact b3
      rw [g3, nI_1] at e4
      have f4 : Fg (cmC nw ns) M M4 := by
        rw [e4, e3, e1]
        exact ((Fg.pI (Or.inr (Or.inl ⟨by omega, h1⟩))).sI (Or.inr (Or.inl ⟨by omega, h1⟩))).sI (Or.inl ⟨rfl, by omega⟩)
      have rd : ∀ a k, a ≠ 87 → a ≠ 88 → a ≠ 89 → mI M4 a k = mI M a k := fun a k x1 x2 x3 => by
        rw [e4, mI_uI, if_neg x1, e3, mI_uI, if_neg x3, e1, mI_uI, if_neg x2]
      have r7 : ∀ k, k ≠ 0 → mI M4 87 k = mI M 87 k := fun k hk => by
        rw [e4, mI_uI, if_pos rfl, if_neg hk, e3, mI_uI, if_neg (by decide), e1, mI_uI, if_neg (by decide)]
      refine hY _ (by rw [ec, if_pos cc]) M4 f4 ⟨addW_wf hr.1 cc, ⟨?_, ?_, ?_, ?_, ?_⟩, fun k hk => ?_, fun j hj => ?_⟩
      · rw [e4, mI_uI, if_pos rfl, if_pos rfl]; rfl
      · rw [r7 3 (by decide)]; exact a3
      · rw [r7 7 (by decide)]; exact a7
      · rw [r7 8 (by decide)]; exact a8
      · rw [r7 9 (by decide)]; exact a9
      · change k < sN σ + 1 at hk
        show mI M4 88 k = nI (if k = sN σ then n 0 else sCh σ k) ∧ mI M4 89 k = nI (if k = sN σ then n 1 else sVa σ k)
        have v88 : mI M4 88 k = if k = sN σ then nI (n 0) else mI M 88 k := by
          rw [e4, mI_uI, if_neg (by decide), e3, mI_uI, if_neg (by decide), e1, mI_uI, if_pos rfl]
        have v89 : mI M4 89 k = if k = sN σ then nI (n 1) else mI M 89 k := by
          rw [e4, mI_uI, if_neg (by decide), e3, mI_uI, if_pos rfl, e1, mI_uI, if_neg (show ¬ (89 : Nat) = 88 by decide)]
        rw [v88, v89]
        by_cases e : k = sN σ
        · rw [if_pos e, if_pos e, if_pos e, if_pos e]; exact ⟨rfl, rfl⟩
        · rw [if_neg e, if_neg e, if_neg e, if_neg e]; exact hr.2.2.1 k (by omega)
      · rw [rd 90 j (by decide) (by decide) (by decide), rd 91 j (by decide) (by decide) (by decide), rd 92 j (by decide) (by decide) (by decide)]; exact hr.2.2.2 j hj
    · rw [nI_add]
      exact nI_le (b := 100) (by have := o.2.2.2; omega) (by omega)
    · rw [ix_nI (by omega)]
      have := o.2.1; have := o.2.2.2; omega
  · -- hours
    have z1 := mt (ue 99 (by omega)).mpr z99
    have z2 := mt (ue 107 (by omega)).mpr z107
    have z3 := mt (ue 109 (by omega)).mpr z109
    have z4 := mt (ue 119 (by omega)).mpr z119
    have z5 : u = 104 := by unfold isL at hL; omega
    have ec : cmd σ u n = if 1 ≤ n 0 ∧ n 0 ≤ 6 then some (setH σ (n 0)) else none := by
      unfold cmd; rw [if_neg z4, if_neg z1, if_neg z3, if_neg z2, if_pos z5]
    have ex : ix (nI (n 0)) = n 0 := ix_nI (by omega)
    refine S_inY 1 6 (by omega) (by omega) rfl rfl (fun p => ⟨fun y => absurd y (by decide), fun _ => ⟨hm.1, fun M1 e1 => S_inY 1 6 (by omega) (by omega) rfl rfl (fun _ => ⟨Or.inr rfl, ?_⟩) (fun p2 => absurd p p2)⟩⟩) (fun p => ⟨fun _ => ⟨hm.1, hm.1, fun M1 e1 => S_inY 1 6 (by omega) (by omega) rfl rfl (fun p2 => absurd p2 p) (fun _ => ⟨Or.inl rfl, ?_⟩)⟩, fun y => absurd rfl y⟩)
    · rw [ex] at p
      refine hY _ (by rw [ec, if_pos p]) M1 (by rw [e1]; exact Fg.pI (Or.inl ⟨rfl, by omega⟩)) ?_
      rw [e1]
      exact hr.num (setH_wf hr.1 p) rfl (by omega) rfl rfl rfl
    · rw [ex] at p
      exact hN (by rw [ec, if_neg p]) M1 (by rw [e1]; exact Fg.pI (Or.inl ⟨rfl, by omega⟩))
end REF
