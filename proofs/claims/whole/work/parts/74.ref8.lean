/-! THE REFERENCE: all days, level by level -/
def Lv (M : Mem) (n h : Nat) (w p : Nat → Nat) (hh g : Int) (st : Bool) : Prop := (∀ i, i < n → mJ M 100 (6 * h + i) = lN (w i)) ∧ (∀ i, i < n → mJ M 101 (6 * h + i) = lN (p i)) ∧ mI M 102 h = iI hh ∧ mI M 103 h = iI g ∧ mI M 107 h = bI st
/-- what going on from an hour may touch -/
abbrev gC (h a k : Nat) : Prop := (a = 87 ∧ (k = 24 ∨ k = 25 ∨ k = 35 ∨ k = 36)) ∨ a = 99 ∨ ((a = 100 ∨ a = 101) ∧ 6 * h + 6 ≤ k) ∨ ((a = 102 ∨ a = 103 ∨ a = 105 ∨ a = 106 ∨ a = 107) ∧ h + 1 ≤ k) ∨ (a = 104 ∧ h ≤ k)
theorem gC_up {h a k : Nat} (q : gC (h + 1) a k) : gC h a k := by simp only [gC] at *; omega
theorem gC_st {h a k : Nat} (q : gC h a k) : ¬ stC a k := by simp only [gC] at q; simp only [stC]; omega
theorem Lv.fg {P : Nat → Nat → Prop} {M M' : Mem} {n h : Nat} {w p : Nat → Nat} {hh g : Int} {st : Bool} (hn : n ≤ 6) (l : Lv M n h w p hh g st) (f : Fg P M M') (hP : ∀ a k, P a k → gC h a k) : Lv M' n h w p hh g st := by
  have no : ∀ a k, ¬ gC h a k → ¬ P a k := fun a k q z => q (hP a k z)
  obtain ⟨l1, l2, l3, l4, l5⟩ := l
  refine ⟨fun i hi => ?_, fun i hi => ?_, ?_, ?_, ?_⟩
  · rw [f.J (no 100 (6 * h + i) (by simp only [gC]; omega))]; exact l1 i hi
  · rw [f.J (no 101 (6 * h + i) (by simp only [gC]; omega))]; exact l2 i hi
  · rw [f.I (no 102 h (by simp only [gC]; omega))]; exact l3
  · rw [f.I (no 103 h (by simp only [gC]; omega))]; exact l4
  · rw [f.I (no 107 h (by simp only [gC]; omega))]; exact l5
theorem at6 {h i : Nat} : (6 : Int32) * nI h + nI i = nI (6 * h + i) := by rw [show (6 : Int32) = nI 6 from rfl, pk_mul, nI_add]
theorem at66 {h i : Nat} : (6 : Int32) * nI h + 6 + nI i = nI (6 * h + 6 + i) := by rw [show (6 : Int32) = nI 6 from rfl, pk_mul, nI_add, nI_add]
section REF
variable {M : Mem} {σ : StT} {c : CT} {w p : Nat → Nat} {hh g : Int} {st : Bool} {h : Nat} {Q : Int32 → Mem → Prop} {QJ0 : Int64 → Mem → Prop} {QV0 : Mem → Prop}
theorem S_R_mindFrom (hm : MdOK M) (hr : RS M σ) (h6 : h ≤ 6) (hl : ∀ i, i < sN σ → mJ M 100 (6 * h + i) = lN (w i)) (hQ : ∀ M', Fg miC M M' → Mi M' (sN σ) w → QV0 M') : wp_X13_mindFrom 87 (nI h) M QV0 := by
  have w1 := hr.1.1
  refine for_up (fun m i => ∀ M', Fg miC M M' → (∀ j, j < i → mJ M' 99 j = lN (w j)) → lp_X13_mindFrom_2 QV0 m 87 (nI h) (nI i) M') (sN σ) (fun m M' f hz => ?_) (fun m i hi ih M' f hz => ?_) |> fun ⟨m, hm⟩ => ⟨m, hm M Fg.rf (fun j hj => absurd hj (by omega))⟩
  · have r1 := hr.fg f (fun a k q => mi_st q)
    unfold lp_X13_mindFrom_2
    exact ⟨(hm.fg f).1, fun _ => hQ M' f hz, fun hn => absurd (by rw [r1.2.1.1]; exact nI_le (Nat.le_refl _) (by omega)) hn⟩
  · have r1 := hr.fg f (fun a k q => mi_st q)
    have m1 := hm.fg f
    unfold lp_X13_mindFrom_2
    refine ⟨m1.1, fun hle => absurd (by rw [r1.2.1.1] at hle; exact hle) (nI_ge hi (by omega)), fun _ => ?_⟩
    rw [m1.r27, m1.r23, m1.n27, m1.n23, at6, nI_clamp (by omega), nI_clamp (by omega), f.J (by simp only [miC]; omega), hl i hi]
    refine ⟨m1.k27, vp_in_nI (by omega) (by omega), m1.k23, vp_in_nI (by omega) (by omega), fun M5 e5 => ?_⟩
    subst e5
    rw [nI_1]
    exact ih _ (f.sJ rfl) (fil (f := fun j => lN (w j)) hz rfl)
abbrev ohC (h a k : Nat) : Prop := a = 99 ∨ (a = 87 ∧ (k = 24 ∨ k = 25)) ∨ ((a = 104 ∨ a = 105 ∨ a = 106) ∧ k = h)
theorem S_R_openHour {k f : Nat} (hm : MdOK M) (hr : RS M σ) (h6 : h ≤ 5) (l : Lv M (sN σ) h w p hh g st) (hw : ∀ i, i < sN σ → w i ≤ 100000000000) (hp : 0 < sumN w (sN σ)) (h26 : mI M 87 26 = nI (mbc σ)) (hk : k ≤ 5) (hf : f ≤ 49) (hr2 : -20 ≤ hh ∧ hh ≤ 20)
    (hQ : ∀ M', Fg (ohC h) M M' → mI M' 105 h = nI (bidW σ w hh k f) → mI M' 106 h = nI (askW σ w hh k f) → mI M' 104 h = iI ((0 : Nat) - 1 : Int) → QV0 M') : wp_X13_openHour 87 (nI h) (nI k) (nI f) M QV0 := by
  have hin : vp_in (nI h) 7 := vp_in_nI (by omega) (by omega)
  refine ⟨hm.1, S_R_mindFrom hm hr (by omega) l.1 (fun M2 f2 i2 => ?_)⟩
  have m2 := hm.fg f2
  have r2 := hr.fg f2 (fun a k q => mi_st q)
  have e26 : mI M2 87 26 = nI (mbc σ) := by rw [f2.I (by simp only [miC]; omega)]; exact h26
  have eh : mI M2 102 h = iI hh := by rw [f2.I (by simp only [miC]; omega)]; exact l.2.2.1
  rw [m2.r29, m2.n29, nI_clamp (by omega), eh]
  refine ⟨m2.1, m2.k29, hin, S_R_call m2 r2 i2 hw hp e26 hk hf hr2 (fun M4 f4 x4 x5 => ?_)⟩
  have m4 := m2.fg f4
  rw [m4.r32, m4.n32, x4]
  refine ⟨m4.1, m4.k32, hin, fun M5 e5 => ?_⟩
  have m5 : MdOK M5 := by rw [e5]; exact m4
  rw [m5.r33, m5.n33]
  refine ⟨m5.k33, hin, fun M8 e8 => ?_⟩
  have m8 : MdOK M8 := by rw [e8]; exact m5
  rw [m8.r31, m8.n31]
  refine ⟨m8.k31, hin, fun M11 e11 => ?_⟩
  have x5b : mI M5 87 25 = nI (askW σ w hh k f) := by rw [e5, mI_uI, if_neg (by decide)]; exact x5
  rw [x5b] at e8
  have fa : Fg (ohC h) M M4 := (f2.mono (fun a k q => Or.inl q)).t2 (f4.mono (fun a k q => Or.inr (Or.inl q)))
  refine hQ M11 ?_ ?_ ?_ ?_
  · rw [e11, e8, e5]
    exact ((fa.sI (Or.inr (Or.inr ⟨by omega, rfl⟩))).sI (Or.inr (Or.inr ⟨by omega, rfl⟩))).sI (Or.inr (Or.inr ⟨by omega, rfl⟩))
  · rw [e11, mI_uI, if_neg (by decide), e8, mI_uI, if_neg (by decide), e5, mI_uI, if_pos rfl, if_pos rfl]
  · rw [e11, mI_uI, if_neg (by decide), e8, mI_uI, if_pos rfl, if_pos rfl]
  · rw [e11, mI_uI, if_pos rfl, if_pos rfl]; rfl
theorem S_R_closeDay {A B : Int} (hm : MdOK M) (hr : RS M σ) (h6 : h ≤ 6) (l : Lv M (sN σ) h w p hh g st) (hr2 : -20 ≤ hh ∧ hh ≤ 20) (hg : -5000 ≤ g ∧ g ≤ 5000) (eA : mJ M 87 35 = jI A) (eB : mJ M 87 36 = jI B)
    (hQ : ∀ M', Fg (fun a k => a = 87 ∧ (k = 35 ∨ k = 36)) M M' → mJ M' 87 35 = jI (A + lfM σ hh p g st) → mJ M' 87 36 = jI (B + lfS σ hh p g st) → QV0 M') : wp_X13_closeDay 87 (nI h) M QV0 := by
  have w1 := hr.1.1
  have hin : vp_in (nI h) 7 := vp_in_nI (by omega) (by omega)
  have no : ∀ a k, (fun a k => a = 87 ∧ (k = 35 ∨ k = 36)) a k → ¬ stC a k := fun a k q => by simp only [stC]; omega
  refine for_up (fun m i => ∀ M', Fg (fun a k => a = 87 ∧ (k = 35 ∨ k = 36)) M M' → mJ M' 87 35 = jI (A + sumZ (fun i => (p i : Int) * (g + hh * sVa σ i)) i) → mJ M' 87 36 = jI (B + (if st then (sumN p i : Int) else 0)) → lp_X13_closeDay_2 QV0 m 87 (nI h) (nI i) M') (sN σ) (fun m M' f e1 e2 => ?_) (fun m i hi ih M' f e1 e2 => ?_) |> fun ⟨m, hz⟩ => ⟨m, hz M Fg.rf (by rw [eA]; congr 1; show A = A + 0; omega) (by
    rw [eB]; congr 1
    show B = B + (if st then ((0 : Nat) : Int) else 0)
    split <;> omega)⟩
  · have r1 := hr.fg f no
    unfold lp_X13_closeDay_2
    exact ⟨(hm.fg f).1, fun _ => hQ M' f e1 e2, fun hn => absurd (by rw [r1.2.1.1]; exact nI_le (Nat.le_refl _) (by omega)) hn⟩
  · have r1 := hr.fg f no
    have m1 := hm.fg f
    have hv := (hr.1.2.1 i hi).2.2
    unfold lp_X13_closeDay_2
    refine ⟨m1.1, fun hle => absurd (by rw [r1.2.1.1] at hle; exact hle) (nI_ge hi (by omega)), fun _ => ?_⟩
    rw [m1.r28, m1.n28, m1.r30, m1.n30, m1.r29, m1.n29, m1.r2, m1.n2, at6, nI_clamp (by omega), nI_clamp (by omega), nI_clamp (by omega), f.J (by omega), f.I (a := 103) (by omega), f.I (a := 102) (by omega), (r1.2.2.1 i hi).2, l.2.1 i hi, l.2.2.1, l.2.2.2.1]
    have hx : -40000 ≤ hh * (sVa σ i : Int) ∧ hh * (sVa σ i : Int) ≤ 40000 := by
      have a1 : hh * (sVa σ i : Int) ≤ 20 * (sVa σ i : Int) := Int.mul_le_mul_of_nonneg_right hr2.2 (by omega)
      have a2 : (-20) * (sVa σ i : Int) ≤ hh * (sVa σ i : Int) := Int.mul_le_mul_of_nonneg_right hr2.1 (by omega)
      omega
    refine ⟨m1.k28, vp_in_nI (by omega) (by omega), fun y hy => ⟨m1.k30, hin, m1.k29, hin, m1.k2, vp_in_nI (by omega) (by omega), fun M8 e8 => ?_⟩⟩
    subst hy
    have m8 : MdOK M8 := by rw [e8]; exact m1
    have ex : mJ M' 87 35 + lN (p i) * (iI g + iI hh * nI (sVa σ i)).toInt64 = jI (A + sumZ (fun i => (p i : Int) * (g + hh * sVa σ i)) (i + 1)) := by
      rw [e1, nI_iI, iI_mul, iI_add, iI_jI (by omega) (by omega), lN_jI, jI_mul, jI_add]
      congr 1
      show A + _ + _ = A + (_ + _)
      rw [Int.add_assoc]
    rw [ex] at e8
    have v35 : mJ M8 87 35 = jI (A + sumZ (fun i => (p i : Int) * (g + hh * sVa σ i)) (i + 1)) := by rw [e8, mJ_uJ, if_pos rfl, if_pos rfl]
    have v36 : mJ M8 87 36 = jI (B + (if st then (sumN p i : Int) else 0)) := by rw [e8, mJ_uJ, if_pos rfl, if_neg (by decide)]; exact e2
    have v107 : mI M8 107 h = bI st := by rw [e8, mI_uJ, f.I (by omega)]; exact l.2.2.2.2
    have f8 : Fg (fun a k => a = 87 ∧ (k = 35 ∨ k = 36)) M M8 := by rw [e8]; exact f.sJ ⟨rfl, Or.inl rfl⟩
    have fin : ∀ x : Int, (B + (if st then (sumN p i : Int) else 0)) + x = B + (if st then (sumN p (i + 1) : Int) else 0) → jn_X13_closeDay_73 (fun fx0 fx1 fx2 fM => lp_X13_closeDay_2 QV0 m fx0 fx1 fx2 fM) QV0 87 (nI h) (nI i) (jI x) (mJ M8 87 36) 87 M8 := by
      intro x hx
      refine ⟨m8.1, fun M15 e15 => ?_⟩
      rw [v36, jI_add, hx] at e15
      rw [nI_1]
      refine ih M15 (by rw [e15]; exact f8.sJ ⟨rfl, Or.inr rfl⟩) ?_ ?_
      · rw [e15, mJ_uJ, if_pos rfl, if_neg (by decide)]; exact v35
      · rw [e15, mJ_uJ, if_pos rfl, if_pos rfl]
    rw [m8.r34, m8.n34, v107]
    refine ⟨m8.k34, hin, fun z => fin 0 ?_, fun z => ?_⟩
    · rw [if_neg (bI_0.mp z), if_neg (bI_0.mp z)]; omega
    · have ys : st = true := by cases st; (exact absurd rfl z); rfl
      rw [lN_jI]
      refine fin _ ?_
      rw [if_pos ys, if_pos ys]
      show B + (sumN p i : Int) + (p i : Int) = B + ((sumN p i + p i : Nat) : Int)
      omega
end REF
