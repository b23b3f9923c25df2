/-! STREETS: copies, what texts add -/
abbrev canW (σ : StT) (c v : Nat) : Prop := sN σ < 6 ∧ 1 ≤ c ∧ v ≤ 99 ∧ c + sumN (sCh σ) (sN σ) ≤ 100
def addW (σ : StT) (c v : Nat) : StT := (sN σ + 1, (fun i => if i = sN σ then c else sCh σ i), (fun i => if i = sN σ then v else sVa σ i), sS σ, sKd σ, sPt σ, sLi σ, sMo σ, sCo σ, sHo σ)
abbrev canC (σ : StT) (k p l : Nat) : Prop := sS σ < 6 ∧ k ≤ 4 ∧ l ≤ 99 ∧ p + sumN (sPt σ) (sS σ) ≤ 100
def addC (σ : StT) (k p l : Nat) : StT := (sN σ, sCh σ, sVa σ, sS σ + 1, (fun j => if j = sS σ then k else sKd σ j), (fun j => if j = sS σ then p else sPt σ j), (fun j => if j = sS σ then l else sLi σ j), sMo σ, sCo σ, sHo σ)
def setM (σ : StT) (x : Nat) : StT := (sN σ, sCh σ, sVa σ, sS σ, sKd σ, sPt σ, sLi σ, x, sCo σ, sHo σ)
def setK (σ : StT) (x : Nat) : StT := (sN σ, sCh σ, sVa σ, sS σ, sKd σ, sPt σ, sLi σ, sMo σ, x, sHo σ)
def setH (σ : StT) (x : Nat) : StT := (sN σ, sCh σ, sVa σ, sS σ, sKd σ, sPt σ, sLi σ, sMo σ, sCo σ, x)
theorem sumN_put {f : Nat → Nat} {n x : Nat} : sumN (fun i => if i = n then x else f i) (n + 1) = sumN f n + x := by
  show sumN (fun i => if i = n then x else f i) n + (if n = n then x else f n) = _
  rw [if_pos rfl, sumN_congr (f := fun i => if i = n then x else f i) (g := f) n (fun i hi => if_neg (by omega))]
theorem addW_wf {σ : StT} {c v : Nat} (h : sWF σ) (hc : canW σ c v) : sWF (addW σ c v) := by
  obtain ⟨h1, h2, h3, h4, h5, h6, h7⟩ := h
  obtain ⟨c1, c2, c3, c4⟩ := hc
  refine ⟨c1, fun i hi => ?_, h3, h4, ?_, h6, h7⟩
  · change i < sN σ + 1 at hi
    show 1 ≤ (if i = sN σ then c else sCh σ i) ∧ (if i = sN σ then c else sCh σ i) ≤ 100 ∧ (if i = sN σ then v else sVa σ i) ≤ 99
    by_cases e : i = sN σ
    · rw [if_pos e, if_pos e]; omega
    · rw [if_neg e, if_neg e]; exact h2 i (by omega)
  · show sumN (fun i => if i = sN σ then c else sCh σ i) (sN σ + 1) ≤ 100
    rw [sumN_put]; omega
theorem addC_wf {σ : StT} {k p l : Nat} (h : sWF σ) (hc : canC σ k p l) : sWF (addC σ k p l) := by
  obtain ⟨h1, h2, h3, h4, h5, h6, h7⟩ := h
  obtain ⟨c1, c2, c3, c4⟩ := hc
  refine ⟨h1, h2, c1, fun i hi => ?_, h5, ?_, h7⟩
  · change i < sS σ + 1 at hi
    show (if i = sS σ then k else sKd σ i) ≤ 4 ∧ (if i = sS σ then p else sPt σ i) ≤ 100 ∧ (if i = sS σ then l else sLi σ i) ≤ 99
    by_cases e : i = sS σ
    · rw [if_pos e, if_pos e, if_pos e]; omega
    · rw [if_neg e, if_neg e, if_neg e]; exact h4 i (by omega)
  · show sumN (fun i => if i = sS σ then p else sPt σ i) (sS σ + 1) ≤ 100
    rw [sumN_put]; omega
theorem setM_wf {σ : StT} {x : Nat} (h : sWF σ) (hx : x ≤ 20) : sWF (setM σ x) := ⟨h.1, h.2.1, h.2.2.1, h.2.2.2.1, h.2.2.2.2.1, h.2.2.2.2.2.1, hx, h.2.2.2.2.2.2.2⟩
theorem setK_wf {σ : StT} {x : Nat} (h : sWF σ) (hx : x ≤ 9) : sWF (setK σ x) := ⟨h.1, h.2.1, h.2.2.1, h.2.2.2.1, h.2.2.2.2.1, h.2.2.2.2.2.1, h.2.2.2.2.2.2.1, hx, h.2.2.2.2.2.2.2.2⟩
theorem setH_wf {σ : StT} {x : Nat} (h : sWF σ) (hx : 1 ≤ x ∧ x ≤ 6) : sWF (setH σ x) := ⟨h.1, h.2.1, h.2.2.1, h.2.2.2.1, h.2.2.2.2.1, h.2.2.2.2.2.1, h.2.2.2.2.2.2.1, h.2.2.2.2.2.2.2.1, hx⟩
abbrev stA (s : Nat) : Nat → Prop := fun x => s ≤ x ∧ x < s + 8
section STREET
variable {M : Mem} {s : Nat} {σ : StT} {Q : Int32 → Mem → Prop} {QJ0 : Int64 → Mem → Prop} {QV0 : Mem → Prop}
theorem StAt.setM (h : StAt M s σ) {x : Nat} (hx : x ≤ 20) : StAt (uI M s 7 (nI x)) s (setM σ x) := by
  refine ⟨h.1, setM_wf h.2.1 hx, ⟨?_, ?_, ?_, ?_, ?_⟩, fun i hi => ?_, fun j hj => ?_⟩
  · rw [mI_uI, if_pos rfl, if_neg (by decide)]; exact h.2.2.1.1
  · rw [mI_uI, if_pos rfl, if_neg (by decide)]; exact h.2.2.1.2.1
  · rw [mI_uI, if_pos rfl, if_pos rfl]; rfl
  · rw [mI_uI, if_pos rfl, if_neg (by decide)]; exact h.2.2.1.2.2.2.1
  · rw [mI_uI, if_pos rfl, if_neg (by decide)]; exact h.2.2.1.2.2.2.2
  · rw [mI_uI, if_neg (by omega), mI_uI, if_neg (by omega)]; exact h.2.2.2.1 i hi
  · rw [mI_uI, if_neg (by omega), mI_uI, if_neg (by omega), mI_uI, if_neg (by omega)]; exact h.2.2.2.2 j hj
theorem StAt.setK (h : StAt M s σ) {x : Nat} (hx : x ≤ 9) : StAt (uI M s 8 (nI x)) s (setK σ x) := by
  refine ⟨h.1, setK_wf h.2.1 hx, ⟨?_, ?_, ?_, ?_, ?_⟩, fun i hi => ?_, fun j hj => ?_⟩
  · rw [mI_uI, if_pos rfl, if_neg (by decide)]; exact h.2.2.1.1
  · rw [mI_uI, if_pos rfl, if_neg (by decide)]; exact h.2.2.1.2.1
  · rw [mI_uI, if_pos rfl, if_neg (by decide)]; exact h.2.2.1.2.2.1
  · rw [mI_uI, if_pos rfl, if_pos rfl]; rfl
  · rw [mI_uI, if_pos rfl, if_neg (by decide)]; exact h.2.2.1.2.2.2.2
  · rw [mI_uI, if_neg (by omega), mI_uI, if_neg (by omega)]; exact h.2.2.2.1 i hi
  · rw [mI_uI, if_neg (by omega), mI_uI, if_neg (by omega), mI_uI, if_neg (by omega)]; exact h.2.2.2.2 j hj
theorem StAt.setH (h : StAt M s σ) {x : Nat} (hx : 1 ≤ x ∧ x ≤ 6) : StAt (uI M s 9 (nI x)) s (setH σ x) := by
  refine ⟨h.1, setH_wf h.2.1 hx, ⟨?_, ?_, ?_, ?_, ?_⟩, fun i hi => ?_, fun j hj => ?_⟩
  · rw [mI_uI, if_pos rfl, if_neg (by decide)]; exact h.2.2.1.1
  · rw [mI_uI, if_pos rfl, if_neg (by decide)]; exact h.2.2.1.2.1
  · rw [mI_uI, if_pos rfl, if_neg (by decide)]; exact h.2.2.1.2.2.1
  · rw [mI_uI, if_pos rfl, if_neg (by decide)]; exact h.2.2.1.2.2.2.1
  · rw [mI_uI, if_pos rfl, if_pos rfl]; rfl
  · rw [mI_uI, if_neg (by omega), mI_uI, if_neg (by omega)]; exact h.2.2.2.1 i hi
  · rw [mI_uI, if_neg (by omega), mI_uI, if_neg (by omega), mI_uI, if_neg (by omega)]; exact h.2.2.2.2 j hj
theorem S_X6_addWorth {c v : Nat} (h : StAt M s σ) (hc : c < 1000) (hv : v < 1000) (h1 : canW σ c v → ∀ M', Fr (stA s) M M' → StAt M' s (addW σ c v) → Q 1 M') (h0 : ¬ canW σ c v → Q 0 M) : wp_X6_addWorth s (nI c) (nI v) M Q := by
  obtain ⟨w1, -, -, -, w5, -⟩ := h.2.1
  have f0 := h.2.2.1.1
  have a6 : (6 : Int32) ≤ nI (sN σ) ↔ 6 ≤ sN σ := nI_le31 (a := 6) (by omega) (by omega)
  have a1 : nI c < (1 : Int32) ↔ c < 1 := nI_lt31 (b := 1) (by omega) (by omega)
  have a9 : (99 : Int32) < nI v ↔ 99 < v := nI_lt31 (a := 99) (by omega) (by omega)
  have aS : nI c ≤ 100 - nI (sumN (sCh σ) (sN σ)) ↔ c + sumN (sCh σ) (sN σ) ≤ 100 := by
    rw [show (100 : Int32) = nI 100 from rfl, pk_sub w5, nI_le31 (by omega) (by omega)]; omega
  unfold wp_X6_addWorth
  rw [f0]
  refine ⟨h.1.1, fun q => h0 (by have := a6.mp q; omega), fun q => ⟨fun q1 => h0 (by have := a1.mp q1; omega), fun q1 => ⟨fun q2 => absurd q2 (nI_pos (by omega)), fun _ => ⟨fun q3 => h0 (by have := a9.mp q3; omega), fun q3 => S_X6_allChances h ⟨fun q4 => ?_, fun q4 => h0 (by have := mt aS.mpr q4; omega)⟩⟩⟩⟩⟩
  have q := mt a6.mpr q
  have q1 := mt a1.mpr q1
  have q3 := mt a9.mpr q3
  have q4 := aS.mp q4
  have can : sN σ < 6 ∧ 1 ≤ c ∧ v ≤ 99 ∧ c + sumN (sCh σ) (sN σ) ≤ 100 := ⟨by omega, by omega, by omega, q4⟩
  rw [h.1.2.1.1, h.1.2.2.2.1, f0, nI_clamp (by omega)]
  refine ⟨h.1.1, h.1.2.2.1.1, vp_in_nI (by omega) (by omega), fun M24 e24 => ?_⟩
  have i24 : mI M24 s 0 = nI (sN σ) := by rw [e24, mI_uI, if_neg (by omega)]; exact f0
  rw [i24, nI_clamp (by omega), show mR M24 s 2 = s + 2 by rw [e24]; exact h.1.2.1.2.1, show mN M24 (s + 2) = 6 by rw [e24]; exact h.1.2.2.2.2.1]
  refine ⟨by rw [e24]; exact h.1.2.2.1.2.1, vp_in_nI (by omega) (by omega), fun M27 e27 M30 e30 => ?_⟩
  rw [show mI M27 s 0 = nI (sN σ) by rw [e27, mI_uI, if_neg (by omega)]; exact i24, nI_1] at e30
  refine h1 can M30 ?_ ⟨?_, addW_wf h.2.1 can, ⟨?_, ?_, ?_, ?_, ?_⟩, fun i hi => ?_, fun j hj => ?_⟩
  · rw [e30, e27, e24]
    exact ((Fr.uI (by simp only [stA]; omega)).t2 (Fr.uI (by simp only [stA]; omega))).t2 (Fr.uI (by simp only [stA]; omega))
  · rw [e30, e27, e24]; exact h.1
  · rw [e30, mI_uI, if_pos rfl, if_pos rfl]; rfl
  · rw [e30, mI_uI, if_pos rfl, if_neg (by decide), e27, mI_uI, if_neg (by omega), e24, mI_uI, if_neg (by omega)]; exact h.2.2.1.2.1
  · rw [e30, mI_uI, if_pos rfl, if_neg (by decide), e27, mI_uI, if_neg (by omega), e24, mI_uI, if_neg (by omega)]; exact h.2.2.1.2.2.1
  · rw [e30, mI_uI, if_pos rfl, if_neg (by decide), e27, mI_uI, if_neg (by omega), e24, mI_uI, if_neg (by omega)]; exact h.2.2.1.2.2.2.1
  · rw [e30, mI_uI, if_pos rfl, if_neg (by decide), e27, mI_uI, if_neg (by omega), e24, mI_uI, if_neg (by omega)]; exact h.2.2.1.2.2.2.2
  · change i < sN σ + 1 at hi
    show mI M30 (s + 1) i = nI (if i = sN σ then c else sCh σ i) ∧ mI M30 (s + 2) i = nI (if i = sN σ then v else sVa σ i)
    have e1 : mI M30 (s + 1) i = if i = sN σ then nI c else mI M (s + 1) i := by
      rw [e30, mI_uI, if_neg (show ¬ s + 1 = s by omega), e27, mI_uI, if_neg (show ¬ s + 1 = s + 2 by omega), e24, mI_uI, if_pos rfl]
    have e2 : mI M30 (s + 2) i = if i = sN σ then nI v else mI M (s + 2) i := by
      rw [e30, mI_uI, if_neg (show ¬ s + 2 = s by omega), e27, mI_uI, if_pos rfl, e24, mI_uI, if_neg (show ¬ s + 2 = s + 1 by omega)]
    rw [e1, e2]
    by_cases e : i = sN σ
    · rw [if_pos e, if_pos e, if_pos e, if_pos e]; exact ⟨rfl, rfl⟩
    · rw [if_neg e, if_neg e, if_neg e, if_neg e]; exact h.2.2.2.1 i (by omega)
  · show mI M30 (s + 3) j = nI (sKd σ j) ∧ mI M30 (s + 4) j = nI (sPt σ j) ∧ mI M30 (s + 5) j = nI (sLi σ j)
    have g : Fr (fun x => x = s ∨ x = s + 1 ∨ x = s + 2) M M30 := by
      rw [e30, e27, e24]
      exact ((Fr.uI (Or.inr (Or.inl rfl))).t2 (Fr.uI (Or.inr (Or.inr rfl)))).t2 (Fr.uI (Or.inl rfl))
    rw [g.I (by omega), g.I (by omega), g.I (by omega)]
    exact h.2.2.2.2 j hj
theorem S_X6_addSort {k p l : Nat} (h : StAt M s σ) (hk : k < 1000) (hp : p < 1000) (hl : l < 1000) (h1 : canC σ k p l → ∀ M', Fr (stA s) M M' → StAt M' s (addC σ k p l) → Q 1 M') (h0 : ¬ canC σ k p l → Q 0 M) : wp_X6_addSort s (nI k) (nI p) (nI l) M Q := by
  obtain ⟨-, -, w3, -, -, w6, -⟩ := h.2.1
  have f3 := h.2.2.1.2.1
  have a6 : (6 : Int32) ≤ nI (sS σ) ↔ 6 ≤ sS σ := nI_le31 (a := 6) (by omega) (by omega)
  have a4 : (4 : Int32) < nI k ↔ 4 < k := nI_lt31 (a := 4) (by omega) (by omega)
  have a9 : (99 : Int32) < nI l ↔ 99 < l := nI_lt31 (a := 99) (by omega) (by omega)
  have aS : nI p ≤ 100 - nI (sumN (sPt σ) (sS σ)) ↔ p + sumN (sPt σ) (sS σ) ≤ 100 := by
    rw [show (100 : Int32) = nI 100 from rfl, pk_sub w6, nI_le31 (by omega) (by omega)]; omega
  unfold wp_X6_addSort
  rw [f3]
  refine ⟨h.1.1, fun q => h0 (by have := a6.mp q; omega), fun q => ⟨fun q1 => absurd q1 (nI_pos (by omega)), fun _ => ⟨fun q1 => h0 (by have := a4.mp q1; omega), fun q1 => ⟨fun q2 => absurd q2 (nI_pos (by omega)), fun _ => ⟨fun q2 => absurd q2 (nI_pos (by omega)), fun _ => ⟨fun q3 => h0 (by have := a9.mp q3; omega), fun q3 => S_X6_allHundredths h ⟨fun q4 => ?_, fun q4 => h0 (by have := mt aS.mpr q4; omega)⟩⟩⟩⟩⟩⟩⟩
  have q := mt a6.mpr q
  have q1 := mt a4.mpr q1
  have q3 := mt a9.mpr q3
  have q4 := aS.mp q4
  have can : sS σ < 6 ∧ k ≤ 4 ∧ l ≤ 99 ∧ p + sumN (sPt σ) (sS σ) ≤ 100 := ⟨by omega, by omega, by omega, q4⟩
  rw [h.1.2.1.2.2.1, h.1.2.2.2.2.2.1, f3, nI_clamp (by omega)]
  refine ⟨h.1.1, h.1.2.2.1.2.2.1, vp_in_nI (by omega) (by omega), fun M24 e24 => ?_⟩
  have i24 : mI M24 s 3 = nI (sS σ) := by rw [e24, mI_uI, if_neg (by omega)]; exact f3
  rw [i24, nI_clamp (by omega), show mR M24 s 5 = s + 4 by rw [e24]; exact h.1.2.1.2.2.2.1, show mN M24 (s + 4) = 6 by rw [e24]; exact h.1.2.2.2.2.2.2.1]
  refine ⟨by rw [e24]; exact h.1.2.2.1.2.2.2.1, vp_in_nI (by omega) (by omega), fun M27 e27 => ?_⟩
  have i27 : mI M27 s 3 = nI (sS σ) := by rw [e27, mI_uI, if_neg (by omega)]; exact i24
  rw [i27, nI_clamp (by omega), show mR M27 s 6 = s + 5 by rw [e27, e24]; exact h.1.2.1.2.2.2.2.1, show mN M27 (s + 5) = 6 by rw [e27, e24]; exact h.1.2.2.2.2.2.2.2.1]
  refine ⟨by rw [e27, e24]; exact h.1.2.2.1.2.2.2.2.1, vp_in_nI (by omega) (by omega), fun M30 e30 M33 e33 => ?_⟩
  rw [show mI M30 s 3 = nI (sS σ) by rw [e30, mI_uI, if_neg (by omega)]; exact i27, nI_1] at e33
  have g : Fr (fun x => x = s ∨ x = s + 3 ∨ x = s + 4 ∨ x = s + 5) M M33 := by
    rw [e33, e30, e27, e24]
    exact (((Fr.uI (Or.inr (Or.inl rfl))).t2 (Fr.uI (Or.inr (Or.inr (Or.inl rfl))))).t2 (Fr.uI (Or.inr (Or.inr (Or.inr rfl))))).t2 (Fr.uI (Or.inl rfl))
  have old : ∀ q, q ≠ 3 → mI M33 s q = mI M s q := fun q hq => by
    rw [e33, mI_uI, if_pos rfl, if_neg hq, e30, mI_uI, if_neg (by omega), e27, mI_uI, if_neg (by omega), e24, mI_uI, if_neg (by omega)]
  refine h1 can M33 (g.mono (fun x hx => by simp only [stA]; omega)) ⟨h.1.fr g, addC_wf h.2.1 can, ⟨?_, ?_, ?_, ?_, ?_⟩, fun i hi => ?_, fun j hj => ?_⟩
  · rw [old 0 (by decide)]; exact h.2.2.1.1
  · rw [e33, mI_uI, if_pos rfl, if_pos rfl]; rfl
  · rw [old 7 (by decide)]; exact h.2.2.1.2.2.1
  · rw [old 8 (by decide)]; exact h.2.2.1.2.2.2.1
  · rw [old 9 (by decide)]; exact h.2.2.1.2.2.2.2
  · rw [g.I (by omega), g.I (by omega)]; exact h.2.2.2.1 i hi
  · change j < sS σ + 1 at hj
    show mI M33 (s + 3) j = nI (if j = sS σ then k else sKd σ j) ∧ mI M33 (s + 4) j = nI (if j = sS σ then p else sPt σ j) ∧ mI M33 (s + 5) j = nI (if j = sS σ then l else sLi σ j)
    have e3 : mI M33 (s + 3) j = if j = sS σ then nI k else mI M (s + 3) j := by
      rw [e33, mI_uI, if_neg (by omega), e30, mI_uI, if_neg (by omega), e27, mI_uI, if_neg (by omega), e24, mI_uI, if_pos rfl]
    have e4 : mI M33 (s + 4) j = if j = sS σ then nI p else mI M (s + 4) j := by
      rw [e33, mI_uI, if_neg (by omega), e30, mI_uI, if_neg (by omega), e27, mI_uI, if_pos rfl, e24, mI_uI, if_neg (show ¬ s + 4 = s + 3 by omega)]
    have e5 : mI M33 (s + 5) j = if j = sS σ then nI l else mI M (s + 5) j := by
      rw [e33, mI_uI, if_neg (by omega), e30, mI_uI, if_pos rfl, e27, mI_uI, if_neg (show ¬ s + 5 = s + 4 by omega), e24, mI_uI, if_neg (show ¬ s + 5 = s + 3 by omega)]
    rw [e3, e4, e5]
    by_cases e : j = sS σ
    · rw [if_pos e, if_pos e, if_pos e, if_pos e, if_pos e, if_pos e]; exact ⟨rfl, rfl, rfl⟩
    · rw [if_neg e, if_neg e, if_neg e, if_neg e, if_neg e, if_neg e]; exact h.2.2.2.2 j (by omega)
end STREET
