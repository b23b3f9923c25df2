/-! STREETS: a street's numbers, where they lie, what its methods answer -/
abbrev StT : Type := Nat × (Nat → Nat) × (Nat → Nat) × Nat × (Nat → Nat) × (Nat → Nat) × (Nat → Nat) × Nat × Nat × Nat
def sN (σ : StT) : Nat := σ.1
def sCh (σ : StT) : Nat → Nat := σ.2.1
def sVa (σ : StT) : Nat → Nat := σ.2.2.1
def sS (σ : StT) : Nat := σ.2.2.2.1
def sKd (σ : StT) : Nat → Nat := σ.2.2.2.2.1
def sPt (σ : StT) : Nat → Nat := σ.2.2.2.2.2.1
def sLi (σ : StT) : Nat → Nat := σ.2.2.2.2.2.2.1
def sMo (σ : StT) : Nat := σ.2.2.2.2.2.2.2.1
def sCo (σ : StT) : Nat := σ.2.2.2.2.2.2.2.2.1
def sHo (σ : StT) : Nat := σ.2.2.2.2.2.2.2.2.2
def sWF (σ : StT) : Prop := sN σ ≤ 6 ∧ (∀ i, i < sN σ → 1 ≤ sCh σ i ∧ sCh σ i ≤ 100 ∧ sVa σ i ≤ 99) ∧ sS σ ≤ 6 ∧ (∀ j, j < sS σ → sKd σ j ≤ 4 ∧ sPt σ j ≤ 100 ∧ sLi σ j ≤ 99) ∧ sumN (sCh σ) (sN σ) ≤ 100 ∧ sumN (sPt σ) (sS σ) ≤ 100 ∧ sMo σ ≤ 20 ∧ sCo σ ≤ 9 ∧ 1 ≤ sHo σ ∧ sHo σ ≤ 6
def sReady (σ : StT) : Prop := sumN (sCh σ) (sN σ) = 100
/-- who would buy at an ask, sell at a bid -/
abbrev wbuy (kd li va ask : Nat) : Prop := (kd = 0 ∧ ask ≤ li) ∨ (kd = 2 ∧ ask < va) ∨ (kd = 3 ∧ ask + li < va)
abbrev wsel (kd li va bid : Nat) : Prop := (kd = 1 ∧ li ≤ bid) ∨ (kd = 2 ∧ va < bid) ∨ (kd = 3 ∧ va + li < bid)
def bit (p : Prop) [Decidable p] (x : Nat) : Nat := if p then x else 0
theorem bit_t {p : Prop} [Decidable p] {x : Nat} (h : p) : bit p x = x := if_pos h
theorem bit_f {p : Prop} [Decidable p] {x : Nat} (h : ¬ p) : bit p x = 0 := if_neg h
theorem bit_le {p : Prop} [Decidable p] {x : Nat} : bit p x ≤ x := by
  by_cases h : p
  · rw [bit_t h]; exact Nat.le_refl _
  · rw [bit_f h]; exact Nat.zero_le _
def buyAt (σ : StT) (i p : Nat) : Nat := sumN (fun j => bit (wbuy (sKd σ j) (sLi σ j) (sVa σ i) p) (sPt σ j)) (sS σ)
def selAt (σ : StT) (i p : Nat) : Nat := sumN (fun j => bit (wsel (sKd σ j) (sLi σ j) (sVa σ i) p) (sPt σ j)) (sS σ)
theorem sum_bit_le {f : Nat → Prop} [DecidablePred f] {g : Nat → Nat} : ∀ n, sumN (fun j => bit (f j) (g j)) n ≤ sumN g n
  | 0 => Nat.le_refl _
  | n + 1 => by
    have := sum_bit_le (f := f) (g := g) n
    have := bit_le (p := f n) (x := g n)
    simp only [sumN]
    omega
theorem buyAt_le {σ : StT} (h : sWF σ) (i p : Nat) : buyAt σ i p ≤ 100 := Nat.le_trans (sum_bit_le _) h.2.2.2.2.2.1
theorem selAt_le {σ : StT} (h : sWF σ) (i p : Nat) : selAt σ i p ≤ 100 := Nat.le_trans (sum_bit_le _) h.2.2.2.2.2.1
/-- the cells of a street -/
def StOK (M : Mem) (s : Nat) : Prop := mK M s = 7 ∧ (mR M s 1 = s + 1 ∧ mR M s 2 = s + 2 ∧ mR M s 4 = s + 3 ∧ mR M s 5 = s + 4 ∧ mR M s 6 = s + 5 ∧ mR M s 10 = s + 6 ∧ mR M s 11 = s + 7) ∧ (mK M (s + 1) = 20 ∧ mK M (s + 2) = 20 ∧ mK M (s + 3) = 20 ∧ mK M (s + 4) = 20 ∧ mK M (s + 5) = 20 ∧ mK M (s + 6) = 20 ∧ mK M (s + 7) = 20) ∧ mN M (s + 1) = 6 ∧ mN M (s + 2) = 6 ∧ mN M (s + 3) = 6 ∧ mN M (s + 4) = 6 ∧ mN M (s + 5) = 6 ∧ mN M (s + 6) = 606 ∧ mN M (s + 7) = 606
def StAt (M : Mem) (s : Nat) (σ : StT) : Prop := StOK M s ∧ sWF σ ∧ (mI M s 0 = nI (sN σ) ∧ mI M s 3 = nI (sS σ) ∧ mI M s 7 = nI (sMo σ) ∧ mI M s 8 = nI (sCo σ) ∧ mI M s 9 = nI (sHo σ)) ∧ (∀ i, i < sN σ → mI M (s + 1) i = nI (sCh σ i) ∧ mI M (s + 2) i = nI (sVa σ i)) ∧ ∀ j, j < sS σ → mI M (s + 3) j = nI (sKd σ j) ∧ mI M (s + 4) j = nI (sPt σ j) ∧ mI M (s + 5) j = nI (sLi σ j)
def StTb (M : Mem) (s : Nat) (σ : StT) : Prop := StAt M s σ ∧ ∀ i, i < sN σ → ∀ p, p ≤ 100 → mI M (s + 6) (101 * i + p) = nI (buyAt σ i p) ∧ mI M (s + 7) (101 * i + p) = nI (selAt σ i p)
theorem for_up (P : Nat → Nat → Prop) (n : Nat) (hend : ∀ m, P (m + 1) n) (hstep : ∀ m i, i < n → P m (i + 1) → P (m + 1) i) : ∃ m, P m 0 := by
  have key : ∀ j i, i + j = n → P (j + 1) i := by
    intro j
    induction j with
    | zero => intro i h; rw [Nat.add_zero] at h; rw [h]; exact hend 0
    | succ j ih => intro i h; exact hstep _ i (by omega) (ih (i + 1) (by omega))
  exact ⟨n + 1, key n 0 (by omega)⟩
theorem nI_lt31 {a b : Nat} (ha : a < 2147483648) (hb : b < 2147483648) : nI a < nI b ↔ a < b := nI_ltI ha hb
theorem nI_le31 {a b : Nat} (ha : a < 2147483648) (hb : b < 2147483648) : nI a ≤ nI b ↔ a ≤ b := nI_leI ha hb
section STREET
variable {M : Mem} {s : Nat} {σ : StT} {Q : Int32 → Mem → Prop}
theorem S_X6_allChances (h : StAt M s σ) (hQ : Q (nI (sumN (sCh σ) (sN σ))) M) : wp_X6_allChances s M Q := by
  obtain ⟨⟨hk, ⟨r1, r2, -⟩, ⟨k1, k2, -⟩, n1, n2, -⟩, ⟨w1, w2, -⟩, ⟨f0, -⟩, ha, -⟩ := h
  refine for_up (fun m i => lp_X6_allChances_4 Q m s (nI (sumN (sCh σ) i)) (nI i) M) (sN σ) (fun m => ?_) (fun m i hi ih => ?_)
  · unfold lp_X6_allChances_4
    exact ⟨hk, fun _ => hQ, fun hn => absurd (by rw [f0]; exact nI_le (Nat.le_refl _) (by omega)) hn⟩
  · unfold lp_X6_allChances_4
    refine ⟨hk, fun hle => absurd (by rw [f0] at hle; exact hle) (nI_ge hi (by omega)), fun _ => ?_⟩
    rw [r1]
    refine ⟨k1, by rw [n1]; exact vp_in_nI (by omega) (by omega), fun y hy => ?_⟩
    rw [hy, nI_clamp (by omega), (ha i hi).1, nI_add, nI_1]
    exact ih
theorem S_X6_allHundredths (h : StAt M s σ) (hQ : Q (nI (sumN (sPt σ) (sS σ))) M) : wp_X6_allHundredths s M Q := by
  obtain ⟨⟨hk, ⟨-, -, -, r5, -⟩, ⟨-, -, -, k4, -⟩, -, -, -, n4, -⟩, ⟨-, -, w3, -⟩, ⟨-, f3, -⟩, -, hb⟩ := h
  refine for_up (fun m i => lp_X6_allHundredths_4 Q m s (nI (sumN (sPt σ) i)) (nI i) M) (sS σ) (fun m => ?_) (fun m i hi ih => ?_)
  · unfold lp_X6_allHundredths_4
    exact ⟨hk, fun _ => hQ, fun hn => absurd (by rw [f3]; exact nI_le (Nat.le_refl _) (by omega)) hn⟩
  · unfold lp_X6_allHundredths_4
    refine ⟨hk, fun hle => absurd (by rw [f3] at hle; exact hle) (nI_ge hi (by omega)), fun _ => ?_⟩
    rw [r5]
    refine ⟨k4, by rw [n4]; exact vp_in_nI (by omega) (by omega), fun y hy => ?_⟩
    rw [hy, nI_clamp (by omega), (hb i hi).2.1, nI_add, nI_1]
    exact ih
theorem S_X6_isReady (h : StAt M s σ) (h1 : sReady σ → Q 1 M) (h0 : ¬ sReady σ → Q 0 M) : wp_X6_isReady s M Q := by
  refine ⟨h.1.1, S_X6_allChances h ?_⟩
  have hle : sumN (sCh σ) (sN σ) ≤ 100 := h.2.1.2.2.2.2.1
  have e : nI (sumN (sCh σ) (sN σ)) = (100 : Int32) ↔ sReady σ := nI_eq (b := 100) (by omega) (by omega)
  exact ⟨fun q => h0 (fun z => q (e.mpr z)), fun q => h1 (e.mp q)⟩
theorem S_X6_wouldBuy {j : Nat} {va ask : Nat} (h : StAt M s σ) (hj : j < sS σ) (hva : va ≤ 99) (hask : ask ≤ 100) (h1 : wbuy (sKd σ j) (sLi σ j) va ask → Q 1 M) (h0 : ¬ wbuy (sKd σ j) (sLi σ j) va ask → Q 0 M) : wp_X6_wouldBuy s (nI j) (nI va) (nI ask) M Q := by
  obtain ⟨⟨hk, ⟨-, -, r4, r5, r6, -⟩, ⟨-, -, k3, k4, k5, -⟩, -, -, n3, n4, n5, -⟩, ⟨-, -, w3, w4, -⟩, -, -, hb⟩ := h
  obtain ⟨b1, b2, b3⟩ := hb j hj
  obtain ⟨c1, c2, c3⟩ := w4 j hj
  unfold wp_X6_wouldBuy
  have hin : vp_in (nI j) 6 := vp_in_nI (by omega) (by omega)
  rw [r4, r6, n3, n5, nI_clamp (by omega), b1, b3]
  unfold wbuy at h1 h0
  generalize sKd σ j = kd at *
  generalize sLi σ j = li at *
  have e9 : nI va - nI ask ≤ nI li ↔ va ≤ ask + li := by
    rw [nI_iI, nI_iI, nI_iI, iI_sub, iI_le (by omega) (by omega)]
    omega
  refine ⟨hk, k3, hin, fun q => ?_, fun q => ⟨k5, hin, fun z => ?_, fun z => ?_⟩, fun q => ?_, fun q => ⟨fun z => ?_, fun z => ?_⟩, fun q => ⟨k5, hin, fun z => ?_, fun z => ?_⟩⟩
  · rw [nI_toInt (by omega)] at q
    exact h0 (by omega)
  · have q : kd = 0 := (nI_eq (b := 0) (by omega) (by omega)).mp q
    have z := (nI_lt31 (by omega) (by omega)).mp z
    exact h0 (by omega)
  · have q : kd = 0 := (nI_eq (b := 0) (by omega) (by omega)).mp q
    have z := mt (nI_lt31 (by omega) (by omega)).mpr z
    exact h1 (by omega)
  · have q : kd = 1 := (nI_eq (b := 1) (by omega) (by omega)).mp q
    exact h0 (by omega)
  · have q : kd = 2 := (nI_eq (b := 2) (by omega) (by omega)).mp q
    have z := (nI_le31 (by omega) (by omega)).mp z
    exact h0 (by omega)
  · have q : kd = 2 := (nI_eq (b := 2) (by omega) (by omega)).mp q
    have z := mt (nI_le31 (by omega) (by omega)).mpr z
    exact h1 (by omega)
  · have q : kd = 3 := (nI_eq (b := 3) (by omega) (by omega)).mp q
    have z := e9.mp z
    exact h0 (by omega)
  · have q : kd = 3 := (nI_eq (b := 3) (by omega) (by omega)).mp q
    have z := mt e9.mpr z
    exact h1 (by omega)
theorem S_X6_wouldSell {j : Nat} {va bid : Nat} (h : StAt M s σ) (hj : j < sS σ) (hva : va ≤ 99) (hbid : bid ≤ 100) (h1 : wsel (sKd σ j) (sLi σ j) va bid → Q 1 M) (h0 : ¬ wsel (sKd σ j) (sLi σ j) va bid → Q 0 M) : wp_X6_wouldSell s (nI j) (nI va) (nI bid) M Q := by
  obtain ⟨⟨hk, ⟨-, -, r4, r5, r6, -⟩, ⟨-, -, k3, k4, k5, -⟩, -, -, n3, n4, n5, -⟩, ⟨-, -, w3, w4, -⟩, -, -, hb⟩ := h
  obtain ⟨b1, b2, b3⟩ := hb j hj
  obtain ⟨c1, c2, c3⟩ := w4 j hj
  unfold wp_X6_wouldSell
  have hin : vp_in (nI j) 6 := vp_in_nI (by omega) (by omega)
  rw [r4, r6, n3, n5, nI_clamp (by omega), b1, b3]
  unfold wsel at h1 h0
  generalize sKd σ j = kd at *
  generalize sLi σ j = li at *
  have e9 : nI bid - nI va ≤ nI li ↔ bid ≤ va + li := by
    rw [nI_iI, nI_iI, nI_iI, iI_sub, iI_le (by omega) (by omega)]
    omega
  refine ⟨hk, k3, hin, fun q => ?_, fun q => ⟨k5, hin, fun z => ?_, fun z => ?_⟩, fun q => ⟨fun z => ?_, fun z => ?_⟩, fun q => ⟨k5, hin, fun z => ?_, fun z => ?_⟩⟩
  · rw [nI_toInt (by omega)] at q
    exact h0 (by omega)
  · have q : kd = 1 := (nI_eq (b := 1) (by omega) (by omega)).mp q
    have z := (nI_lt31 (by omega) (by omega)).mp z
    exact h0 (by omega)
  · have q : kd = 1 := (nI_eq (b := 1) (by omega) (by omega)).mp q
    have z := mt (nI_lt31 (by omega) (by omega)).mpr z
    exact h1 (by omega)
  · have q : kd = 2 := (nI_eq (b := 2) (by omega) (by omega)).mp q
    have z := (nI_le31 (by omega) (by omega)).mp z
    exact h0 (by omega)
  · have q : kd = 2 := (nI_eq (b := 2) (by omega) (by omega)).mp q
    have z := mt (nI_le31 (by omega) (by omega)).mpr z
    exact h1 (by omega)
  · have q : kd = 3 := (nI_eq (b := 3) (by omega) (by omega)).mp q
    have z := e9.mp z
    exact h0 (by omega)
  · have q : kd = 3 := (nI_eq (b := 3) (by omega) (by omega)).mp q
    have z := mt e9.mpr z
    exact h1 (by omega)
end STREET
