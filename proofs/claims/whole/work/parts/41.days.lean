/-! DAYS: where they lie; the odds as the comers' sums; a day lived -/
def alw (σ : StT) (h : Int) (e : Nat) : Nat := if e = 1 then (if -(sMo σ : Int) < h then 1 else 0) else if e = 2 then (if h < (sMo σ : Int) then 2 else 0) else e
theorem alw_le {σ : StT} {h : Int} {e : Nat} (he : e ≤ 2) : alw σ h e ≤ 2 := by
  unfold alw
  split
  · split <;> omega
  · split
    · split <;> omega
    · omega
def hun (σ : StT) (h : Int) (ev i b a : Nat) : Nat := (if ev = 0 then 100 - sumN (sPt σ) (sS σ) else 0) + sumN (fun j => bit (alw σ h (sDeal σ j (sVa σ i) b a) = ev) (sPt σ j)) (sS σ)
theorem sum_bit3 {f : Nat → Nat} {w : Nat → Nat} : ∀ n, (∀ j, f j ≤ 2) → sumN (fun j => bit (f j = 0) (w j)) n + sumN (fun j => bit (f j = 1) (w j)) n + sumN (fun j => bit (f j = 2) (w j)) n = sumN w n
  | 0, _ => rfl
  | n + 1, h => by
    have h1 := sum_bit3 (f := f) (w := w) n h
    have h2 := h n
    simp only [sumN]
    have c : f n = 0 ∨ f n = 1 ∨ f n = 2 := by omega
    rcases c with c | c | c
    · rw [bit_t (p := f n = 0) c, bit_f (p := f n = 1) (by omega), bit_f (p := f n = 2) (by omega)]; omega
    · rw [bit_f (p := f n = 0) (by omega), bit_t (p := f n = 1) c, bit_f (p := f n = 2) (by omega)]; omega
    · rw [bit_f (p := f n = 0) (by omega), bit_f (p := f n = 1) (by omega), bit_t (p := f n = 2) c]; omega
theorem bit_iff {p q : Prop} [Decidable p] [Decidable q] {x : Nat} (h : p ↔ q) : bit p x = bit q x := by
  by_cases c : p
  · rw [bit_t c, bit_t (h.mp c)]
  · rw [bit_f c, bit_f (mt h.mpr c)]
theorem sum_bit0 {f : Nat → Prop} [DecidablePred f] {w : Nat → Nat} : ∀ n, (∀ j, ¬ f j) → sumN (fun j => bit (f j) (w j)) n = 0
  | 0, _ => rfl
  | n + 1, h => by
    simp only [sumN]
    rw [sum_bit0 (f := f) (w := w) n h, bit_f (h n)]
theorem odB_hun {σ : StT} {h : Int} {i b a : Nat} : odB σ h i a = sumN (fun j => bit (alw σ h (sDeal σ j (sVa σ i) b a) = 1) (sPt σ j)) (sS σ) := by
  unfold odB
  by_cases c : -(sMo σ : Int) < h
  · rw [if_pos c]
    refine sumN_congr _ (fun j _ => bit_iff ?_)
    unfold alw sDeal dealN
    split
    · rename_i q; simp [q, c]
    · rename_i q
      split
      · rw [if_neg (by decide), if_pos rfl]; split <;> exact ⟨fun z => absurd z q, fun z => absurd z (by decide)⟩
      · rename_i q2; simp [q, q2]
  · rw [if_neg c]
    refine (sum_bit0 _ (fun j => ?_)).symm
    unfold alw
    split
    · simp
    · split
      · split <;> decide
      · rename_i q _; exact q
theorem odS_hun {σ : StT} {h : Int} {i b a : Nat} (hba : b < a) : odS σ h i b = sumN (fun j => bit (alw σ h (sDeal σ j (sVa σ i) b a) = 2) (sPt σ j)) (sS σ) := by
  unfold odS
  by_cases c : h < (sMo σ : Int)
  · rw [if_pos c]
    refine sumN_congr _ (fun j _ => bit_iff ?_)
    have nb := no_both (kd := sKd σ j) (li := sLi σ j) (va := sVa σ i) hba
    unfold alw sDeal dealN
    split
    · rename_i q
      rw [if_pos rfl]
      split <;> exact ⟨fun z => absurd ⟨q, z⟩ nb, fun z => absurd z (by decide)⟩
    · split
      · rename_i q; simp [q, c]
      · rename_i q; simp [q]
  · rw [if_neg c]
    refine (sum_bit0 _ (fun j => ?_)).symm
    unfold alw
    split
    · split <;> decide
    · split
      · simp
      · rename_i q; exact q
theorem odds_hun {σ : StT} (hw : sWF σ) {h : Int} {ev i b a : Nat} (hev : ev ≤ 2) (hba : b < a) : odds σ h ev i b a = hun σ h ev i b a := by
  have e1 := odB_hun (σ := σ) (h := h) (i := i) (b := b) (a := a)
  have e2 := odS_hun (σ := σ) (h := h) (i := i) hba
  have e3 := sum_bit3 (f := fun j => alw σ h (sDeal σ j (sVa σ i) b a)) (w := sPt σ) (sS σ) (fun j => alw_le (dealN_le _ _ _ _ _))
  have e4 := hw.2.2.2.2.2.1
  unfold odds hun
  have c : ev = 0 ∨ ev = 1 ∨ ev = 2 := by omega
  rcases c with c | c | c
  · subst c
    rw [if_neg (by decide), if_neg (by decide), if_pos rfl]
    omega
  · subst c
    rw [if_pos rfl, if_neg (by decide)]
    omega
  · subst c
    rw [if_neg (by decide), if_pos rfl, if_neg (by decide)]
    omega
theorem sum_bit_ge {f : Nat → Prop} [DecidablePred f] {w : Nat → Nat} {j : Nat} : ∀ n, j < n → f j → w j ≤ sumN (fun j => bit (f j) (w j)) n
  | 0, h, _ => absurd h (by omega)
  | n + 1, h, hf => by
    simp only [sumN]
    by_cases e : j = n
    · subst e; rw [bit_t hf]; omega
    · have := sum_bit_ge (f := f) (w := w) n (by omega) hf
      omega
/-- the event drawn -/
def drw (z : Int32) : Nat := z.toBitVec.toNat % 2 ^ 31 / 65536 % 100
def evU (σ : StT) (h : Int) (va b a dr : Nat) : Nat → Nat
  | 0 => 0
  | j + 1 => if dr < sumN (sPt σ) j then evU σ h va b a dr j else if dr < sumN (sPt σ) (j + 1) then alw σ h (sDeal σ j va b a) else 0
theorem evU_stay {σ : StT} {h : Int} {va b a dr j : Nat} (hd : dr < sumN (sPt σ) j) : ∀ m, evU σ h va b a dr (j + m) = evU σ h va b a dr j
  | 0 => rfl
  | m + 1 => by
    have := sumN_mono (f := sPt σ) (i := j) (n := j + m) (by omega)
    show (if dr < sumN (sPt σ) (j + m) then evU σ h va b a dr (j + m) else _) = _
    rw [if_pos (by omega), evU_stay hd m]
theorem evU_le {σ : StT} {h : Int} {va b a dr : Nat} : ∀ m, evU σ h va b a dr m ≤ 2
  | 0 => Nat.zero_le _
  | m + 1 => by
    unfold evU
    split
    · exact evU_le m
    · split
      · exact alw_le (dealN_le _ _ _ _ _)
      · omega
theorem evU_odds {σ : StT} {h : Int} {i b a dr : Nat} (hw : sWF σ) (hba : b < a) (hd : dr < 100) : 0 < odds σ h (evU σ h (sVa σ i) b a dr (sS σ)) i b a := by
  rw [odds_hun hw (evU_le _) hba]
  have key : ∀ m, m ≤ sS σ → (dr < sumN (sPt σ) m → ∃ j, j < m ∧ 0 < sPt σ j ∧ evU σ h (sVa σ i) b a dr m = alw σ h (sDeal σ j (sVa σ i) b a)) ∧ (¬ dr < sumN (sPt σ) m → evU σ h (sVa σ i) b a dr m = 0) := by
    intro m
    induction m with
    | zero => intro _; exact ⟨fun z => absurd z (by simp [sumN]), fun _ => rfl⟩
    | succ m ih =>
      intro hm
      have ih := ih (by omega)
      have mono := sumN_mono (f := sPt σ) (i := m) (n := m + 1) (by omega)
      unfold evU
      by_cases c : dr < sumN (sPt σ) m
      · rw [if_pos c]
        obtain ⟨j, h1, h2, h3⟩ := ih.1 c
        exact ⟨fun _ => ⟨j, by omega, h2, h3⟩, fun z => absurd (by omega) z⟩
      · rw [if_neg c]
        refine ⟨fun z => ?_, fun z => if_neg z⟩
        rw [if_pos z]
        refine ⟨m, by omega, ?_, rfl⟩
        simp only [sumN] at z
        omega
  have k := key (sS σ) (Nat.le_refl _)
  unfold hun
  by_cases c : dr < sumN (sPt σ) (sS σ)
  · obtain ⟨j, h1, h2, h3⟩ := k.1 c
    have := sum_bit_ge (f := fun j => alw σ h (sDeal σ j (sVa σ i) b a) = evU σ h (sVa σ i) b a dr (sS σ)) (w := sPt σ) (sS σ) h1 h3.symm
    omega
  · rw [k.2 c, if_pos rfl]
    omega
section DAYS
variable {M : Mem} {s t : Nat} {σ : StT} {w : Nat → Nat} {hh : Int} {c : Nat} {Q : Int32 → Mem → Prop} {QV0 : Mem → Prop}
theorem S_X0_openTo {e : Nat} (hs : StAt M s σ) (hk : mK M t = 10) (hI : mI M t 1 = iI hh) (hr : -20 ≤ hh ∧ hh ≤ 20) (he : e ≤ 2) (hQ : Q (nI (alw σ hh e)) M) : wp_X0_openTo s t (nI e) M Q := by
  have hm := hs.2.1.2.2.2.2.2.2.1
  have f7 := hs.2.2.1.2.2.1
  have e1 : nI e = (1 : Int32) ↔ e = 1 := nI_eq (b := 1) (by omega) (by omega)
  have e2 : nI e = (2 : Int32) ↔ e = 2 := nI_eq (b := 2) (by omega) (by omega)
  have c1 : -(nI (sMo σ)) < iI hh ↔ -(sMo σ : Int) < hh := by rw [nI_iI, iI_neg, iI_lt (by omega) (by omega)]
  have c2 : iI hh < nI (sMo σ) ↔ hh < (sMo σ : Int) := by rw [nI_iI, iI_lt (by omega) (by omega)]
  unfold alw at hQ
  unfold wp_X0_openTo jn_X0_openTo_19
  rw [f7, hI]
  refine ⟨fun q => ⟨fun z => ?_, fun z => ⟨hk, hs.1.1, fun y => ?_, fun y => ?_⟩⟩, fun q => ⟨hk, hs.1.1, fun y => ⟨fun z => ?_, fun z => ?_⟩, fun y => ?_⟩⟩
  · rw [if_neg (mt e1.mpr q), if_neg (mt e2.mpr z)] at hQ; exact hQ
  · rw [if_neg (mt e1.mpr q), if_pos (e2.mp z), if_pos (c2.mp y)] at hQ; rw [z]; exact hQ
  · rw [if_neg (mt e1.mpr q), if_pos (e2.mp z), if_neg (mt c2.mpr y)] at hQ; exact hQ
  · rw [if_pos (e1.mp q), if_pos (c1.mp y)] at hQ; rw [q]; exact hQ
  · have := e1.mp q
    have := e2.mp z
    omega
  · rw [if_pos (e1.mp q), if_neg (mt c1.mpr y)] at hQ; exact hQ
theorem S_X0_eventBy {va b a : Nat} {z : Int32} (hs : StAt M s σ) (hk : mK M t = 10) (hI : mI M t 1 = iI hh) (hr : -20 ≤ hh ∧ hh ≤ 20) (hva : va ≤ 99) (hb : b ≤ 100) (ha : a ≤ 100) (hQ : Q (nI (evU σ hh va b a (drw z) (sS σ))) M) : wp_X0_eventBy s t (nI va) z (nI b) (nI a) M Q := by
  have h6 := hs.2.1.2.2.1
  have f3 := hs.2.2.1.2.1
  have hz : ((z &&& 2147483647) / 65536) - ((z &&& 2147483647) / 65536) / 100 * 100 = nI (drw z) := by
    rw [pk_and z 31 (by decide), show (65536 : Int32) = nI 65536 from rfl, show (100 : Int32) = nI 100 from rfl, pk_div (by omega) (by omega) (by omega), pk_rem (by omega) (by omega) (by omega)]
    rfl
  have hd : drw z < 100 := by unfold drw; omega
  intro y hy
  rw [hy, hz]
  have tot := hs.2.1.2.2.2.2.2.1
  have loop := for_up (fun m j => ¬ drw z < sumN (sPt σ) j → lp_X0_eventBy_18 Q m s t (nI va) (nI b) (nI a) (nI (drw z)) (nI (sumN (sPt σ) j)) (nI j) M) (sS σ) (fun m hn => ?_) (fun m j hj ih hn => ?_)
  · obtain ⟨m, hm⟩ := loop
    exact ⟨m, hm (by simp [sumN])⟩
  · unfold lp_X0_eventBy_18
    refine ⟨hs.1.1, fun _ => ?_, fun hn => absurd (by rw [f3]; exact nI_le (Nat.le_refl _) (by omega)) hn⟩
    have e0 : evU σ hh va b a (drw z) (sS σ) = 0 := by
      generalize sS σ = n at *
      cases n with
      | zero => rfl
      | succ n =>
        have := sumN_mono (f := sPt σ) (i := n) (n := n + 1) (by omega)
        unfold evU
        rw [if_neg (by omega), if_neg hn]
    rw [e0] at hQ
    exact hQ
  · have b2 := (hs.2.2.2.2 j hj).2.1
    unfold lp_X0_eventBy_18
    refine ⟨hs.1.1, fun hle => absurd (by rw [f3] at hle; exact hle) (nI_ge hj (by omega)), fun _ => ?_⟩
    rw [hs.1.2.1.2.2.2.1, hs.1.2.2.2.2.2.2.1, nI_clamp (by omega), b2]
    have mono := sumN_mono (f := sPt σ) (i := j + 1) (n := sS σ) (by omega)
    refine ⟨hs.1.2.2.1.2.2.2.1, vp_in_nI (by omega) (by omega), fun y2 hy2 => ?_⟩
    rw [nI_add] at hy2
    change y2 = nI (sumN (sPt σ) (j + 1)) at hy2
    have c : nI (sumN (sPt σ) (j + 1)) ≤ nI (drw z) ↔ sumN (sPt σ) (j + 1) ≤ drw z := nI_le31 (by omega) (by omega)
    rw [hy2, nI_1]
    refine ⟨fun q => ih (by have := c.mp q; omega), fun q => S_X6_dealOf hs hj hva hb ha (S_X0_openTo hs hk hI hr (dealN_le _ _ _ _ _) ?_)⟩
    have q := mt c.mpr q
    have st := evU_stay (σ := σ) (h := hh) (va := va) (b := b) (a := a) (dr := drw z) (j := j + 1) (by omega) (sS σ - (j + 1))
    rw [show j + 1 + (sS σ - (j + 1)) = sS σ by omega] at st
    rw [st] at hQ
    unfold evU at hQ
    rw [if_neg hn, if_pos (by omega)] at hQ
    exact hQ
end DAYS
