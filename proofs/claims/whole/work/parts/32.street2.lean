/-! STREETS, the rest -/
def dealN (kd li va bid ask : Nat) : Nat := if wbuy kd li va ask then 1 else if wsel kd li va bid then 2 else 0
theorem dealN_le (kd li va bid ask : Nat) : dealN kd li va bid ask ≤ 2 := by
  unfold dealN
  split
  · omega
  · split <;> omega
def sDeal (σ : StT) (j va bid ask : Nat) : Nat := dealN (sKd σ j) (sLi σ j) va bid ask
section STREET
variable {M : Mem} {s : Nat} {σ : StT} {Q : Int32 → Mem → Prop} {QJ0 : Int64 → Mem → Prop} {QV0 : Mem → Prop}
theorem S_X6_dealOf {j va bid ask : Nat} (h : StAt M s σ) (hj : j < sS σ) (hva : va ≤ 99) (hbid : bid ≤ 100) (hask : ask ≤ 100) (hQ : Q (nI (sDeal σ j va bid ask)) M) : wp_X6_dealOf s (nI j) (nI va) (nI bid) (nI ask) M Q := by
  unfold sDeal dealN at hQ
  refine ⟨h.1.1, S_X6_wouldBuy h hj hva hask (fun hb => ?_) (fun hb => ?_)⟩
  · rw [if_pos hb] at hQ
    exact ⟨fun q => absurd q (by decide), fun _ => hQ⟩
  · rw [if_neg hb] at hQ
    refine ⟨fun _ => ⟨h.1.1, S_X6_wouldSell h hj hva hbid (fun hs => ?_) (fun hs => ?_)⟩, fun q => absurd rfl q⟩
    · rw [if_pos hs] at hQ
      exact ⟨fun q => absurd q (by decide), fun _ => hQ⟩
    · rw [if_neg hs] at hQ
      exact ⟨fun _ => hQ, fun q => absurd rfl q⟩
theorem S_X6_number {what : Int32} (h : mK M s = 7) (hQ : Q (if what = 0 then mI M s 7 else if what = 1 then mI M s 8 else mI M s 9) M) : wp_X6_number s what M Q := by
  refine ⟨fun a => ⟨fun b => ⟨h, ?_⟩, fun b => ⟨h, ?_⟩⟩, fun a => ⟨h, ?_⟩⟩
  · rw [if_neg a, if_neg b] at hQ; exact hQ
  · rw [if_neg a, if_pos b] at hQ; exact hQ
  · rw [if_pos a] at hQ; exact hQ
theorem S_X6_change {what n : Int32} (h : mK M s = 7) (hm : what = 0 → ¬ n < 0 → ¬ 20 < n → Q 1 (uI M s 7 n)) (hc : what = 1 → ¬ n < 0 → ¬ 9 < n → Q 1 (uI M s 8 n)) (hh : what = 2 → ¬ n < 1 → ¬ 6 < n → Q 1 (uI M s 9 n))
    (h0 : (what = 0 → n < 0 ∨ 20 < n) → (what = 1 → n < 0 ∨ 9 < n) → (what = 2 → n < 1 ∨ 6 < n) → Q 0 M) : wp_X6_change s what n M Q := by
  have k2 : (what = 0 → n < 0 ∨ 20 < n) → (what = 1 → n < 0 ∨ 9 < n) → jn_X6_change_45 Q s what n M := fun a b =>
    ⟨fun c => h0 a b (fun q => absurd q c), fun c => ⟨fun d => h0 a b (fun _ => Or.inl d), fun d => ⟨fun f => h0 a b (fun _ => Or.inr f), fun f => ⟨h, fun M1 e => by rw [e]; exact hh c d f⟩⟩⟩⟩
  have k1 : (what = 0 → n < 0 ∨ 20 < n) → jn_X6_change_22 Q s what n M := fun a =>
    ⟨fun c => k2 a (fun q => absurd q c), fun c => ⟨fun d => k2 a (fun _ => Or.inl d), fun d => ⟨fun f => k2 a (fun _ => Or.inr f), fun f => ⟨h, fun M1 e => by rw [e]; exact hc c d f⟩⟩⟩⟩
  exact ⟨fun c => k1 (fun q => absurd q c), fun c => ⟨fun d => k1 (fun _ => Or.inl d), fun d => ⟨fun f => k1 (fun _ => Or.inr f), fun f => ⟨h, fun M1 e => by rw [e]; exact hm c d f⟩⟩⟩⟩
theorem iAbs_iI {x : Int} (h : -2147483648 < x ∧ x < 2147483648) : iAbs (iI x) = nI x.natAbs := by
  unfold iAbs
  rw [nI_iI]
  have e : (0 : Int32) = iI 0 := rfl
  by_cases q : 0 ≤ x
  · rw [if_pos (by rw [e, iI_le (by omega) (by omega)]; exact q)]
    congr 1; omega
  · rw [if_neg (by rw [e, iI_le (by omega) (by omega)]; exact q), e, iI_sub]
    congr 1; omega
theorem S_X6_costOf {x : Int} (h : StAt M s σ) (hx : -21 ≤ x ∧ x ≤ 21) (hQ : Q (nI (sCo σ * x.natAbs)) M) : wp_X6_costOf s (iI x) M Q := by
  refine ⟨h.1.1, ?_⟩
  rw [h.2.2.1.2.2.2.1, iAbs_iI (by omega), pk_mul]
  exact hQ
def mbc (σ : StT) : Nat := sumN (fun i => sCh σ i * sVa σ i) (sN σ) / 100
theorem mbs_le (h : sWF σ) : ∀ k, k ≤ sN σ → sumN (fun i => sCh σ i * sVa σ i) k ≤ sumN (sCh σ) k * 99
  | 0, _ => by simp [sumN]
  | k + 1, hk => by
    have := mbs_le h k (by omega)
    have h3 := (h.2.1 k (by omega)).2.2
    have := Nat.mul_le_mul_left (sCh σ k) h3
    simp only [sumN, Nat.add_mul]
    omega
theorem S_X6_meanByChances (h : StAt M s σ) (hQ : Q (nI (mbc σ)) M) : wp_X6_meanByChances s M Q := by
  have hwf := h.2.1
  obtain ⟨⟨hk, ⟨r1, r2, -⟩, ⟨k1, k2, -⟩, n1, n2, -⟩, ⟨w1, w2, -, -, w5, -⟩, ⟨f0, -⟩, ha, -⟩ := h
  refine for_up (fun m i => lp_X6_meanByChances_4 Q m s (nI (sumN (fun i => sCh σ i * sVa σ i) i)) (nI i) M) (sN σ) (fun m => ?_) (fun m i hi ih => ?_)
  · unfold lp_X6_meanByChances_4
    refine ⟨hk, fun _ => ?_, fun hn => absurd (by rw [f0]; exact nI_le (Nat.le_refl _) (by omega)) hn⟩
    have := mbs_le hwf (sN σ) (Nat.le_refl _)
    rw [show (100 : Int32) = nI 100 from rfl, pk_div (by omega) (by omega) (by omega)]
    exact hQ
  · unfold lp_X6_meanByChances_4
    refine ⟨hk, fun hle => absurd (by rw [f0] at hle; exact hle) (nI_ge hi (by omega)), fun _ => ?_⟩
    rw [r1, r2, n1, n2]
    refine ⟨k1, vp_in_nI (by omega) (by omega), k2, vp_in_nI (by omega) (by omega), fun y hy => ?_⟩
    rw [hy, nI_clamp (by omega), (ha i hi).1, (ha i hi).2, pk_mul, nI_add, nI_1]
    exact ih
theorem S_X6_knowersOf {ev i bid ask : Nat} (h : StAt M s σ) (hev : ev ≤ 2) (hi : i < sN σ) (hbid : bid ≤ 100) (hask : ask ≤ 100) (hQ : Q (nI (sumN (fun j => bit ((sKd σ j = 2 ∨ sKd σ j = 3) ∧ sDeal σ j (sVa σ i) bid ask = ev) (sPt σ j)) (sS σ))) M) : wp_X6_knowersOf s (nI ev) (nI i) (nI bid) (nI ask) M Q := by
  have h' := h
  obtain ⟨⟨hk, ⟨r1, r2, r4, r5, -⟩, ⟨k1, k2, k3, k4, -⟩, n1, n2, n3, n4, -⟩, ⟨w1, w2, w3, w4, -⟩, ⟨f0, f3, -⟩, ha, hb⟩ := h'
  refine for_up (fun m j => lp_X6_knowersOf_6 Q m s (nI ev) (nI i) (nI bid) (nI ask) (nI (sumN (fun j => bit ((sKd σ j = 2 ∨ sKd σ j = 3) ∧ sDeal σ j (sVa σ i) bid ask = ev) (sPt σ j)) j)) (nI j) M) (sS σ) (fun m => ?_) (fun m j hj ih => ?_)
  · unfold lp_X6_knowersOf_6
    exact ⟨hk, fun _ => hQ, fun hn => absurd (by rw [f3]; exact nI_le (Nat.le_refl _) (by omega)) hn⟩
  · obtain ⟨b1, b2, b3⟩ := hb j hj
    obtain ⟨c1, c2, c3⟩ := w4 j hj
    have hva := (w2 i hi).2.2
    simp only [sumN] at ih
    have next0 : ¬ ((sKd σ j = 2 ∨ sKd σ j = 3) ∧ sDeal σ j (sVa σ i) bid ask = ev) → lp_X6_knowersOf_6 Q m s (nI ev) (nI i) (nI bid) (nI ask) (nI (sumN (fun j => bit ((sKd σ j = 2 ∨ sKd σ j = 3) ∧ sDeal σ j (sVa σ i) bid ask = ev) (sPt σ j)) j)) (nI j + 1) M := fun q => by
      rw [bit_f q, Nat.add_zero] at ih
      rw [nI_1]; exact ih
    have knows : (sKd σ j = 2 ∨ sKd σ j = 3) → jn_X6_knowersOf_42 (fun fx0 fx1 fx2 fx3 fx4 fx5 fx6 fM => lp_X6_knowersOf_6 Q m fx0 fx1 fx2 fx3 fx4 fx5 fx6 fM) Q s (nI ev) (nI i) (nI bid) (nI ask) (nI (sumN (fun j => bit ((sKd σ j = 2 ∨ sKd σ j = 3) ∧ sDeal σ j (sVa σ i) bid ask = ev) (sPt σ j)) j)) (nI j) 1 M := fun q => by
      unfold jn_X6_knowersOf_42
      refine ⟨fun z => absurd z (by decide), fun _ => ⟨hk, by rw [r2]; exact k2, by rw [r2, n2]; exact vp_in_nI (by omega) (by omega), ?_⟩⟩
      rw [r2, nI_clamp (by omega), (ha i hi).2]
      refine S_X6_dealOf h hj hva hbid hask ?_
      have hd := dealN_le (sKd σ j) (sLi σ j) (sVa σ i) bid ask
      refine ⟨fun z => ?_, fun z => ⟨hk, by rw [r5]; exact k4, by rw [r5, n4]; exact vp_in_nI (by omega) (by omega), fun y hy => ?_⟩⟩
      · exact next0 (fun w => z (by rw [w.2]))
      · have z : sDeal σ j (sVa σ i) bid ask = ev := (nI_eq (by unfold sDeal; omega) (by omega)).mp z
        rw [bit_t ⟨q, z⟩] at ih
        unfold jn_X6_knowersOf_80
        rw [hy, r5, nI_clamp (by omega), b2, nI_add, nI_1]
        exact ih
    unfold lp_X6_knowersOf_6
    refine ⟨hk, fun hle => absurd (by rw [f3] at hle; exact hle) (nI_ge hj (by omega)), fun _ => ?_⟩
    rw [r4, n3, nI_clamp (by omega), b1]
    have hin : vp_in (nI j) 6 := vp_in_nI (by omega) (by omega)
    refine ⟨k3, hin, fun q => ?_, fun q => ⟨hin, fun z => ?_, fun z => ?_⟩⟩
    · exact knows (Or.inl ((nI_eq (b := 2) (by omega) (by omega)).mp q))
    · refine ⟨fun _ => ?_, fun w => absurd rfl w⟩
      refine next0 (fun w => ?_)
      rcases w.1 with w | w
      · exact q ((nI_eq (b := 2) (by omega) (by omega)).mpr w)
      · exact z ((nI_eq (b := 3) (by omega) (by omega)).mpr w)
    · exact knows (Or.inr ((nI_eq (b := 3) (by omega) (by omega)).mp z))
end STREET
