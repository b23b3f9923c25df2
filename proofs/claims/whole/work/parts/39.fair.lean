/-! THOUGHTS: fair prices -/
section THOUGHT
variable {M : Mem} {s t n : Nat} {σ : StT} {w : Nat → Nat} {hh : Int} {c : Nat} {Q : Int32 → Mem → Prop} {QJ0 : Int64 → Mem → Prop} {QV0 : Mem → Prop}
/-- the sums of fair prices are far below the greatest long -/
theorem fw_b {b : Nat → Nat → Nat} (hw : sWF σ) (hb : ∀ i p, b i p ≤ 100) (hl : ∀ i, i < sN σ → w i ≤ 100000000000) (p : Nat) : ∀ k, k ≤ sN σ → sumN (fun i => w i * b i p) k ≤ 60000000000000 ∧ sumN (fun i => w i * b i p * sVa σ i) k ≤ 6000000000000000 := by
  intro k hk
  have h6 := hw.1
  refine ⟨sumN_le' (c := 10000000000000) (fun i hi => ?_) h6 k hk, sumN_le' (c := 1000000000000000) (fun i hi => ?_) h6 k hk⟩
  · exact Nat.mul_le_mul (hl i hi) (hb i p)
  · have h1 := Nat.mul_le_mul (hl i hi) (hb i p)
    have h2 := Nat.mul_le_mul h1 (show sVa σ i ≤ 100 by have := (hw.2.1 i hi).2.2; omega)
    exact h2
theorem S_X9_fairAsk (hs : StTb M s σ) (ht : ThOK M t) (hv : Wt M t (sN σ) w) (hl : ∀ i, i < sN σ → w i ≤ 100000000000) (hQ : Q (iI (fairA σ w)) M) : wp_X9_fairAsk t s M Q := by
  have h6 := hs.1.2.1.1
  have f0 := hs.1.2.2.1.1
  have key : ∀ k a : Nat, a + k = 100 → Q (iI (findU (isFA σ w) k a)) M → lp_X9_fairAsk_2 Q (k + 1) t s (nI a) M := by
    intro k
    induction k with
    | zero =>
      intro a ha hq
      unfold lp_X9_fairAsk_2
      have : a = 100 := by omega
      subst this
      exact ⟨fun _ => hq, fun z => absurd (show (99 : Int32) < nI 100 by decide) z⟩
    | succ k ih =>
      intro a ha hq
      unfold lp_X9_fairAsk_2
      refine ⟨fun z => absurd ((nI_lt31 (a := 99) (by omega) (by omega)).mp z) (by omega), fun _ => ?_⟩
      have bd := fw_b hs.1.2.1 (b := buyAt σ) (fun i p => buyAt_le hs.1.2.1 i p) hl a
      have more : ¬ isFA σ w a → jn_X9_fairAsk_93 (fun fx0 fx1 fx2 fM => lp_X9_fairAsk_2 Q (k + 1) fx0 fx1 fx2 fM) Q t s (nI a) M := by
        intro hno
        unfold jn_X9_fairAsk_93
        rw [nI_1]
        refine ih (a + 1) (by omega) ?_
        unfold findU at hq
        rw [if_neg hno] at hq
        exact hq
      refine for_up (fun m i => lp_X9_fairAsk_16 (fun fx0 fx1 fx2 fM => lp_X9_fairAsk_2 Q (k + 1) fx0 fx1 fx2 fM) Q m t s (nI a) (lN (sumN (fun i => w i * buyAt σ i a) i)) (lN (sumN (fun i => w i * buyAt σ i a * sVa σ i) i)) (nI i) M) (sN σ) (fun m => ?_) (fun m i hi ih2 => ?_)
      · unfold lp_X9_fairAsk_16
        refine ⟨hs.1.1.1, fun _ => ?_, fun hn => absurd (by rw [f0]; exact nI_le (Nat.le_refl _) (by omega)) hn⟩
        obtain ⟨l1, l2⟩ := bd (sN σ) (Nat.le_refl _)
        have l3 := Nat.mul_le_mul (show a ≤ 100 by omega) l1
        change fwA σ w a ≤ _ at l1
        change fvA σ w a ≤ _ at l2
        change a * fwA σ w a ≤ _ at l3
        have e1 : lN (fwA σ w a) ≤ (0 : Int64) ↔ fwA σ w a ≤ 0 := pk_lLE (b := 0) (by omega) (by omega)
        have e2 : (nI a).toInt64 * lN (fwA σ w a) < lN (fvA σ w a) ↔ a * fwA σ w a < fvA σ w a := by
          rw [nI_l (by omega), lN_mul]; exact pk_lLT (by omega) (by omega)
        refine ⟨fun q => more (fun z => ?_), fun q => ⟨fun q2 => more (fun z => ?_), fun q2 => ?_⟩⟩
        · have := e1.mp q; omega
        · have := e2.mp q2; omega
        · have q := mt e1.mpr q
          have q2 := mt e2.mpr q2
          unfold findU at hq
          rw [if_pos ⟨by omega, by omega⟩, ← nI_iI] at hq
          exact hq
      · unfold lp_X9_fairAsk_16
        have hvi := (hs.1.2.1.2.1 i hi).2.2
        have bi := buyAt_le hs.1.2.1 i a
        have ix : (nI i * 101) + nI a = nI (101 * i + a) := by
          rw [show (101 : Int32) = nI 101 from rfl, pk_mul, nI_add, Nat.mul_comm]
        refine ⟨hs.1.1.1, fun hle => absurd (by rw [f0] at hle; exact hle) (nI_ge hi (by omega)), fun _ => ⟨ht.1, ?_⟩⟩
        rw [ht.2.1, ht.2.2.2, hs.1.1.2.1.2.2.2.2.2.1, hs.1.1.2.2.2.2.2.2.2.2.1, ix, hs.1.1.2.1.2.1, hs.1.1.2.2.2.2.1, nI_clamp (by omega), nI_clamp (by omega), hv i hi, (hs.1.2.2.2.1 i hi).2, (hs.2 i hi a (by omega)).1, nI_l (by omega), nI_l (by omega)]
        refine ⟨ht.2.2.1, vp_in_nI (by omega) (by omega), hs.1.1.2.2.1.2.2.2.2.2.1, vp_in_nI (by omega) (by omega), fun y1 hy1 y2 hy2 => ⟨hs.1.1.2.2.1.2.1, vp_in_nI (by omega) (by omega), fun y3 hy3 => ?_⟩⟩
        rw [hy3, hy2, hy1, lN_mul, lN_mul, lN_add, lN_add, nI_1]
        exact ih2
  exact ⟨101, key 100 0 (by omega) hQ⟩
theorem S_X9_fairBid (hs : StTb M s σ) (ht : ThOK M t) (hv : Wt M t (sN σ) w) (hl : ∀ i, i < sN σ → w i ≤ 100000000000) (hQ : Q (iI (fairB σ w)) M) : wp_X9_fairBid t s M Q := by
  have h6 := hs.1.2.1.1
  have f0 := hs.1.2.2.1.1
  have key : ∀ a : Nat, a ≤ 100 → Q (iI (findD (isFB σ w) a)) M → lp_X9_fairBid_3 Q (a + 1) t s (nI a) M := by
    intro a
    induction a with
    | zero =>
      intro ha hq
      unfold lp_X9_fairBid_3
      exact ⟨fun _ => hq, fun z => absurd (show nI 0 < (1 : Int32) by decide) z⟩
    | succ k ih =>
      intro ha hq
      unfold lp_X9_fairBid_3
      refine ⟨fun z => absurd ((nI_lt31 (b := 1) (by omega) (by omega)).mp z) (by omega), fun _ => ?_⟩
      have bd := fw_b hs.1.2.1 (b := selAt σ) (fun i p => selAt_le hs.1.2.1 i p) hl (k + 1)
      have more : ¬ isFB σ w (k + 1) → jn_X9_fairBid_93 (fun fx0 fx1 fx2 fM => lp_X9_fairBid_3 Q (k + 1) fx0 fx1 fx2 fM) Q t s (nI (k + 1)) M := by
        intro hno
        unfold jn_X9_fairBid_93
        rw [pk_m1]
        refine ih (by omega) ?_
        unfold findD at hq
        rw [if_neg hno] at hq
        exact hq
      refine for_up (fun m i => lp_X9_fairBid_16 (fun fx0 fx1 fx2 fM => lp_X9_fairBid_3 Q (k + 1) fx0 fx1 fx2 fM) Q m t s (nI (k + 1)) (lN (sumN (fun i => w i * selAt σ i (k + 1)) i)) (lN (sumN (fun i => w i * selAt σ i (k + 1) * sVa σ i) i)) (nI i) M) (sN σ) (fun m => ?_) (fun m i hi ih2 => ?_)
      · unfold lp_X9_fairBid_16
        refine ⟨hs.1.1.1, fun _ => ?_, fun hn => absurd (by rw [f0]; exact nI_le (Nat.le_refl _) (by omega)) hn⟩
        obtain ⟨l1, l2⟩ := bd (sN σ) (Nat.le_refl _)
        have l3 := Nat.mul_le_mul (show k + 1 ≤ 100 by omega) l1
        change fwB σ w (k + 1) ≤ _ at l1
        change fvB σ w (k + 1) ≤ _ at l2
        change (k + 1) * fwB σ w (k + 1) ≤ _ at l3
        have e1 : lN (fwB σ w (k + 1)) ≤ (0 : Int64) ↔ fwB σ w (k + 1) ≤ 0 := pk_lLE (b := 0) (by omega) (by omega)
        have e2 : lN (fvB σ w (k + 1)) < (nI (k + 1)).toInt64 * lN (fwB σ w (k + 1)) ↔ fvB σ w (k + 1) < (k + 1) * fwB σ w (k + 1) := by
          rw [nI_l (by omega), lN_mul]; exact pk_lLT (by omega) (by omega)
        refine ⟨fun q => more (fun z => ?_), fun q => ⟨fun q2 => more (fun z => ?_), fun q2 => ?_⟩⟩
        · have := e1.mp q; omega
        · have := e2.mp q2; omega
        · have q := mt e1.mpr q
          have q2 := mt e2.mpr q2
          unfold findD at hq
          rw [if_pos ⟨by omega, by omega⟩, ← nI_iI] at hq
          exact hq
      · unfold lp_X9_fairBid_16
        have hvi := (hs.1.2.1.2.1 i hi).2.2
        have bi := selAt_le hs.1.2.1 i (k + 1)
        have ix : (nI i * 101) + nI (k + 1) = nI (101 * i + (k + 1)) := by
          rw [show (101 : Int32) = nI 101 from rfl, pk_mul, nI_add, Nat.mul_comm]
        refine ⟨hs.1.1.1, fun hle => absurd (by rw [f0] at hle; exact hle) (nI_ge hi (by omega)), fun _ => ⟨ht.1, ?_⟩⟩
        rw [ht.2.1, ht.2.2.2, hs.1.1.2.1.2.2.2.2.2.2, hs.1.1.2.2.2.2.2.2.2.2.2, ix, hs.1.1.2.1.2.1, hs.1.1.2.2.2.2.1, nI_clamp (by omega), nI_clamp (by omega), hv i hi, (hs.1.2.2.2.1 i hi).2, (hs.2 i hi (k + 1) (by omega)).2, nI_l (by omega), nI_l (by omega)]
        refine ⟨ht.2.2.1, vp_in_nI (by omega) (by omega), hs.1.1.2.2.1.2.2.2.2.2.2, vp_in_nI (by omega) (by omega), fun y1 hy1 y2 hy2 => ⟨hs.1.1.2.2.1.2.1, vp_in_nI (by omega) (by omega), fun y3 hy3 => ?_⟩⟩
        rw [hy3, hy2, hy1, lN_mul, lN_mul, lN_add, lN_add, nI_1]
        exact ih2
  exact ⟨101, key 100 (by omega) hQ⟩
end THOUGHT
