/-! THOUGHTS: what follows an event, means, fair prices -/
abbrev flw (σ : StT) (w : Nat → Nat) (hh : Int) (ev bid ask : Nat) : Nat → Nat := fun i => w i * odds σ hh ev i bid ask
theorem hA_rng {σ : StT} {w : Nat → Nat} {hh : Int} {ev bid ask : Nat} (hw : sWF σ) (hr : -20 ≤ hh ∧ hh ≤ 20) (hp : 0 < sumN (flw σ w hh ev bid ask) (sN σ)) : -20 ≤ hA ev hh ∧ hA ev hh ≤ 20 := by
  obtain ⟨i, hi, h⟩ := (sumN_pos (sN σ)).mp hp
  have ho : odds σ hh ev i bid ask ≠ 0 := fun e => by
    have : flw σ w hh ev bid ask i = 0 := by show w i * odds σ hh ev i bid ask = 0; rw [e, Nat.mul_zero]
    omega
  have hm := hw.2.2.2.2.2.2.1
  unfold odds at ho
  unfold hA
  by_cases e1 : ev = 1
  · rw [if_pos e1] at ho ⊢
    unfold odB at ho
    split at ho <;> omega
  · rw [if_neg e1] at ho ⊢
    by_cases e2 : ev = 2
    · rw [if_pos e2] at ho ⊢
      unfold odS at ho
      split at ho <;> omega
    · rw [if_neg e2]; omega
section THOUGHT
variable {M : Mem} {s t n : Nat} {σ : StT} {w : Nat → Nat} {hh : Int} {c : Nat} {Q : Int32 → Mem → Prop} {QJ0 : Int64 → Mem → Prop} {QV0 : Mem → Prop}
theorem halve_go {M0 : Mem} (hs : StAt M0 s σ) (ht : ThOK M0 t) (hd : apart s 8 t 2) : ∀ (k r : Nat) (v : Nat → Nat) (M : Mem), r + k = 64 → Fr (thW t) M0 M → Wt M t (sN σ) v → (∀ i, i < sN σ → v i < 2 ^ 62) → (∀ M', Fr (thW t) M0 M' → Wt M' t (sN σ) (hlv (sN σ) k v) → Q 1 M') → lp_X9_follow_91 Q (k + 1) t s (nI r) M := by
  intro k
  induction k with
  | zero =>
    intro r v M hr f hv _ hQ
    unfold lp_X9_follow_91
    have : r = 64 := by omega
    subst this
    exact ⟨fun _ => hQ M f hv, fun z => absurd (nI_le (a := 64) (b := 64) (Nat.le_refl _) (by omega)) z⟩
  | succ k ih =>
    intro r v M hr f hW hc hQ
    unfold lp_X9_follow_91
    have st := hs.fr f (by simp [thW]; omega) (by simp [thW]; omega) (by simp [thW]; omega) (by simp [thW]; omega) (by simp [thW]; omega) (by simp [thW]; omega)
    have ht1 := ht.fr f
    refine ⟨fun z => absurd z (nI_ge (b := 64) (by omega) (by omega)), fun _ => ⟨ht1.1, S_X9_greatest st ht1 hW hc ?_⟩⟩
    have hm : maxN v (sN σ) < 2 ^ 63 := by
      have := (maxN_le (f := v) (c := 2 ^ 62) (sN σ)).mpr (fun i hi => by have := hc i hi; omega)
      omega
    have e : lN (maxN v (sN σ)) ≤ (100000000000 : Int64) ↔ maxN v (sN σ) ≤ 100000000000 := pk_lLE (b := 100000000000) hm (by omega)
    have hu : hlv (sN σ) (k + 1) v = if maxN v (sN σ) ≤ WM then v else hlv (sN σ) k (fun i => hv (v i)) := rfl
    rw [hu] at hQ
    refine ⟨fun z => ?_, fun z => ⟨ht1.1, S_X9_halve st ht1 hd hW hc (fun M' f' hv' => ?_)⟩⟩
    · rw [if_pos (e.mp z)] at hQ; exact hQ M f hW
    · rw [if_neg (mt e.mpr z)] at hQ
      rw [nI_1]
      exact ih (r + 1) _ M' (by omega) (f.t2 f') hv' (fun i hi => Nat.lt_of_le_of_lt (hv_le (v i)) (hc i hi)) hQ
theorem S_X9_follow {b ev bid ask : Nat} (hs : StTb M s σ) (ht : ThOK M t) (hb : ThAt M b (sN σ) w hh c) (hc : c ≤ WM) (hd : apart s 8 t 2) (hd2 : apart b 2 t 2) (hev : ev ≤ 2) (h1 : bid ≤ 100) (h2 : ask ≤ 100) (h0 : ev = 0 → bid < ask)
    (hY : 0 < sumN (flw σ w hh ev bid ask) (sN σ) → ∀ M', Fr (thA t) M M' → ThAt M' t (sN σ) (stl (sN σ) (flw σ w hh ev bid ask)) (hA ev hh) WM → Q 1 M')
    (hN : ¬ 0 < sumN (flw σ w hh ev bid ask) (sN σ) → ∀ M', Fr (thA t) M M' → Q 0 M') : wp_X9_follow t b s (nI ev) (nI bid) (nI ask) M Q := by
  have h6 := hs.1.2.1.1
  refine ⟨ht.1, S_X9_takeTimes hs ht hb hc hd hd2 hev h1 h2 h0 (fun M2 f2 hW hI => ?_)⟩
  by_cases hp : 0 < sumN (flw σ w hh ev bid ask) (sN σ)
  · rw [if_pos hp]
    refine ⟨fun _ => ?_, fun z => absurd z (by decide)⟩
    have hr := hA_rng hs.1.2.1 hb.2.2.1 hp
    have hY := hY hp
    have hfl : ∀ i, i < sN σ → flw σ w hh ev bid ask i ≤ 10000000000000 := fun i hi =>
      Nat.mul_le_mul (show w i ≤ 100000000000 from Nat.le_trans (hb.2.2.2.1 i hi) hc) (odds_le hs.1.2.1)
    change Wt M2 t (sN σ) (flw σ w hh ev bid ask) at hW
    unfold stl at hY
    have hle : ∀ i, i < sN σ → stl (sN σ) (flw σ w hh ev bid ask) i ≤ WM := stl_le hfl
    unfold stl at hle
    have hg0 : 0 < gcdN (flw σ w hh ev bid ask) (sN σ) := by
      rcases Nat.eq_zero_or_pos (gcdN (flw σ w hh ev bid ask) (sN σ)) with e | e
      · have := (gcdN_0 (f := flw σ w hh ev bid ask) (sN σ)).mp e; omega
      · exact e
    generalize flw σ w hh ev bid ask = fl at *
    have tb2 := hs.fr f2 (fun a _ _ => by simp [thA]; omega)
    have st2 := tb2.1
    have ht2 := ht.fr f2
    have f02 := st2.2.2.1.1
    -- the halving
    have last : ∀ M3, Fr (thW t) M2 M3 → Wt M3 t (sN σ) (fun i => fl i / gcdN fl (sN σ)) → jn_X9_follow_88 Q t s M3 := by
      intro M3 f3 hW3
      refine ⟨65, halve_go st2 ht2 hd 64 0 _ M3 (by omega) f3 hW3 (fun i hi => ?_) (fun M4 f4 hW4 => ?_)⟩
      · have := hfl i hi
        have := div_gcd_le (f := fl) (n := sN σ) (i := i)
        show fl i / gcdN fl (sN σ) < _
        omega
      · refine hY M4 (f2.t2 (f4.mono (fun a h => Or.inr h))) ⟨(ht2.fr f4), ?_, hr, hle, hW4⟩
        rw [f4.I (by simp [thW]), hI]
    -- the divisor
    refine for_up (fun m i => lp_X9_follow_22 Q m t s (lN (gcdN fl i)) (nI i) M2) (sN σ) (fun m => ?_) (fun m i hi ih => ?_)
    · unfold lp_X9_follow_22
      refine ⟨st2.1.1, fun _ => ?_, fun hn => absurd (by rw [f02]; exact nI_le (Nat.le_refl _) (by omega)) hn⟩
      have hgl := gcdN_le (f := fl) (sN σ) hfl
      generalize gcdN fl (sN σ) = g at *
      have e1 : lN g ≤ (1 : Int64) ↔ g ≤ 1 := pk_lLE (b := 1) (by omega) (by omega)
      have loop := for_up (fun m i => ∀ M3, Fr (thW t) M2 M3 → Wt M3 t (sN σ) (mixN i (fun i => fl i / g) fl) → lp_X9_follow_54 Q m t s (lN g) (nI i) M3) (sN σ) (fun m M3 f3 hw2 => ?_) (fun m i hi ih M3 f3 hw2 => ?_)
      · obtain ⟨m, hm⟩ := loop
        exact ⟨m, hm M2 Fr.rf (by rw [mixN_0]; exact hW)⟩
      · have st := tb2.fr f3 (fun a _ _ => by simp [thW]; omega)
        unfold lp_X9_follow_54
        exact ⟨st.1.1.1, fun _ => last M3 f3 hw2.done, fun hn => absurd (by rw [st.1.2.2.1.1]; exact nI_le (Nat.le_refl _) (by omega)) hn⟩
      · have st := tb2.fr f3 (fun a _ _ => by simp [thW]; omega)
        have ht1 := ht2.fr f3
        have hfi := hfl i hi
        have hin : vp_in (nI i) 6 := vp_in_nI (by omega) (by omega)
        unfold lp_X9_follow_54
        refine ⟨st.1.1.1, fun hle => absurd (by rw [st.1.2.2.1.1] at hle; exact hle) (nI_ge hi (by omega)), fun _ => ⟨fun q => ?_, fun q => ⟨ht1.1, ?_⟩⟩⟩
        · have q := e1.mp q
          have q : g = 1 := by omega
          refine last M3 f3 (fun j hj => ?_)
          rw [hw2 j hj]; unfold mixN; rw [q]
          split
          · rfl
          · simp
        · rw [ht1.2.1, ht1.2.2.2, nI_clamp (by omega), hw2.now hi]
          refine ⟨ht1.2.2.1, hin, fun z => q (by rw [z]; decide), hin, fun M34 e => ?_⟩
          rw [e, nI_1, pk_lDiv (by omega) hg0 (by omega)]
          exact ih _ (f3.t2 (Fr.uJ rfl)) (hw2.step rfl)
    · have hfi := hfl i hi
      have hgl := gcdN_le (f := fl) (c := 10000000000000) i (fun j hj => hfl j (by omega))
      unfold lp_X9_follow_22
      refine ⟨st2.1.1, fun hle => absurd (by rw [f02] at hle; exact hle) (nI_ge hi (by omega)), fun _ => ⟨ht2.1, ?_⟩⟩
      rw [ht2.2.1, ht2.2.2.2, nI_clamp (by omega), hW i hi]
      refine ⟨ht2.2.2.1, vp_in_nI (by omega) (by omega), S_X12_divisorOf (by omega) (by omega) ?_⟩
      rw [nI_1]
      exact ih
  · rw [if_neg hp]
    exact ⟨fun z => absurd rfl z, fun _ => hN hp M2 f2⟩
theorem mv_le (hs : sWF σ) : ∀ k, k ≤ sN σ → sumN (fun i => w i * sVa σ i) k ≤ sumN w k * 99
  | 0, _ => by simp [sumN]
  | k + 1, hk => by
    have := mv_le hs k (by omega)
    have h3 := (hs.2.1 k (by omega)).2.2
    have := Nat.mul_le_mul_left (w k) h3
    simp only [sumN, Nat.add_mul]
    omega
theorem mvN_le (hs : sWF σ) : mvN σ w ≤ 99 := by
  have := mv_le (w := w) hs (sN σ) (Nat.le_refl _)
  unfold mvN
  exact Nat.div_le_of_le_mul this
theorem S_X9_meanValue (hs : StAt M s σ) (ht : ThOK M t) (hv : Wt M t (sN σ) w) (hw : ∀ i, i < sN σ → w i ≤ 100000000000) (hQ : Q (nI (mvN σ w)) M) : wp_X9_meanValue t s M Q := by
  have h6 := hs.2.1.1
  have f0 := hs.2.2.1.1
  have hl := sumN_le' hw h6
  have hl2 := mv_le (w := w) hs.2.1
  refine ⟨ht.1, S_X9_allWeights hs ht hv ?_⟩
  have hla := hl (sN σ) (Nat.le_refl _)
  have hlb := hl2 (sN σ) (Nat.le_refl _)
  have hm9 := mvN_le (w := w) hs.2.1
  refine for_up (fun m i => lp_X9_meanValue_12 Q m t s (lN (sumN w (sN σ))) (lN (sumN (fun i => w i * sVa σ i) i)) (nI i) M) (sN σ) (fun m => ?_) (fun m i hi ih => ?_)
  · unfold lp_X9_meanValue_12
    refine ⟨hs.1.1, fun _ => ?_, fun hn => absurd (by rw [f0]; exact nI_le (Nat.le_refl _) (by omega)) hn⟩
    unfold mvN at hQ hm9
    have e0 : lN (sumN w (sN σ)) ≤ (0 : Int64) ↔ sumN w (sN σ) ≤ 0 := pk_lLE (b := 0) (by omega) (by omega)
    refine ⟨fun q => ?_, fun q => ⟨fun z => q (by rw [z]; decide), ?_⟩⟩
    · have q := e0.mp q
      have q : sumN w (sN σ) = 0 := by omega
      rw [q, Nat.div_zero] at hQ
      exact hQ
    · have q := mt e0.mpr q
      rw [pk_lDiv (by omega) (by omega) (by omega), lN_i]
      exact hQ
  · unfold lp_X9_meanValue_12
    have hvi := (hs.2.1.2.1 i hi).2.2
    refine ⟨hs.1.1, fun hle => absurd (by rw [f0] at hle; exact hle) (nI_ge hi (by omega)), fun _ => ⟨ht.1, ?_⟩⟩
    rw [ht.2.1, ht.2.2.2, hs.1.2.1.2.1, hs.1.2.2.2.2.1, nI_clamp (by omega), hv i hi, (hs.2.2.2.1 i hi).2]
    refine ⟨ht.2.2.1, vp_in_nI (by omega) (by omega), hs.1.2.2.1.2.1, vp_in_nI (by omega) (by omega), fun y hy => ?_⟩
    rw [hy, nI_l (by omega), lN_mul, lN_add, nI_1]
    exact ih
end THOUGHT
