/-! THOUGHTS: sums, halves, what follows an event -/
theorem sumN_le' {f : Nat → Nat} {c n : Nat} (h : ∀ i, i < n → f i ≤ c) (hn : n ≤ 6) : ∀ k, k ≤ n → sumN f k ≤ 6 * c := fun k hk =>
  Nat.le_trans (sumN_le k (fun i hi => h i (by omega))) (Nat.mul_le_mul_right c (by omega))
def mvN (σ : StT) (w : Nat → Nat) : Nat := sumN (fun i => w i * sVa σ i) (sN σ) / sumN w (sN σ)
def fwA (σ : StT) (w : Nat → Nat) (p : Nat) : Nat := sumN (fun i => w i * buyAt σ i p) (sN σ)
def fvA (σ : StT) (w : Nat → Nat) (p : Nat) : Nat := sumN (fun i => w i * buyAt σ i p * sVa σ i) (sN σ)
def fwB (σ : StT) (w : Nat → Nat) (p : Nat) : Nat := sumN (fun i => w i * selAt σ i p) (sN σ)
def fvB (σ : StT) (w : Nat → Nat) (p : Nat) : Nat := sumN (fun i => w i * selAt σ i p * sVa σ i) (sN σ)
abbrev isFA (σ : StT) (w : Nat → Nat) (p : Nat) : Prop := 0 < fwA σ w p ∧ fvA σ w p ≤ p * fwA σ w p
abbrev isFB (σ : StT) (w : Nat → Nat) (p : Nat) : Prop := 0 < fwB σ w p ∧ p * fwB σ w p ≤ fvB σ w p
def fairA (σ : StT) (w : Nat → Nat) : Int := findU (isFA σ w) 100 0
def fairB (σ : StT) (w : Nat → Nat) : Int := findD (isFB σ w) 100
theorem jMax_lN {a b : Nat} (ha : a < 2 ^ 63) (hb : b < 2 ^ 63) : jMax (lN a) (lN b) = lN (max a b) := by
  unfold jMax
  by_cases h : b < a
  · rw [if_pos ((pk_lLT hb ha).mpr h)]; exact congrArg lN (by omega)
  · rw [if_neg (mt (pk_lLT hb ha).mp h)]; exact congrArg lN (by omega)
theorem bO (X Y : Nat) : (if 0 < X + Y then (1 : Int32) else 0) = (if 0 < X then 1 else 0) ||| (if 0 < Y then 1 else 0) := by
  by_cases x : 0 < X
  · by_cases y : 0 < Y
    · rw [if_pos (by omega), if_pos x, if_pos y]; rfl
    · rw [if_pos (by omega), if_pos x, if_neg y]; rfl
  · by_cases y : 0 < Y
    · rw [if_pos (by omega), if_neg x, if_pos y]; rfl
    · rw [if_neg (by omega), if_neg x, if_neg y]; rfl
section THOUGHT
variable {M : Mem} {s t n : Nat} {σ : StT} {w : Nat → Nat} {hh : Int} {c : Nat} {Q : Int32 → Mem → Prop} {QJ0 : Int64 → Mem → Prop} {QV0 : Mem → Prop}
theorem S_X9_allWeights (hs : StAt M s σ) (ht : ThOK M t) (hv : Wt M t (sN σ) w) (hQ : QJ0 (lN (sumN w (sN σ))) M) : wp_X9_allWeights t s M QJ0 := by
  have h6 := hs.2.1.1
  have f0 := hs.2.2.1.1
  refine for_up (fun m i => lp_X9_allWeights_5 QJ0 m t s (lN (sumN w i)) (nI i) M) (sN σ) (fun m => ?_) (fun m i hi ih => ?_)
  · unfold lp_X9_allWeights_5
    exact ⟨hs.1.1, fun _ => hQ, fun hn => absurd (by rw [f0]; exact nI_le (Nat.le_refl _) (by omega)) hn⟩
  · unfold lp_X9_allWeights_5
    refine ⟨hs.1.1, fun hle => absurd (by rw [f0] at hle; exact hle) (nI_ge hi (by omega)), fun _ => ⟨ht.1, ?_⟩⟩
    rw [ht.2.1, ht.2.2.2, nI_clamp (by omega), hv i hi]
    refine ⟨ht.2.2.1, vp_in_nI (by omega) (by omega), fun y hy => ?_⟩
    rw [hy, lN_add, nI_1]
    exact ih
theorem S_X9_greatest (hs : StAt M s σ) (ht : ThOK M t) (hv : Wt M t (sN σ) w) (hc : ∀ i, i < sN σ → w i < 2 ^ 62) (hQ : QJ0 (lN (maxN w (sN σ))) M) : wp_X9_greatest t s M QJ0 := by
  have h6 := hs.2.1.1
  have f0 := hs.2.2.1.1
  refine for_up (fun m i => lp_X9_greatest_5 QJ0 m t s (lN (maxN w i)) (nI i) M) (sN σ) (fun m => ?_) (fun m i hi ih => ?_)
  · unfold lp_X9_greatest_5
    exact ⟨hs.1.1, fun _ => hQ, fun hn => absurd (by rw [f0]; exact nI_le (Nat.le_refl _) (by omega)) hn⟩
  · unfold lp_X9_greatest_5
    refine ⟨hs.1.1, fun hle => absurd (by rw [f0] at hle; exact hle) (nI_ge hi (by omega)), fun _ => ⟨ht.1, ?_⟩⟩
    rw [ht.2.1, ht.2.2.2, nI_clamp (by omega), hv i hi]
    refine ⟨ht.2.2.1, vp_in_nI (by omega) (by omega), fun y hy => ?_⟩
    have hm := (maxN_le (f := w) (c := 2 ^ 62) i).mpr (fun j hj => by have := hc j (by omega); omega)
    have := hc i hi
    rw [hy, jMax_lN (by omega) (by omega), nI_1]
    exact ih
theorem S_X9_halve (hs : StAt M s σ) (ht : ThOK M t) (hd : apart s 8 t 2) (hW : Wt M t (sN σ) w) (hc : ∀ i, i < sN σ → w i < 2 ^ 62) (hQ : ∀ M', Fr (thW t) M M' → Wt M' t (sN σ) (fun i => hv (w i)) → QV0 M') : wp_X9_halve t s M QV0 := by
  have h6 := hs.2.1.1
  have loop := for_up (fun m i => ∀ M', Fr (thW t) M M' → Wt M' t (sN σ) (mixN i (fun i => hv (w i)) w) → lp_X9_halve_2 QV0 m t s (nI i) M') (sN σ) (fun m M' f hw2 => ?_) (fun m i hi ih M' f hw2 => ?_)
  · obtain ⟨m, hm⟩ := loop
    exact ⟨m, hm M Fr.rf (by rw [mixN_0]; exact hW)⟩
  · have st := hs.fr f (by simp [thW]; omega) (by simp [thW]; omega) (by simp [thW]; omega) (by simp [thW]; omega) (by simp [thW]; omega) (by simp [thW]; omega)
    unfold lp_X9_halve_2
    exact ⟨st.1.1, fun _ => hQ M' f hw2.done, fun hn => absurd (by rw [st.2.2.1.1]; exact nI_le (Nat.le_refl _) (by omega)) hn⟩
  · have st := hs.fr f (by simp [thW]; omega) (by simp [thW]; omega) (by simp [thW]; omega) (by simp [thW]; omega) (by simp [thW]; omega) (by simp [thW]; omega)
    have ht1 := ht.fr f
    have hci := hc i hi
    have hin : vp_in (nI i) 6 := vp_in_nI (by omega) (by omega)
    unfold lp_X9_halve_2
    refine ⟨st.1.1, fun hle => absurd (by rw [st.2.2.1.1] at hle; exact hle) (nI_ge hi (by omega)), fun _ => ⟨ht1.1, ?_⟩⟩
    have fin : ∀ v : Int64, v = lN ((fun i => hv (w i)) i) → jn_X9_halve_40 (fun fx0 fx1 fx2 fM => lp_X9_halve_2 QV0 m fx0 fx1 fx2 fM) QV0 t s (nI i) v (nI i) (mR M' t 0) M' := by
      intro v hv1
      unfold jn_X9_halve_40
      rw [ht1.2.1, ht1.2.2.2, nI_clamp (by omega)]
      refine ⟨ht1.2.2.1, hin, fun M12 e => ?_⟩
      rw [e, nI_1]
      exact ih _ (f.t2 (Fr.uJ rfl)) (hw2.step hv1)
    rw [ht1.2.1, ht1.2.2.2, nI_clamp (by omega), hw2.now hi]
    rw [ht1.2.1] at fin
    have e1 : lN (w i) = (1 : Int64) ↔ w i = 1 := pk_lEQ (b := 1) (by omega) (by omega)
    refine ⟨ht1.2.2.1, hin, fun q => ⟨hin, fin _ ?_⟩, fun q => fin _ ?_⟩
    · show _ = lN (hv (w i)); unfold hv; rw [if_neg (mt e1.mpr q)]
      exact pk_lDiv (b := 2) (by omega) (by omega) (by omega)
    · show _ = lN (hv (w i)); unfold hv; rw [if_pos (e1.mp q)]; rfl
theorem S_X9_takeTimes {b ev bid ask : Nat} (hs : StTb M s σ) (ht : ThOK M t) (hb : ThAt M b (sN σ) w hh c) (hc : c ≤ WM) (hd : apart s 8 t 2) (hd2 : apart b 2 t 2) (hev : ev ≤ 2) (h1 : bid ≤ 100) (h2 : ask ≤ 100) (h0 : ev = 0 → bid < ask)
    (hQ : ∀ M', Fr (thA t) M M' → Wt M' t (sN σ) (fun i => w i * odds σ hh ev i bid ask) → mI M' t 1 = iI (hA ev hh) → Q (if 0 < sumN (fun i => w i * odds σ hh ev i bid ask) (sN σ) then 1 else 0) M') : wp_X9_takeTimes t b s (nI ev) (nI bid) (nI ask) M Q := by
  have h6 := hs.1.2.1.1
  have hwf := hs.1.2.1
  have loop := for_up (fun m i => ∀ M' (v : Nat → Nat), Fr (thW t) M M' → Wt M' t (sN σ) (mixN i (fun i => w i * odds σ hh ev i bid ask) v) → lp_X9_takeTimes_6 Q m t b s (nI ev) (nI bid) (nI ask) (if 0 < sumN (fun i => w i * odds σ hh ev i bid ask) i then 1 else 0) (nI i) M') (sN σ) (fun m M' v f hw2 => ?_) (fun m i hi ih M' v f hw2 => ?_)
  · obtain ⟨m, hm⟩ := loop
    refine ⟨m, hm M (fun i => (mJ M (t + 1) i).toBitVec.toNat) Fr.rf (fun i hi => ?_)⟩
    unfold mixN
    rw [if_neg (by omega)]
    show _ = Int64.ofBitVec (BitVec.ofNat 64 _)
    rw [BitVec.ofNat_toNat, BitVec.setWidth_eq]; rfl
  · have st := hs.fr f (by simp [thW]; omega)
    have ht1 := ht.fr f
    have hb1 := hb.fr f (by simp [thW]; omega) (by simp [thW]; omega)
    unfold lp_X9_takeTimes_6
    refine ⟨st.1.1.1, fun _ => ⟨hb1.1.1, S_X9_heldAfter hev hb1.1.1 hb1.2.1 ⟨ht1.1, fun M8 e8 => ⟨?_, ?_⟩⟩⟩, fun hn => absurd (by rw [st.1.2.2.1.1]; exact nI_le (Nat.le_refl _) (by omega)) hn⟩
    · split
      · exact Or.inr rfl
      · exact Or.inl rfl
    · rw [e8]
      refine hQ _ ((f.mono (fun a h => Or.inr h)).t2 (Fr.uI (Or.inl rfl))) (fun i hi => ?_) ?_
      · rw [mJ_uI]; exact hw2.done i hi
      · rw [mI_uI, if_pos rfl, if_pos rfl]
  · have st := hs.fr f (by simp [thW]; omega)
    have ht1 := ht.fr f
    have hb1 := hb.fr f (by simp [thW]; omega) (by simp [thW]; omega)
    have hin : vp_in (nI i) 6 := vp_in_nI (by omega) (by omega)
    have lo := odds_le hwf (h := hh) (ev := ev) (i := i) (bid := bid) (ask := ask)
    have lw : w i ≤ 100000000000 := Nat.le_trans (hb.2.2.2.1 i hi) hc
    have lp := Nat.mul_le_mul lw lo
    unfold lp_X9_takeTimes_6
    refine ⟨st.1.1.1, fun hle => absurd (by rw [st.1.2.2.1.1] at hle; exact hle) (nI_ge hi (by omega)), fun _ => ⟨ht1.1, hb1.1.1, ?_⟩⟩
    rw [hb1.1.2.1, hb1.1.2.2.2, nI_clamp (by omega), hb1.2.2.2.2 i hi]
    refine ⟨hb1.1.2.2.1, hin, S_X9_oddsOf st hb1 hev hi h1 h2 h0 ?_⟩
    rw [ht1.2.1, ht1.2.2.2, nI_l (by omega), lN_mul]
    refine ⟨ht1.2.2.1, hin, fun M14 e14 => ?_⟩
    rw [e14, mK_uJ, mR_uJ, mN_uJ, ht1.2.1, ht1.2.2.2, mJ_uJ, if_pos rfl, if_pos rfl]
    refine ⟨ht1.1, ht1.2.2.1, hin, ?_⟩
    have e0 : lN (w i * odds σ hh ev i bid ask) ≤ (0 : Int64) ↔ w i * odds σ hh ev i bid ask ≤ 0 := pk_lLE (b := 0) (by omega) (by omega)
    have step := ih (uJ M' (t + 1) i (lN (w i * odds σ hh ev i bid ask))) v (f.t2 (Fr.uJ rfl)) (hw2.step rfl)
    rw [show sumN (fun i => w i * odds σ hh ev i bid ask) (i + 1) = sumN (fun i => w i * odds σ hh ev i bid ask) i + w i * odds σ hh ev i bid ask from rfl, bO, ← nI_1] at step
    refine ⟨fun q => ?_, fun q => ?_⟩
    · have q := e0.mp q
      intro y hy
      rw [hy]
      rw [if_neg (show ¬ 0 < w i * odds σ hh ev i bid ask by omega)] at step
      exact step
    · have q := mt e0.mpr q
      intro y hy
      rw [hy]
      rw [if_pos (show 0 < w i * odds σ hh ev i bid ask by omega)] at step
      exact step
end THOUGHT
