/-! DAYS: all of them by a way -/
def lfM (σ : StT) (h : Int) (p : Nat → Nat) (g : Int) (_ : Bool) : Int := sumZ (fun i => (p i : Int) * (g + h * sVa σ i)) (sN σ)
def lfS (σ : StT) (_ : Int) (p : Nat → Nat) (_ : Int) (st : Bool) : Int := if st then (sumN p (sN σ) : Int) else 0
def goX (lf : Int → (Nat → Nat) → Int → Bool → Int) (σ : StT) (k f : Nat) : Nat → (Nat → Nat) → Int → (Nat → Nat) → Int → Bool → Int
  | 0, _, h, p, g, st => lf h p g st
  | r + 1, w, h, p, g, st => sumZ (fun ev => if 0 < sumN (flw σ w h ev (bidW σ w h k f) (askW σ w h k f)) (sN σ) then goX lf σ k f r (stl (sN σ) (flw σ w h ev (bidW σ w h k f) (askW σ w h k f))) (hA ev h) (fun i => p i * odds σ h ev i (bidW σ w h k f) (askW σ w h k f)) (g + tkI ev (bidW σ w h k f) (askW σ w h k f) - (sCo σ * (hA ev h).natAbs : Nat)) (st || decide ((hA ev h).natAbs = sMo σ)) else 0) 3
abbrev goA (d hr : Nat) : Nat → Prop := fun x => x = d ∨ (d + 3 + hr < x ∧ x < d + 10) ∨ (d + 10 + 2 * hr + 2 ≤ x ∧ x < d + 24)
section DAYS
variable {M : Mem} {s t d a k f : Nat} {σ : StT} {w p : Nat → Nat} {hh g : Int} {c : Nat} {Q : Int32 → Mem → Prop} {QV0 : Mem → Prop}
theorem S_X0_close {hr : Nat} {st : Bool} (hd : DyOK M d) (hs : StAt M s σ) (hap : apart s 8 d 24) (hh6 : hr ≤ 6) (ht : ThAt M (d + 10 + 2 * hr) (sN σ) w hh WM) (hp : Wt M (d + 2 + hr) (sN σ) p) (hg : -5000 ≤ g ∧ g ≤ 5000)
    (hQ : ∀ M', Fr (fun x => x = d) M M' → mJ M' d 2 = mJ M d 2 + jI (lfM σ hh p g st) → mJ M' d 3 = mJ M d 3 + jI (lfS σ hh p g st) → QV0 M') : wp_X0_close d s (nI hr) (iI g) (bI st) M QV0 := by
  have h6 := hs.2.1.1
  have hdd := hd
  obtain ⟨hd1, hd2, hd3, hd4, hd5, hd6, hd7, hd8, hd9⟩ := hd
  obtain ⟨r0, t0⟩ := hd8 hr (by omega)
  obtain ⟨r9, k9, n9⟩ := hd9 hr (by omega)
  unfold wp_X0_close
  rw [hd2, hd5, nI_clamp (by omega), r0, ht.2.1]
  refine ⟨hd1, hd4, vp_in_nI (by omega) (by omega), t0.1, fun y1 e1 => ?_⟩
  rw [e1]
  have loop := for_up (fun m i => ∀ M', Fr (fun x => x = d) M M' → mJ M' d 2 = mJ M d 2 + jI (sumZ (fun i => (p i : Int) * (g + hh * sVa σ i)) i) → mJ M' d 3 = mJ M d 3 + jI (if st then (sumN p i : Int) else 0) → lp_X0_close_14 QV0 m d s (nI hr) (iI g) (bI st) (iI hh) (nI i) M') (sN σ) (fun m M' fr j2 j3 => ?_) (fun m i hi ih M' fr j2 j3 => ?_)
  · obtain ⟨m, hm⟩ := loop
    have z0 : jI 0 = 0 := rfl
    refine ⟨m, hm M Fr.rf ?_ ?_⟩
    · simp only [sumZ, z0, Int64.add_zero]
    · cases st <;> simp [sumN, z0]
  · have st := hs.fr fr (by unfold apart at hap; omega) (by unfold apart at hap; omega) (by unfold apart at hap; omega) (by unfold apart at hap; omega) (by unfold apart at hap; omega) (by unfold apart at hap; omega)
    unfold lp_X0_close_14
    exact ⟨st.1.1, fun _ => hQ M' fr j2 j3, fun hn => absurd (by rw [st.2.2.1.1]; exact nI_le (Nat.le_refl _) (by omega)) hn⟩
  · have sa := hs.fr fr (by unfold apart at hap; omega) (by unfold apart at hap; omega) (by unfold apart at hap; omega) (by unfold apart at hap; omega) (by unfold apart at hap; omega) (by unfold apart at hap; omega)
    have hvi := (hs.2.1.2.1 i hi).2.2
    have hm9 := Int.mul_le_mul_of_nonneg_right (a := hh) (b := 20) (c := sVa σ i) ht.2.2.1.2 (by omega)
    have hm8 := Int.mul_le_mul_of_nonneg_right (a := -20) (b := hh) (c := sVa σ i) ht.2.2.1.1 (by omega)
    unfold lp_X0_close_14
    refine ⟨sa.1.1, fun hle => absurd (by rw [sa.2.2.1.1] at hle; exact hle) (nI_ge hi (by omega)), fun _ => ?_⟩
    obtain ⟨xd1, xd2, xd3, xd4, xd5, xd6, xd7, xd8, xd9⟩ := hdd.fr fr
    obtain ⟨x9, xk, xn⟩ := xd9 hr (by omega)
    rw [xd3, xd7, nI_clamp (by omega), nI_clamp (by omega), x9, xn, sa.1.2.1.2.1]
    have jrow : mJ M' (d + 3 + hr) i = lN (p i) := by
      rw [fr.J (by omega), show d + 3 + hr = d + 2 + hr + 1 by omega]
      exact hp i hi
    rw [jrow, (sa.2.2.2.1 i hi).2, nI_iI (sVa σ i), iI_mul, iI_add, iI_jI (by omega) (by omega), lN_jI, jI_mul, j2, Int64.add_assoc, jI_add]
    refine ⟨xd1, xd6, vp_in_nI (by omega) (by omega), xk, vp_in_nI (by omega) (by omega), sa.1.2.2.1.2.1, by rw [sa.1.2.2.2.2.1]; exact vp_in_nI (by omega) (by omega), fun M8 e8 => ?_⟩
    have fin : ∀ v : Int64, v = jI (if st then (p i : Int) else 0) → jn_X0_close_78 (fun fx0 fx1 fx2 fx3 fx4 fx5 fx6 fM => lp_X0_close_14 QV0 m fx0 fx1 fx2 fx3 fx4 fx5 fx6 fM) QV0 d s (nI hr) (iI g) (bI st) (iI hh) (nI i) v (mJ M8 d 3) d M8 := by
      intro v hv
      refine ⟨by rw [e8, mK_uJ]; exact xd1, fun M15 e15 => ?_⟩
      rw [nI_1]
      refine ih M15 ?_ ?_ ?_
      · rw [e15, e8]; exact (fr.t2 (Fr.uJ rfl)).t2 (Fr.uJ rfl)
      · rw [e15, mJ_uJ, if_pos rfl, if_neg (by decide), e8, mJ_uJ, if_pos rfl, if_pos rfl]
        rfl
      · rw [e15, mJ_uJ, if_pos rfl, if_pos rfl, e8, mJ_uJ, if_pos rfl, if_neg (by decide), j3, hv, Int64.add_assoc, jI_add]
        cases st
        · rfl
        · simp [sumN]
    refine ⟨fun q => fin 0 ?_, fun q => ⟨by rw [e8, mK_uJ, mR_uJ, xd3]; exact xd6, by rw [e8, mN_uJ, mR_uJ, xd3, xd7]; exact vp_in_nI (by omega) (by omega), by rw [e8, mK_uJ, mR_uJ, xd3, x9]; exact xk, by rw [e8, mN_uJ, mR_uJ, xd3, x9, xn]; exact vp_in_nI (by omega) (by omega), fin _ ?_⟩⟩
    · have := bI_0.mp q
      rw [if_neg this]; rfl
    · have : st = true := Classical.byContradiction fun z => q (bI_0.mpr z)
      rw [if_pos this, e8, mR_uJ, xd3, x9, mJ_uJ, if_neg (by omega), jrow, lN_jI]
end DAYS
