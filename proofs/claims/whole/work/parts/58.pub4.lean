/-! THE COMPONENT: at rest, the image, counts, what is thought, what is set -/
def setS (c : CT) (σ : StT) : CT := (σ, cW c, cH c, cI c, cS2 c, cW2 c, cH2 c, cG c)
def aSet (c : CT) (x y : Int32) : Int32 := if ix x = 0 ∧ ix y ≤ 20 then nI (sMo (cS c)) else if ix x = 1 ∧ ix y ≤ 9 then nI (sCo (cS c)) else if ix x = 2 ∧ 1 ≤ ix y ∧ ix y ≤ 6 then nI (sHo (cS c)) else -1
def nSet (c : CT) (x y : Int32) : CT := if ix x = 0 ∧ ix y ≤ 20 then setS c (setM (cS c) (ix y)) else if ix x = 1 ∧ ix y ≤ 9 then setS c (setK (cS c) (ix y)) else if ix x = 2 ∧ 1 ≤ ix y ∧ ix y ≤ 6 then setS c (setH (cS c) (ix y)) else c
section COMP
variable {M : Mem} {c : CT} {Q : Int32 → Mem → Prop} {QR : Nat → Mem → Prop} {QJ0 : Int64 → Mem → Prop} {QV0 : Mem → Prop}
theorem ix_lo {x : Int32} {k : Nat} (hk : k < 2147483648) (hx : x < nI k) : ¬ (k ≤ ix x ∧ ix x < 2147483648) := fun q => by
  by_cases z : x < 0
  · unfold ix at q; rw [if_pos z] at q; omega
  · obtain ⟨j, hj, rfl⟩ := nI_of z
    rw [ix_nI hj] at q
    have := (nI_lt31 hj hk).mp hx
    omega
theorem ix_hi {x : Int32} {k : Nat} (hk : k < 2147483648) (hx : nI k < x) : ¬ ix x ≤ k := fun q => by
  by_cases z : x < 0
  · unfold ix at q; rw [if_pos z] at q; omega
  · obtain ⟨j, hj, rfl⟩ := nI_of z
    rw [ix_nI hj] at q
    have := (nI_lt31 hk hj).mp hx
    omega
theorem ix_pos {x : Int32} {k : Nat} (hk : k < 2147483648) (hx : ¬ x < nI k) : ∃ j, j < 2147483648 ∧ x = nI j ∧ ix x = j ∧ k ≤ j := by
  have z : ¬ x < 0 := fun z => hx (by
    have e1 := Int32.lt_iff_toInt_lt.mp z
    have e2 := nI_toInt (n := k) hk
    have e3 : (0 : Int32).toInt = 0 := rfl
    rw [Int32.lt_iff_toInt_lt]
    omega)
  obtain ⟨j, hj, rfl⟩ := nI_of z
  exact ⟨j, hj, rfl, ix_nI hj, by have := mt (nI_lt31 hj hk).mpr hx; omega⟩
theorem S_X12_rest {n i : Int32} (h : AbsC M c) (hQ : ∀ M', Kp cpA M M' → AbsC M' c → Q (aRest c n i) M') : wp_X12_rest 2 n i M Q := by
  unfold aRest at hQ
  have no : ¬ (20 ≤ ix n ∧ ix n ≤ 50 ∧ (-1 : Int32) ≤ i) → Q (-1) M := fun q => by rw [if_neg q] at hQ; exact hQ M Kp.rf h
  refine ⟨fun q => no (fun r => ix_lo (k := 20) (by omega) q ⟨r.1, by have := r.2.1; omega⟩), fun q => ⟨fun q2 => no (fun r => ix_hi (k := 50) (by omega) q2 r.2.1), fun q2 => ⟨fun q3 => ?_, fun q3 => no (fun r => q3 r.2.2)⟩⟩⟩
  obtain ⟨n', n1, rfl, n2, n3⟩ := ix_pos (k := 20) (by omega) q
  have n4 := mt (nI_lt31 (a := 50) (by omega) n1).mpr q2
  rw [n2, if_pos ⟨n3, by omega, q3⟩] at hQ
  rw [h.1.2.1.1]
  refine ⟨h.1.1, h.2.1.1.1.1, S_ready h (fun r => ⟨fun _ => ?_, fun z => absurd z (by decide)⟩) (fun r => ⟨fun z => absurd rfl z, fun _ => ?_⟩)⟩
  · rw [if_pos r] at hQ
    rw [h.1.2.1.1, h.1.2.1.2.2.2.2.2.2.2.2.2]
    refine ⟨h.1.1, h.1.2.2.2.2.2.2.2.2.1.1, S_X5_atRest h.1.2.2.2.2.2.2.2.2.1 ⟨by omega, by omega⟩ h.2.1.1 (by unfold apart; omega) (fun M9 f9 => ?_)⟩
    obtain ⟨k9, c9⟩ := h.keep f9 (fun x hx => sp_scr hx)
    exact hQ M9 k9 c9
  · rw [if_neg r] at hQ; exact hQ M Kp.rf h
theorem S_X12_image (h : AbsC M c) (hQ : ∀ M', Kp cpA M M' → AbsC M' (setI c) → Q (nI (sN (cS c))) M') : wp_X12_image 2 M Q := by
  unfold wp_X12_image
  rw [h.1.2.1.1, h.1.2.1.2.2.1]
  refine ⟨h.1.1, h.1.2.2.2.2.1.1, S_X6_copyFrom h.2.1 h.1.2.2.2.2.1 (by unfold apart; omega) (fun M2 f2 s2 => ?_)⟩
  have m2 := h.1.fr f2
  have n2 := h.2.1.fr f2 (fun a _ _ => by simp only [stA]; omega)
  have t2 := h.2.2.1.fr f2 (by simp only [stA]; omega) (by simp only [stA]; omega)
  rw [m2.2.1.2.2.2.1, m2.2.1.2.2.2.2.2.1]
  refine ⟨m2.1, m2.2.2.2.2.2.2.1.1, S_X9_copyFrom t2 n2.1.2.1.1 m2.2.2.2.2.2.2.1 (fun M4 f4 h4 => ?_)⟩
  have m4 := m2.fr f4
  refine ⟨m4.1, fun M5 e5 => ?_⟩
  have f5 : Fr (fun x => x = 2) M4 M5 := by rw [e5]; exact Fr.uI rfl
  have m5 := m4.fr f5
  have all : Fr (fun x => x = 2 ∨ (19 ≤ x ∧ x < 27) ∨ x = 31 ∨ x = 32) M M5 := ((f2.mono (fun x hx => by simp only [stA] at hx; omega)).t2 (f4.mono (fun x hx => by simp only [thA] at hx; omega))).t2 (f5.mono (fun x hx => by omega))
  have s5 := (s2.fr f4 (fun a _ _ => by simp only [thA]; omega)).fr f5 (fun a _ _ => by omega)
  rw [m5.2.1.2.2.1, s5.1.2.2.1.1]
  refine ⟨s5.1.1.1, hQ M5 (all.Kp (fun a q => by simp only [cpA]; omega)) ?_⟩
  obtain ⟨h1, h2, h3, h4', h5, h6, p, h7⟩ := h
  refine ⟨m5, h2.fr all (fun a _ _ => by omega), h3.fr all (by omega) (by omega), ?_, fun _ => ⟨s5, h4.fr f5 (by omega) (by omega)⟩, fun d hd => (h6 d hd).fr all (by omega) (by omega) (fun a ha => by omega), p, h7.fr all (by omega) (by omega)⟩
  rw [e5, mI_uI, if_pos rfl, if_pos rfl]; rfl
theorem S_X12_restore (h : AbsC M c) (hQ : ∀ M', Kp cpA M M' → AbsC M' (rstC c) → Q (aRestore c) M') : wp_X12_restore 2 M Q := by
  unfold rstC aRestore at hQ
  unfold wp_X12_restore
  rw [h.2.2.2.1]
  refine ⟨h.1.1, fun z => ?_, fun z => ?_⟩
  · have hi : cI c = true := Classical.byContradiction fun q => z (bI_0.mpr q)
    rw [if_pos hi, if_pos hi] at hQ
    obtain ⟨s2, w2⟩ := h.2.2.2.2.1 hi
    rw [h.1.2.1.1, h.1.2.1.2.2.1]
    refine ⟨h.2.1.1.1.1, S_X6_copyFrom s2 h.2.1.1.1 (by unfold apart; omega) (fun M2 f2 n2 => ?_)⟩
    have m2 := h.1.fr f2
    have t2 := w2.fr f2 (by simp only [stA]; omega) (by simp only [stA]; omega)
    have th2 := h.2.2.1.1.fr f2
    rw [m2.2.1.2.2.2.1, m2.2.1.2.2.2.2.2.1]
    refine ⟨m2.1, th2.1, S_X9_copyFrom t2 s2.1.2.1.1 th2 (fun M4 f4 h4 => ?_)⟩
    have m4 := m2.fr f4
    have all : Fr (fun x => (3 ≤ x ∧ x < 11) ∨ x = 27 ∨ x = 28) M M4 := (f2.mono (fun x hx => by simp only [stA] at hx; omega)).t2 (f4.mono (fun x hx => by simp only [thA] at hx; omega))
    have n4 := n2.fr f4 (fun a _ _ => by simp only [thA]; omega)
    rw [m4.2.1.1, n4.1.2.2.1.1]
    refine ⟨m4.1, n4.1.1.1, hQ M4 (all.Kp (fun a q => by simp only [cpA]; omega)) ?_⟩
    obtain ⟨h1, h2, h3, h4', h5, h6, p, h7⟩ := h
    refine ⟨m4, n4, h4, ?_, fun _ => ⟨s2.fr all (fun a _ _ => by omega), w2.fr all (by omega) (by omega)⟩, fun d hd => (h6 d hd).fr all (by omega) (by omega) (fun a ha => by omega), p, h7.fr all (by omega) (by omega)⟩
    rw [all.I (by omega)]; exact h4'
  · have hi : ¬ cI c = true := bI_0.mp z
    rw [if_neg hi, if_neg hi] at hQ
    exact hQ M Kp.rf h
theorem S_X12_count {x : Int32} (h : AbsC M c) (hQ : Q (aCount c x) M) : wp_X12_count 2 x M Q := by
  unfold aCount at hQ
  unfold wp_X12_count
  rw [h.1.2.1.1, h.2.1.1.2.2.1.1, h.2.1.1.2.2.1.2.1, h.2.1.1.2.2.1.2.2.1, h.2.1.1.2.2.1.2.2.2.2]
  have k1 := h.1.1
  have k2 := h.2.1.1.1.1
  refine ⟨fun z => ?_, fun z => ⟨k1, k2, ?_⟩, fun z => ⟨k1, k2, ?_⟩, fun z => ⟨k1, k2, S_X6_allChances h.2.1.1 ?_⟩, fun z => ⟨k1, k2, S_X6_allHundredths h.2.1.1 ?_⟩, fun z => ⟨k1, k2, ?_⟩, fun z => ⟨k1, k2, ?_⟩⟩
  · have n0 : ¬ x = 0 := fun e => by rw [e] at z; revert z; decide
    have n1 : ¬ x = 1 := fun e => by rw [e] at z; revert z; decide
    have n2 : ¬ x = 2 := fun e => by rw [e] at z; revert z; decide
    have n3 : ¬ x = 3 := fun e => by rw [e] at z; revert z; decide
    have n4 : ¬ x = 4 := fun e => by rw [e] at z; revert z; decide
    have n5 : ¬ x = 5 := fun e => by rw [e] at z; revert z; decide
    rw [if_neg n0, if_neg n1, if_neg n2, if_neg n3, if_neg n4, if_neg n5] at hQ
    exact hQ
  all_goals subst z; exact hQ
theorem S_X12_set {x y : Int32} (h : AbsC M c) (hQ : ∀ M', Kp cpA M M' → AbsC M' (nSet c x y) → Q (aSet c x y) M') : wp_X12_set 2 x y M Q := by
  unfold aSet nSet at hQ
  unfold wp_X12_set
  rw [h.1.2.1.1]
  refine ⟨h.1.1, h.2.1.1.1.1, S_X6_number h.2.1.1.1.1 ?_⟩
  rw [h.1.2.1.1, h.2.1.1.2.2.1.2.2.1, h.2.1.1.2.2.1.2.2.2.1, h.2.1.1.2.2.1.2.2.2.2]
  have up : ∀ k v σ', StTb (uI M 3 k v) 3 σ' → sN σ' = sN (cS c) → Kp cpA M (uI M 3 k v) ∧ AbsC (uI M 3 k v) (setS c σ') := fun k v σ' hs hn => by
    have f : Fr (fun a => a = 3) M (uI M 3 k v) := Fr.uI rfl
    obtain ⟨h1, h2, h3, h4, h5, h6, p, h7⟩ := h
    refine ⟨f.Kp (fun a q => by simp only [cpA]; omega), h1.fr f, hs, ?_, ?_, fun hi => ⟨(h5 hi).1.fr f (fun a _ _ => by omega), (h5 hi).2.fr f (by omega) (by omega)⟩, fun d hd => (h6 d hd).fr f (by omega) (by omega) (fun a ha => by omega), p, h7.fr f (by omega) (by omega)⟩
    · show ThAt _ 27 (sN σ') (cW c) (cH c) _
      rw [hn]; exact h3.fr f (by omega) (by omega)
    · rw [f.I (by omega)]; exact h4
  have e0 : x = 0 ↔ ix x = 0 := by
    constructor
    · intro e; rw [e]; rfl
    · intro e
      obtain ⟨j, hj, rfl⟩ := (inN_ix (x := x) (n := 1) (by omega)).mpr (by omega)
      have : j = 0 := by omega
      subst this; rfl
  have e1 : x = 1 ↔ ix x = 1 := by
    constructor
    · intro e; rw [e]; rfl
    · intro e
      obtain ⟨j, hj, rfl⟩ := (inN_ix (x := x) (n := 2) (by omega)).mpr (by omega)
      rw [ix_nI (by omega)] at e
      subst e; rfl
  have e2 : x = 2 ↔ ix x = 2 := by
    constructor
    · intro e; rw [e]; rfl
    · intro e
      obtain ⟨j, hj, rfl⟩ := (inN_ix (x := x) (n := 3) (by omega)).mpr (by omega)
      rw [ix_nI (by omega)] at e
      subst e; rfl
  refine ⟨h.1.1, h.2.1.1.1.1, S_X6_change h.2.1.1.1.1 (fun z y0 y1 => ?_) (fun z y0 y1 => ?_) (fun z y0 y1 => ?_) (fun z0 z1 z2 => ?_)⟩
  · obtain ⟨j, hj, rfl⟩ := nI_of y0
    have y1 := mt (nI_lt31 (a := 20) (by omega) hj).mpr y1
    rw [ix_nI hj, if_pos ⟨e0.mp z, by omega⟩, if_pos ⟨e0.mp z, by omega⟩] at hQ
    obtain ⟨k9, c9⟩ := up 7 (nI j) _ (h.2.1.setM (x := j) (by omega)) rfl
    refine ⟨fun q => absurd q (by decide), fun _ => ?_⟩
    rw [if_pos z]
    exact hQ _ k9 c9
  · obtain ⟨j, hj, rfl⟩ := nI_of y0
    have y1 := mt (nI_lt31 (a := 9) (by omega) hj).mpr y1
    have n0 : ¬ ix x = 0 := fun q => by have := e1.mp z; omega
    have m0 : ¬ (ix x = 0 ∧ j ≤ 20) := fun q => n0 q.1
    have m1 : ix x = 1 ∧ j ≤ 9 := ⟨e1.mp z, by omega⟩
    rw [ix_nI hj, if_neg m0, if_neg m0, if_pos m1, if_pos m1] at hQ
    obtain ⟨k9, c9⟩ := up 8 (nI j) _ (h.2.1.setK (x := j) (by omega)) rfl
    refine ⟨fun q => absurd q (by decide), fun _ => ?_⟩
    rw [if_neg (mt e0.mp n0), if_pos z]
    exact hQ _ k9 c9
  · obtain ⟨j, hj, rfl, ej, k1⟩ := ix_pos (k := 1) (by omega) y0
    have y1 := mt (nI_lt31 (a := 6) (by omega) hj).mpr y1
    have n0 : ¬ ix x = 0 := fun q => by have := e2.mp z; omega
    have n1 : ¬ ix x = 1 := fun q => by have := e2.mp z; omega
    have m0 : ¬ (ix x = 0 ∧ j ≤ 20) := fun q => n0 q.1
    have m1 : ¬ (ix x = 1 ∧ j ≤ 9) := fun q => n1 q.1
    have m2 : ix x = 2 ∧ 1 ≤ j ∧ j ≤ 6 := ⟨e2.mp z, by omega, by omega⟩
    rw [ej, if_neg m0, if_neg m0, if_neg m1, if_neg m1, if_pos m2, if_pos m2] at hQ
    obtain ⟨k9, c9⟩ := up 9 (nI j) _ (h.2.1.setH (x := j) ⟨by omega, by omega⟩) rfl
    refine ⟨fun q => absurd q (by decide), fun _ => ?_⟩
    rw [if_neg (mt e0.mp n0), if_neg (mt e1.mp n1)]
    exact hQ _ k9 c9
  · have m0 : ¬ (ix x = 0 ∧ ix y ≤ 20) := fun q => by
      rcases z0 (e0.mpr q.1) with w | w
      · exact inN_neg (n := 21) (by omega) w ((inN_ix (by omega)).mpr (by omega))
      · exact ix_hi (k := 20) (by omega) w q.2
    have m1 : ¬ (ix x = 1 ∧ ix y ≤ 9) := fun q => by
      rcases z1 (e1.mpr q.1) with w | w
      · exact inN_neg (n := 10) (by omega) w ((inN_ix (by omega)).mpr (by omega))
      · exact ix_hi (k := 9) (by omega) w q.2
    have m2 : ¬ (ix x = 2 ∧ 1 ≤ ix y ∧ ix y ≤ 6) := fun q => by
      rcases z2 (e2.mpr q.1) with w | w
      · exact ix_lo (k := 1) (by omega) w ⟨q.2.1, by have := q.2.2; omega⟩
      · exact ix_hi (k := 6) (by omega) w q.2.2
    rw [if_neg m0, if_neg m0, if_neg m1, if_neg m1, if_neg m2, if_neg m2] at hQ
    exact ⟨fun _ => hQ M Kp.rf h, fun q => absurd rfl q⟩
theorem S_X12_think {x p : Int32} (h : AbsC M c) (hk : cOK c) (hQ : QJ0 (aThink c x p) M) : wp_X12_think 2 x p M QJ0 := by
  have h6 := h.2.1.1.2.1.1
  unfold aThink at hQ
  refine ⟨h.1.1, S_X12_isWorth h (fun i hi e => ⟨fun z => absurd z (by decide), fun _ => S_X12_isPart (fun j hj e2 => ⟨fun _ => ?_, fun z => absurd z (by decide)⟩) (fun hn => ⟨fun z => absurd rfl z, fun _ => ?_⟩)⟩) (fun hn => ⟨fun _ => ?_, fun z => absurd rfl z⟩)⟩
  · have ei : ix x = i := by rw [e, ix_nI (by omega)]
    have ej : ix p = j := by rw [e2, ix_nI (by omega)]
    rw [ei, ej, if_pos ⟨hi, hj⟩] at hQ
    rw [h.1.2.1.1]
    refine ⟨h.1.1, h.2.1.1.1.1, S_ready h (fun r => ⟨fun _ => ?_, fun z => absurd z (by decide)⟩) (fun r => ⟨fun z => absurd rfl z, fun _ => ?_⟩)⟩
    · rw [if_pos r] at hQ
      have t := h.2.2.1
      rw [h.1.2.1.1, h.1.2.1.2.2.2.1, t.1.2.1, t.1.2.2.2, e, nI_clamp (by omega), t.2.2.2.2 i hi]
      have hp := hk.1 (by omega)
      have l1 := t.2.2.2.1 i hi
      have l2 := sumN_le' t.2.2.2.1 h6 (sN (cS c)) (Nat.le_refl _)
      have e0 : p = (0 : Int32) ↔ j = 0 := by rw [e2]; exact nI_eq (b := 0) (by omega) (by omega)
      refine ⟨h.1.1, t.1.1, t.1.2.2.1, vp_in_nI (by omega) (by omega), S_X9_allWeights h.2.1.1 t.1 t.2.2.2.2 (S_X12_inLeastTerms (by omega) (by omega) (fun _ => by omega) ?_)⟩
      by_cases z : j = 0
      · rw [if_pos z] at hQ; rw [if_pos (e0.mpr z)]; exact hQ
      · rw [if_neg z] at hQ; rw [if_neg (mt e0.mp z)]; exact hQ
    · rw [if_neg r] at hQ; exact hQ
  · rw [if_neg (fun q => hn ((inN_ix (by omega)).mpr q.2))] at hQ; exact hQ
  · rw [if_neg (fun q => hn ((inN_ix (by omega)).mpr q.1))] at hQ; exact hQ
end COMP
