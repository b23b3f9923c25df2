/-! THE COMPONENT: a day, the best, beside, at rest, the image, counts -/
abbrev bsC (n hr p : Int32) : Prop := 10 ≤ ix n ∧ ix n ≤ 50 ∧ 1 ≤ ix hr ∧ ix hr ≤ 2 ∧ ix p < 3
def bsI (c : CT) (n hr : Nat) : Nat := bst (fbF (cS c) n (100 / n) hr) (bse (100 / n) (100 / n))
def aBest (c : CT) (n hr p : Int32) : Int64 := if bsC n hr p then (if rdy c then (if ix p = 0 then lN (pB (100 / ix n) (bsI c (ix n) (ix hr)) * ix n) else if ix p = 1 then lN (pA (100 / ix n) (bsI c (ix n) (ix hr)) * ix n) else fbF (cS c) (ix n) (100 / ix n) (ix hr) (bsI c (ix n) (ix hr))) else -4000000000000000003) else -4000000000000000001
def aBeside (c : CT) (b a ob oa : Int32) : Int64 := if sl b a ∧ sl ob oa then (if rdy c then jI (mbB (cS c) (ix b) (ix a) (ix ob) (ix oa) false) else -4000000000000000003) else -4000000000000000001
noncomputable def aRest (c : CT) (n i : Int32) : Int32 := if 20 ≤ ix n ∧ ix n ≤ 50 ∧ (-1 : Int32) ≤ i then (if rdy c then rsV (atR (cS c) (ix n) (100 / ix n)) (bse (100 / ix n) (100 / ix n)) (nbr (100 / ix n)) i else -3) else -1
def aStreets (b a ob oa : Int32) : Int32 := if sl b a ∧ sl ob oa then iI (max 0 (max ((ix ob : Int) - ix a) ((ix b : Int) - ix oa))) else -1
def setI (c : CT) : CT := (cS c, cW c, cH c, true, cS c, cW c, cH c, cG c)
def rstC (c : CT) : CT := if cI c = true then (cS2 c, cW2 c, cH2 c, cI c, cS2 c, cW2 c, cH2 c, cG c) else c
def aRestore (c : CT) : Int32 := if cI c = true then nI (sN (cS2 c)) else -3
def aCount (c : CT) (x : Int32) : Int32 := if x = 0 then nI (sN (cS c)) else if x = 1 then nI (sS (cS c)) else if x = 2 then nI (sumN (sCh (cS c)) (sN (cS c))) else if x = 3 then nI (sumN (sPt (cS c)) (sS (cS c))) else if x = 4 then nI (sMo (cS c)) else if x = 5 then nI (sHo (cS c)) else -1
section COMP
variable {M : Mem} {c : CT} {Q : Int32 → Mem → Prop} {QR : Nat → Mem → Prop} {QJ0 : Int64 → Mem → Prop} {QV0 : Mem → Prop}
theorem sp_scr {a : Nat} (h : spA 76 a) : scr a := by simp only [spA, scr] at *; omega
theorem S_X12_day {d w z p : Int32} (h : AbsC M c) (hQ : ∀ M', Kp cpA M M' → AbsC M' c → Q (aDay c d w z p) M') : wp_X12_day 2 d w z p M Q := by
  have h6 := h.2.1.1.2.1.1
  unfold aDay at hQ
  refine ⟨h.1.1, S_X12_isWorth h (fun i hi e => ⟨fun z => absurd z (by decide), fun _ => ⟨fun y => ?_, fun y => ⟨fun y2 => ⟨h.1.1, S_X12_readyWayOn h (fun hn => ⟨fun z => absurd rfl z, fun _ => ⟨h.1.1, S_X12_whyNotReady h ?_⟩⟩) (fun i2 a hi2 e2 g1 g2 g3 g4 g5 => ⟨fun _ => ?_, fun z => absurd z g2⟩)⟩, fun y2 => ?_⟩⟩⟩) (fun hn => ⟨fun _ => ?_, fun z => absurd rfl z⟩)⟩
  · rw [if_neg (fun q => inN_neg (n := 3) (by omega) y ((inN_ix (by omega)).mpr q.2))] at hQ; exact hQ M Kp.rf h
  · obtain ⟨j, hj, rfl⟩ := nI_of y
    have y2 := (nI_le31 (b := 2) hj (by omega)).mp y2
    rw [ix_nI hj, if_pos ⟨by rw [e, ix_nI (by omega)]; exact hi, by omega⟩, if_neg hn] at hQ
    exact hQ M Kp.rf h
  · obtain ⟨j, hj, rfl⟩ := nI_of y
    have y2 := (nI_le31 (b := 2) hj (by omega)).mp y2
    have ew : ix w = i := by rw [e, ix_nI (by omega)]
    rw [ix_nI hj, if_pos ⟨by omega, by omega⟩, if_pos g1, ew] at hQ
    rw [h.1.2.1.1, h.2.1.1.1.2.1.2.1, h.2.1.1.1.2.2.2.2.1, h.1.2.1.2.2.2.2.2.2.2.2.1, e, nI_clamp (by omega), (h.2.1.1.2.2.2.1 i hi).2]
    refine ⟨h.1.1, h.2.1.1.1.1, h.2.1.1.1.2.2.1.2.1, vp_in_nI (by omega) (by omega), h.1.2.2.2.2.2.2.2.1.1, S_X0_live h.1.2.2.2.2.2.2.2.1 h.2.1 g5 hi (by unfold apart; omega) (by simp only [cpA, dyA] at *; omega) (fun M9 f9 q4 q5 q6 => ?_)⟩
    obtain ⟨k9, c9⟩ := h.keep f9 (fun x hx => dy_scr hx)
    have hQ := hQ M9 k9 c9
    rw [c9.1.2.1.2.2.2.2.2.2.2.2.1, q4, q5, q6]
    have e0 : nI j = (0 : Int32) ↔ j = 0 := nI_eq (b := 0) hj (by omega)
    have e1 : nI j = (1 : Int32) ↔ j = 1 := nI_eq (b := 1) hj (by omega)
    refine ⟨fun q => ⟨fun r => ?_, fun r => ?_⟩, fun q => ?_⟩
    · rw [if_neg (mt e0.mpr q), if_neg (mt e1.mpr r)] at hQ
      exact ⟨c9.1.1, c9.1.2.2.2.2.2.2.2.1.1, hQ⟩
    · rw [if_neg (mt e0.mpr q), if_pos (e1.mp r)] at hQ
      exact ⟨c9.1.1, c9.1.2.2.2.2.2.2.2.1.1, hQ⟩
    · rw [if_pos (e0.mp q)] at hQ
      exact ⟨c9.1.1, c9.1.2.2.2.2.2.2.2.1.1, hQ⟩
  · rw [if_neg (fun q => y2 ?_)] at hQ
    · exact hQ M Kp.rf h
    · obtain ⟨j, hj, rfl⟩ := (inN_ix (by omega)).mpr q.2
      exact nI_le (b := 2) (by omega) (by omega)
  · rw [if_neg (fun q => hn ((inN_ix (by omega)).mpr q.1))] at hQ; exact hQ M Kp.rf h
theorem S_X12_best {n hr p : Int32} (h : AbsC M c) (hQ : ∀ M', Kp cpA M M' → AbsC M' c → QJ0 (aBest c n hr p) M') : wp_X12_best 2 n hr p M QJ0 := by
  unfold aBest at hQ
  have no : ¬ bsC n hr p → QJ0 (-4000000000000000001) M := fun q => by rw [if_neg q] at hQ; exact hQ M Kp.rf h
  have sm : ∀ x : Int32, ¬ x < 0 → ∃ j, j < 2147483648 ∧ x = nI j ∧ ix x = j := fun x hx => by
    obtain ⟨j, hj, rfl⟩ := nI_of hx
    exact ⟨j, hj, rfl, ix_nI hj⟩
  have lo : ∀ (x : Int32) (k : Nat), k < 2147483648 → x < nI k → ¬ (k ≤ ix x ∧ ix x < 2147483648) := fun x k hk hx q => by
    by_cases z : x < 0
    · unfold ix at q; rw [if_pos z] at q; omega
    · obtain ⟨j, hj, rfl, ej⟩ := sm x z
      have := (nI_lt31 hj hk).mp hx
      omega
  have hi9 : ∀ (x : Int32) (k : Nat), k < 2147483648 → nI k < x → ¬ ix x ≤ k := fun x k hk hx q => by
    by_cases z : x < 0
    · unfold ix at q; rw [if_pos z] at q; omega
    · obtain ⟨j, hj, rfl, ej⟩ := sm x z
      have := (nI_lt31 hk hj).mp hx
      omega
  have pos : ∀ (x : Int32) (k : Nat), k < 2147483648 → ¬ x < nI k → ∃ j, j < 2147483648 ∧ x = nI j ∧ ix x = j ∧ k ≤ j := fun x k hk hx => by
    have z : ¬ x < 0 := fun z => hx (by
      have e1 := Int32.lt_iff_toInt_lt.mp z
      have e2 := nI_toInt (n := k) hk
      have e3 : (0 : Int32).toInt = 0 := rfl
      rw [Int32.lt_iff_toInt_lt]
      omega)
    obtain ⟨j, hj, rfl, ej⟩ := sm x z
    exact ⟨j, hj, rfl, ej, by have := mt (nI_lt31 hj hk).mpr hx; omega⟩
  refine ⟨fun q => no (fun r => lo n 10 (by omega) q ⟨r.1, by have := r.2.1; omega⟩), fun q => ⟨fun q2 => no (fun r => hi9 n 50 (by omega) q2 r.2.1), fun q2 => ⟨fun q3 => no (fun r => lo hr 1 (by omega) q3 ⟨r.2.2.1, by have := r.2.2.2.1; omega⟩), fun q3 => ⟨fun q4 => no (fun r => hi9 hr 2 (by omega) q4 r.2.2.2.1), fun q4 => ⟨fun q5 => no (fun r => inN_neg (n := 3) (by omega) q5 ((inN_ix (by omega)).mpr r.2.2.2.2)), fun q5 => ⟨fun q6 => ?_, fun q6 => no (fun r => ?_)⟩⟩⟩⟩⟩⟩
  · obtain ⟨n', n1, rfl, n2, n3⟩ := pos n 10 (by omega) q
    obtain ⟨r', r1, rfl, r2, r3⟩ := pos hr 1 (by omega) q3
    obtain ⟨p', p1, rfl, p2⟩ := sm p q5
    have n4 := mt (nI_lt31 (a := 50) (by omega) n1).mpr q2
    have r4 := mt (nI_lt31 (a := 2) (by omega) r1).mpr q4
    have p4 := (nI_le31 (b := 2) p1 (by omega)).mp q6
    rw [if_pos (show bsC (nI n') (nI r') (nI p') from ⟨by omega, by omega, by omega, by omega, by omega⟩), n2, r2, p2] at hQ
    rw [h.1.2.1.1]
    refine ⟨h.1.1, h.2.1.1.1.1, S_ready h (fun r => ⟨fun _ => ?_, fun z => absurd z (by decide)⟩) (fun r => ⟨fun z => absurd rfl z, fun _ => ?_⟩)⟩
    · rw [if_pos r] at hQ
      rw [h.1.2.1.1, h.1.2.1.2.2.2.2.2.2.2.2.2]
      refine ⟨h.1.1, h.1.2.2.2.2.2.2.2.2.1.1, S_X5_findBest h.1.2.2.2.2.2.2.2.2.1 ⟨n3, by omega⟩ (by omega) h.2.1 (by unfold apart; omega) (fun M9 f9 j0 j1 j2 => ?_)⟩
      obtain ⟨k9, c9⟩ := h.keep f9 (fun x hx => sp_scr hx)
      have hQ := hQ M9 k9 c9
      rw [c9.1.2.1.2.2.2.2.2.2.2.2.2, j0, j1, j2]
      have e0 : nI p' = (0 : Int32) ↔ p' = 0 := nI_eq (b := 0) p1 (by omega)
      have e1 : nI p' = (1 : Int32) ↔ p' = 1 := nI_eq (b := 1) p1 (by omega)
      have hL : 100 / n' ≤ 10 := by
        have h1 := Nat.div_le_div_left (a := 100) n3 (by omega)
        omega
      have hL2 : 2 ≤ 100 / n' := by
        have h2 := Nat.div_le_div_left (a := 100) (show n' ≤ 50 by omega) (by omega)
        omega
      have tot0 : 1 ≤ bse (100 / n') (100 / n') := by
        have := bse_mono (L := 100 / n') (100 / n' - 1) 1
        rw [show 1 + (100 / n' - 1) = 100 / n' by omega] at this
        have e1 : bse (100 / n') 1 = 0 + (100 / n' - 0) := rfl
        omega
      have bl := bst_lt (f := fbF (cS c) n' (100 / n') r') (bse (100 / n') (100 / n')) (by omega)
      have pd := prd (n := n') (by omega) (Nat.div_mul_le_self 100 n') bl
      change (¬ nI p' = 0 → (¬ nI p' = 1 → _ ∧ _ ∧ QJ0 (fbF (cS c) n' (100 / n') r' (bsI c n' r')) M9) ∧ (nI p' = 1 → _ ∧ _ ∧ QJ0 ((nI (pA (100 / n') (bsI c n' r') * n')).toInt64) M9)) ∧ (nI p' = 0 → _ ∧ _ ∧ QJ0 ((nI (pB (100 / n') (bsI c n' r') * n')).toInt64) M9)
      change pB (100 / n') (bsI c n' r') < pA (100 / n') (bsI c n' r') ∧ pA (100 / n') (bsI c n' r') ≤ 100 / n' ∧ pB (100 / n') (bsI c n' r') * n' ≤ 100 ∧ pA (100 / n') (bsI c n' r') * n' ≤ 100 ∧ _ at pd
      rw [nI_l (by omega), nI_l (by omega)]
      refine ⟨fun q => ⟨fun r => ?_, fun r => ?_⟩, fun q => ?_⟩
      · rw [if_neg (mt e0.mpr q), if_neg (mt e1.mpr r)] at hQ
        exact ⟨c9.1.1, c9.1.2.2.2.2.2.2.2.2.1.1, hQ⟩
      · rw [if_neg (mt e0.mpr q), if_pos (e1.mp r)] at hQ
        exact ⟨c9.1.1, c9.1.2.2.2.2.2.2.2.2.1.1, hQ⟩
      · rw [if_pos (e0.mp q)] at hQ
        exact ⟨c9.1.1, c9.1.2.2.2.2.2.2.2.2.1.1, hQ⟩
    · rw [if_neg r] at hQ; exact hQ M Kp.rf h
  · obtain ⟨j, hj, rfl⟩ := (inN_ix (by omega)).mpr r.2.2.2.2
    exact q6 (nI_le (b := 2) (by omega) (by omega))
theorem S_X12_beside {b a ob oa : Int32} (h : AbsC M c) (hQ : QJ0 (aBeside c b a ob oa) M) : wp_X12_beside 2 b a ob oa M QJ0 := by
  unfold aBeside at hQ
  refine S_X12_isSlate (fun p q hpq hq e3 e4 => ⟨fun z => absurd z (by decide), fun _ => S_X12_isSlate (fun p2 q2 hpq2 hq2 e5 e6 => ⟨fun _ => ?_, fun z => absurd z (by decide)⟩) (fun hn => ⟨fun z => absurd rfl z, fun _ => ?_⟩)⟩) (fun hn => ⟨fun _ => ?_, fun z => absurd rfl z⟩)
  · subst e3 e4 e5 e6
    unfold sl at hQ
    rw [ix_nI (by omega), ix_nI (by omega), ix_nI (by omega), ix_nI (by omega), if_pos ⟨⟨hpq, hq⟩, hpq2, hq2⟩] at hQ
    rw [h.1.2.1.1]
    refine ⟨h.1.1, h.2.1.1.1.1, S_ready h (fun r => ⟨fun _ => ?_, fun z => absurd z (by decide)⟩) (fun r => ⟨fun z => absurd rfl z, fun _ => ?_⟩)⟩
    · rw [if_pos r] at hQ
      rw [h.1.2.1.1]
      exact ⟨h.1.1, h.2.1.1.1.1, S_X6_meanBeside (al := false) h.2.1.1 (by omega) hq (by omega) hq2 hQ⟩
    · rw [if_neg r] at hQ; exact hQ
  · rw [if_neg (fun q => hn (isSl_ix.mpr q.2))] at hQ; exact hQ
  · rw [if_neg (fun q => hn (isSl_ix.mpr q.1))] at hQ; exact hQ
theorem S_X12_streets {b a ob oa : Int32} (hQ : Q (aStreets b a ob oa) M) : wp_X12_streets 2 b a ob oa M Q := by
  unfold aStreets at hQ
  refine S_X12_isSlate (fun p q hpq hq e3 e4 => ⟨fun z => absurd z (by decide), fun _ => S_X12_isSlate (fun p2 q2 hpq2 hq2 e5 e6 => ⟨fun _ => ?_, fun z => absurd z (by decide)⟩) (fun hn => ⟨fun z => absurd rfl z, fun _ => ?_⟩)⟩) (fun hn => ⟨fun _ => ?_, fun z => absurd rfl z⟩)
  · subst e3 e4 e5 e6
    unfold sl at hQ
    rw [ix_nI (by omega), ix_nI (by omega), ix_nI (by omega), ix_nI (by omega), if_pos ⟨⟨hpq, hq⟩, hpq2, hq2⟩] at hQ
    rw [nI_iI, nI_iI, nI_iI, nI_iI, iI_sub, iI_sub, iMax_iI (by omega) (by omega), show (0 : Int32) = iI 0 from rfl, iMax_iI (by omega) (by omega)]
    exact hQ
  · rw [if_neg (fun q => hn (isSl_ix.mpr q.2))] at hQ; exact hQ
  · rw [if_neg (fun q => hn (isSl_ix.mpr q.1))] at hQ; exact hQ
end COMP
