/-! THE COMPONENT: a row laid on a shelf -/
def aRow (d s n : Int32) : Int32 := if ix d < 8 ∧ ix s < 3 ∧ n ≤ 100 then (if 0 ≤ n then 0 else -14) else -1
def nRow (c : CT) (d s n : Int32) : CT := if ix d < 8 ∧ ix s < 3 ∧ ix n ≤ 100 then setG c (ix d) (2, ix s, ix n, fun _ => 0) else c
section COMP
variable {M : Mem} {c : CT} {Q : Int32 → Mem → Prop}
theorem S_X12_row {d s n : Int32} (h : AbsC M c) (hQ : ∀ M', Kp cpA M M' → AbsC M' (nRow c d s n) → Q (aRow d s n) M') : wp_X12_row 2 d s n M Q := by
  unfold nRow aRow at hQ
  refine S_X12_isShelf (fun k hk e1 => ⟨fun z => absurd z (by decide), fun _ => ⟨fun y => ?_, fun y => ⟨fun y2 => ?_, fun y2 => ⟨fun y3 => ⟨fun y4 => ?_, fun y4 => ?_⟩, fun y3 => ?_⟩⟩⟩⟩) (fun hn => ⟨fun _ => ?_, fun z => absurd rfl z⟩)
  · have no : ¬ ix s < 3 := fun q => inN_neg (n := 3) (by omega) y ((inN_ix (by omega)).mpr q)
    rw [if_neg (fun q => no q.2.1), if_neg (fun q => no q.2.1)] at hQ; exact hQ M Kp.rf h
  · have no : ¬ ix s < 3 := fun q => ix_hi (k := 2) (by omega) y2 (by omega)
    rw [if_neg (fun q => no q.2.1), if_neg (fun q => no q.2.1)] at hQ; exact hQ M Kp.rf h
  · obtain ⟨t, ht, rfl⟩ := nI_of y
    have y2 := mt (nI_lt31 (a := 2) (by omega) ht).mpr y2
    have y5 : ¬ n < 0 := fun z => by
      have e1 := Int32.lt_iff_toInt_lt.mp z
      have e2 := Int32.le_iff_toInt_le.mp y4
      omega
    obtain ⟨m, hm, rfl⟩ := nI_of y5
    have y6 := (nI_le31 (b := 100) hm (by omega)).mp y3
    have ek : ix d = k := by rw [e1, ix_nI (by omega)]
    rw [ek, ix_nI ht, ix_nI hm, if_pos ⟨hk, by omega, y6⟩, if_pos ⟨hk, by omega, y3⟩, if_pos y4] at hQ
    have g := h.2.2.2.2.2.1 k hk
    rw [h.1.2.1.2.2.2.2.2.2.1, h.1.2.2.1.2.1, e1, nI_clamp (by omega), S_shelfR h hk]
    refine ⟨h.1.1, h.1.2.2.1.1, vp_in_nI (by omega) (by omega), g.1.1, g.1.1, g.1.1, fun M1 x1 M4 x4 M7 x7 => ⟨by rw [x7, x4, x1]; exact g.1.1, fun M3 x3 M6 x6 => ?_⟩⟩
    have em : iMax 0 (iMin 100 (nI m)) = nI m := by
      rw [show (100 : Int32) = nI 100 from rfl, show (0 : Int32) = nI 0 from rfl, iMin_nI (by omega) (by omega), iMax_nI (by omega) (by omega)]
      congr 1; omega
    rw [em] at x6
    have f6 : Fr (fun x => x = 34 + 2 * k) (uR M (34 + 2 * k) 0 0) M6 := by
      rw [x6, x3, x7, x4, x1]
      exact (((Fr.uI (A := fun x => x = 34 + 2 * k) rfl).t2 (Fr.uI rfl)).t2 (Fr.uI rfl)).t2 (Fr.uI rfl)
    have i1 : mI M6 (34 + 2 * k) 1 = nI t := by rw [x6, mI_uI, if_pos rfl, if_neg (by decide), x3, mI_uI, if_pos rfl, if_pos rfl]
    have i2 : mI M6 (34 + 2 * k) 2 = nI m := by rw [x6, mI_uI, if_pos rfl, if_pos rfl]
    have r3 : mR M6 (34 + 2 * k) 3 = 34 + 2 * k + 1 := by rw [f6.R, mR_uR, if_pos rfl, if_neg (by decide)]; exact g.1.2.1
    have r0 : mR M6 (34 + 2 * k) 0 = 0 := by rw [f6.R, mR_uR, if_pos rfl, if_pos rfl]
    rw [r3]
    refine S_fill (n := 100) (by rw [f6.K]; exact g.1.2.2.1) (by rw [f6.N]; exact g.1.2.2.2) (by omega) (fun M9 f9 hz => ?_)
    have fa : Fr (fun x => x = 34 + 2 * k ∨ x = 34 + 2 * k + 1) (uR M (34 + 2 * k) 0 0) M9 := (f6.mono (fun x hx => Or.inl hx)).t2 (f9.mono (fun x hx => Or.inr hx))
    have gg : ShAt M9 (34 + 2 * k) (2, t, m, fun _ => 0) := by
      refine ⟨⟨by rw [fa.K]; exact g.1.1, by rw [f9.R]; exact r3, by rw [fa.K]; exact g.1.2.2.1, by rw [fa.N]; exact g.1.2.2.2⟩, Or.inr (Or.inr ⟨rfl, by rw [f9.R]; exact r0, by show t ≤ 2; omega, by rw [f9.I (by omega)]; exact i1, y6, by rw [f9.I (by omega)]; exact i2, fun i hi => ⟨⟨show (-2147483648 : Int) ≤ 0 by omega, show (0 : Int) < 2147483648 by omega, fun _ => ⟨show (-128 : Int) ≤ 0 by omega, show (0 : Int) < 128 by omega⟩⟩, ?_⟩⟩)⟩
      change i < m at hi
      rw [hz i (by omega)]; rfl
    obtain ⟨k9, c9⟩ := h.shelf hk fa gg
    exact hQ M9 k9 c9
  · have y5 : ¬ ix n ≤ 100 := fun q => by
      obtain ⟨j, hj, rfl⟩ := (inN_ix (x := n) (n := 101) (by omega)).mpr (by omega)
      exact y4 (nI_pos' (by omega))
    obtain ⟨t, ht, rfl⟩ := nI_of y
    have y2 := mt (nI_lt31 (a := 2) (by omega) ht).mpr y2
    rw [if_neg (fun q => y5 q.2.2), if_pos ⟨by rw [e1, ix_nI (by omega)]; exact hk, by rw [ix_nI ht]; omega, y3⟩, if_neg y4] at hQ
    exact hQ M Kp.rf h
  · have y5 : ¬ ix n ≤ 100 := fun q => by
      obtain ⟨j, hj, rfl⟩ := (inN_ix (x := n) (n := 101) (by omega)).mpr (by omega)
      exact y3 (nI_le (b := 100) (by omega) (by omega))
    rw [if_neg (fun q => y5 q.2.2), if_neg (fun q => y3 q.2.2)] at hQ
    exact hQ M Kp.rf h
  · have no : ¬ ix d < 8 := fun q => hn ((inN_ix (by omega)).mpr q)
    rw [if_neg (fun q => no q.1), if_neg (fun q => no q.1)] at hQ; exact hQ M Kp.rf h
end COMP
