/-! SUMS OF WEIGHTS STAY ABOVE 0 -/
section COK
variable {M : Mem} {c : CT}
theorem sumN_ch {σ : StT} (h : sWF σ) (h0 : 0 < sN σ) : 0 < sumN (sCh σ) (sN σ) := (sumN_pos _).mpr ⟨0, h0, (h.2.1 0 h0).1⟩
theorem cOK_anew (h : AbsC M c) (k : cOK c) : cOK (nAnew c) := by
  unfold nAnew
  split
  · exact ⟨fun h0 => sumN_ch h.2.1.1.2.1 h0, k.2⟩
  · exact k
theorem cOK_event {e b a : Int32} (k : cOK c) : cOK (nEvent c e b a) := by
  unfold nEvent
  split
  · rename_i q
    obtain ⟨i, hi, hp⟩ := (sumN_pos _).mp q.2.2.2
    exact ⟨fun _ => (sumN_pos _).mpr ⟨i, hi, stl_pos hi hp⟩, k.2⟩
  · exact k
theorem cOK_street {d : Int32} (h : AbsC M (nStreet c d)) (k : cOK c) : cOK (nStreet c d) := by
  revert h
  unfold nStreet
  split
  · intro h
    exact ⟨fun h0 => sumN_ch h.2.1.1.2.1 h0, k.2⟩
  · intro _
    exact k
theorem cOK_setI (k : cOK c) : cOK (setI c) := ⟨k.1, fun _ => k.1⟩
theorem cOK_rst (k : cOK c) : cOK (rstC c) := by
  unfold rstC
  split
  · rename_i hi
    exact ⟨k.2 hi, k.2⟩
  · exact k
theorem cOK_set {x y : Int32} (k : cOK c) : cOK (nSet c x y) := by
  unfold nSet
  split
  · exact k
  · split
    · exact k
    · split <;> exact k
theorem cOK_setG {d : Nat} {g : ShT} (k : cOK c) : cOK (setG c d g) := k
theorem cOK_put {d i v : Int32} (k : cOK c) : cOK (nPut c d i v) := by
  unfold nPut
  split <;> exact k
theorem cOK_copy {d i e j n : Int32} (k : cOK c) : cOK (nCopy c d i e j n) := by
  unfold nCopy
  split <;> exact k
theorem cOK_row {d s n : Int32} (k : cOK c) : cOK (nRow c d s n) := by
  unfold nRow
  split <;> exact k
theorem cOK_keep {d w kd f : Int32} (k : cOK c) : cOK (nKeep c d w kd f) := by
  unfold nKeep
  split <;> exact k
end COK
