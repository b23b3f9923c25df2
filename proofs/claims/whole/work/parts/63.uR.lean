/-! A reference changed at another object leaves all as it is -/
section UR
variable {M : Mem} {q k v s : Nat}
theorem mR_o (h : s ≠ q) : mR (uR M q k v) s = mR M s := up2_ne h
theorem StOK.uR (h : StOK M s) (hq : s ≠ q) : StOK (uR M q k v) s := by
  unfold StOK
  rw [mR_o hq, mK_uR, mN_uR]
  exact h
theorem ThOK.uR (h : ThOK M s) (hq : s ≠ q) : ThOK (uR M q k v) s := by
  unfold ThOK
  rw [mR_o hq, mK_uR, mN_uR]
  exact h
theorem TxOK.uR (h : TxOK M s) (hq : s ≠ q) : TxOK (uR M q k v) s := by
  unfold TxOK
  rw [mR_o hq, mK_uR, mN_uR]
  exact h
theorem SpOK.uR (h : SpOK M s) (hq : s ≠ q) (h3 : s + 3 ≠ q) (h5 : s + 5 ≠ q) : SpOK (uR M q k v) s := by
  obtain ⟨a1, a2, a3, a4, a5, a6, a7, a8, a9, a10⟩ := h
  exact ⟨a1, by rw [mR_o hq]; exact a2, a3, a4.uR h3, a5.uR h5, a6, a7, a8, a9, a10⟩
theorem DyOK.uR (h : DyOK M s) (hq : q < s ∨ s + 24 ≤ q) : DyOK (uR M q k v) s := by
  obtain ⟨a1, a2, a3, a4, a5, a6, a7, a8, a9⟩ := h
  refine ⟨a1, by rw [mR_o (by omega)]; exact a2, by rw [mR_o (by omega)]; exact a3, a4, a5, a6, a7, fun h hh => ?_, fun h hh => ?_⟩
  · rw [mR_o (by omega)]
    exact ⟨(a8 h hh).1, (a8 h hh).2.uR (by omega)⟩
  · rw [mR_o (by omega)]
    exact a9 h hh
theorem StTb.uR {σ : StT} (h : StTb M s σ) (hq : s ≠ q) : StTb (uR M q k v) s σ := ⟨⟨h.1.1.uR hq, h.1.2⟩, h.2⟩
theorem ThAt.uR {n c : Nat} {w : Nat → Nat} {hh : Int} (h : ThAt M s n w hh c) (hq : s ≠ q) : ThAt (uR M q k v) s n w hh c := ⟨h.1.uR hq, h.2⟩
theorem PsAt.uR {p : PsT} (h : PsAt M s p) (hq : s ≠ q) : PsAt (uR M q k v) s p := ⟨h.1.uR hq, h.2⟩
end UR
