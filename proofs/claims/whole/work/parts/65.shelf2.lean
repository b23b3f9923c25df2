/-! SHELVES: one made anew, the rest as it was -/
section SHELF
variable {M : Mem} {c : CT} {QV0 : Mem → Prop}
theorem CmOK.uR {q v : Nat} (h : CmOK M) (h1 : 34 ≤ q) (h2 : q < 50) : CmOK (uR M q 0 v) := by
  obtain ⟨a1, a2, a3, a4, a5, a6, a7, a8, a9, a10⟩ := h
  exact ⟨a1, by rw [mR_o (show 2 ≠ q by omega)]; exact a2, by rw [mR_o (show 33 ≠ q by omega)]; exact a3, a4.uR (by omega), a5.uR (by omega), a6.uR (by omega), a7.uR (by omega), a8.uR (by omega), a9.uR (by omega) (by omega) (by omega), a10⟩
theorem ShAt.uR {s q v : Nat} {g : ShT} (h : ShAt M s g) (hq : s ≠ q) (hq2 : q < 121) : ShAt (uR M q 0 v) s g := by
  obtain ⟨k, h⟩ := h
  refine ⟨?_, ?_⟩
  · unfold ShOK
    rw [mR_o hq, mK_uR, mN_uR]
    exact k
  · rw [mR_o hq, mI_uR]
    exact h
theorem AbsC.shelf {d v : Nat} {g : ShT} {M' : Mem} (h : AbsC M c) (hd : d < 8) (f : Fr (fun x => x = 34 + 2 * d ∨ x = 34 + 2 * d + 1) (uR M (34 + 2 * d) 0 v) M') (hg : ShAt M' (34 + 2 * d) g) : Kp cpA M M' ∧ AbsC M' (setG c d g) := by
  have kp : Kp cpA M M' := by
    refine Kp.tr (M1 := uR M (34 + 2 * d) 0 v) ⟨Nat.le_refl _, fun a ha _ => ⟨rfl, rfl, mR_o (fun e => ha (by simp only [cpA]; omega)), rfl, rfl⟩⟩ (f.Kp (fun a q => by simp only [cpA]; omega))
  refine ⟨kp, ?_⟩
  obtain ⟨h1, h2, h3, h4, h5, h6, p, h7⟩ := h
  refine ⟨(h1.uR (by omega) (by omega)).fr f, (h2.uR (by omega)).fr f (fun a _ _ => by omega), (h3.uR (by omega)).fr f (by omega) (by omega), ?_, fun hi => ⟨((h5 hi).1.uR (by omega)).fr f (fun a _ _ => by omega), ((h5 hi).2.uR (by omega)).fr f (by omega) (by omega)⟩, fun j hj => ?_, p, (h7.uR (by omega)).fr f (by omega) (by omega)⟩
  · rw [f.I (by omega)]; exact h4
  · show ShAt M' (34 + 2 * j) (if j = d then g else cG c j)
    by_cases e : j = d
    · rw [if_pos e, e]; exact hg
    · rw [if_neg e]; exact ((h6 j hj).uR (by omega) (by omega)).fr f (by omega) (by omega) (fun a ha => by omega)
end SHELF
