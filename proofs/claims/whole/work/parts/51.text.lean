/-! STREETS: a copy; TEXTS: sign by sign -/
section STREET
variable {M : Mem} {s b : Nat} {σ : StT} {Q : Int32 → Mem → Prop} {QJ0 : Int64 → Mem → Prop} {QV0 : Mem → Prop}
theorem S_X6_copyFrom (hb : StTb M b σ) (hs : StOK M s) (hd : apart b 8 s 8) (hQ : ∀ M', Fr (stA s) M M' → StTb M' s σ → QV0 M') : wp_X6_copyFrom s b M QV0 := by
  obtain ⟨kb, ⟨b1, b2, b4, b5, b6, b10, b11⟩, ⟨bk1, bk2, bk3, bk4, bk5, bk6, bk7⟩, bn1, bn2, bn3, bn4, bn5, bn6, bn7⟩ := id hb.1.1
  obtain ⟨ks, ⟨s1, s2, s4, s5, s6, s10, s11⟩, ⟨sk1, sk2, sk3, sk4, sk5, sk6, sk7⟩, sn1, sn2, sn3, sn4, sn5, sn6, sn7⟩ := id hs
  have h6 := hb.1.2.1.1
  have h7 := hb.1.2.1.2.2.1
  unfold apart at hd
  refine ⟨kb, ks, fun M1 e1 M4 e4 M7 e7 M10 e10 M13 e13 => ?_⟩
  have g13 : Fr (fun x => x = s) M M13 := by
    rw [e13, e10, e7, e4, e1]
    exact ((((Fr.uI (A := fun x => x = s) rfl).t2 (Fr.uI rfl)).t2 (Fr.uI rfl)).t2 (Fr.uI rfl)).t2 (Fr.uI rfl)
  have v0 : mI M13 s 0 = mI M b 0 := by
    rw [e13, mI_uI, if_pos rfl, if_neg (by decide), e10, mI_uI, if_pos rfl, if_neg (by decide), e7, mI_uI, if_pos rfl, if_neg (by decide), e4, mI_uI, if_pos rfl, if_neg (by decide), e1, mI_uI, if_pos rfl, if_pos rfl]
  have v3 : mI M13 s 3 = mI M b 3 := by
    rw [e13, mI_uI, if_pos rfl, if_neg (by decide), e10, mI_uI, if_pos rfl, if_neg (by decide), e7, mI_uI, if_pos rfl, if_neg (by decide), e4, mI_uI, if_pos rfl, if_pos rfl, e1, mI_uI, if_neg (by omega)]
  have v7 : mI M13 s 7 = mI M b 7 := by
    rw [e13, mI_uI, if_pos rfl, if_neg (by decide), e10, mI_uI, if_pos rfl, if_neg (by decide), e7, mI_uI, if_pos rfl, if_pos rfl, e4, mI_uI, if_neg (by omega), e1, mI_uI, if_neg (by omega)]
  have v8 : mI M13 s 8 = mI M b 8 := by
    rw [e13, mI_uI, if_pos rfl, if_neg (by decide), e10, mI_uI, if_pos rfl, if_pos rfl, e7, mI_uI, if_neg (by omega), e4, mI_uI, if_neg (by omega), e1, mI_uI, if_neg (by omega)]
  have v9 : mI M13 s 9 = mI M b 9 := by
    rw [e13, mI_uI, if_pos rfl, if_pos rfl, e10, mI_uI, if_neg (by omega), e7, mI_uI, if_neg (by omega), e4, mI_uI, if_neg (by omega), e1, mI_uI, if_neg (by omega)]
  clear e1 e4 e7 e10 e13
  rw [g13.R, g13.K, g13.N, b1, s1, bn1, sn1]
  refine ⟨bk1, sk1, by decide, by decide, by decide, by decide, by decide, fun M16 e16 => ?_⟩
  have g16 : Fr (fun x => x = s + 1) M13 M16 := by rw [e16]; exact Fr.wI rfl
  rw [g16.R, g16.K, g16.N, g13.R, g13.K, g13.N, b2, s2, bn2, sn2]
  refine ⟨bk2, sk2, by decide, by decide, by decide, by decide, by decide, fun M19 e19 => ?_⟩
  have g19 : Fr (fun x => x = s + 2) M16 M19 := by rw [e19]; exact Fr.wI rfl
  rw [g19.R, g19.K, g19.N, g16.R, g16.K, g16.N, g13.R, g13.K, g13.N, b4, s4, bn3, sn3]
  refine ⟨bk3, sk3, by decide, by decide, by decide, by decide, by decide, fun M22 e22 => ?_⟩
  have g22 : Fr (fun x => x = s + 3) M19 M22 := by rw [e22]; exact Fr.wI rfl
  rw [g22.R, g22.K, g22.N, g19.R, g19.K, g19.N, g16.R, g16.K, g16.N, g13.R, g13.K, g13.N, b5, s5, bn4, sn4]
  refine ⟨bk4, sk4, by decide, by decide, by decide, by decide, by decide, fun M25 e25 => ?_⟩
  have g25 : Fr (fun x => x = s + 4) M22 M25 := by rw [e25]; exact Fr.wI rfl
  rw [g25.R, g25.K, g25.N, g22.R, g22.K, g22.N, g19.R, g19.K, g19.N, g16.R, g16.K, g16.N, g13.R, g13.K, g13.N, b6, s6, bn5, sn5]
  refine ⟨bk5, sk5, by decide, by decide, by decide, by decide, by decide, fun M28 e28 => ?_⟩
  have g28 : Fr (fun x => x = s + 5) M25 M28 := by rw [e28]; exact Fr.wI rfl
  rw [g28.R, g28.K, g28.N, g25.R, g25.K, g25.N, g22.R, g22.K, g22.N, g19.R, g19.K, g19.N, g16.R, g16.K, g16.N, g13.R, g13.K, g13.N, b10, s10, bn6, sn6]
  refine ⟨bk6, sk6, by decide, by decide, by decide, by decide, by decide, fun M31 e31 => ?_⟩
  have g31 : Fr (fun x => x = s + 6) M28 M31 := by rw [e31]; exact Fr.wI rfl
  rw [g31.R, g31.K, g31.N, g28.R, g28.K, g28.N, g25.R, g25.K, g25.N, g22.R, g22.K, g22.N, g19.R, g19.K, g19.N, g16.R, g16.K, g16.N, g13.R, g13.K, g13.N, b11, s11, bn7, sn7]
  refine ⟨bk7, sk7, by decide, by decide, by decide, by decide, by decide, fun M34 e34 => ?_⟩
  have g34 : Fr (fun x => x = s + 7) M31 M34 := by rw [e34]; exact Fr.wI rfl
  have z0 : (0 : Int32).toNatClampNeg = 0 := by decide
  have z6 : (6 : Int32).toNatClampNeg = 6 := by decide
  have z606 : (606 : Int32).toNatClampNeg = 606 := by decide
  rw [z0, z6, g13.I (show ¬ b + 1 = s by omega)] at e16
  rw [z0, z6, g16.I (show ¬ b + 2 = s + 1 by omega), g13.I (show ¬ b + 2 = s by omega)] at e19
  rw [z0, z6, g19.I (show ¬ b + 3 = s + 2 by omega), g16.I (show ¬ b + 3 = s + 1 by omega), g13.I (show ¬ b + 3 = s by omega)] at e22
  rw [z0, z6, g22.I (show ¬ b + 4 = s + 3 by omega), g19.I (show ¬ b + 4 = s + 2 by omega), g16.I (show ¬ b + 4 = s + 1 by omega), g13.I (show ¬ b + 4 = s by omega)] at e25
  rw [z0, z6, g25.I (show ¬ b + 5 = s + 4 by omega), g22.I (show ¬ b + 5 = s + 3 by omega), g19.I (show ¬ b + 5 = s + 2 by omega), g16.I (show ¬ b + 5 = s + 1 by omega), g13.I (show ¬ b + 5 = s by omega)] at e28
  rw [z0, z606, g28.I (show ¬ b + 6 = s + 5 by omega), g25.I (show ¬ b + 6 = s + 4 by omega), g22.I (show ¬ b + 6 = s + 3 by omega), g19.I (show ¬ b + 6 = s + 2 by omega), g16.I (show ¬ b + 6 = s + 1 by omega), g13.I (show ¬ b + 6 = s by omega)] at e31
  rw [z0, z606, g31.I (show ¬ b + 7 = s + 6 by omega), g28.I (show ¬ b + 7 = s + 5 by omega), g25.I (show ¬ b + 7 = s + 4 by omega), g22.I (show ¬ b + 7 = s + 3 by omega), g19.I (show ¬ b + 7 = s + 2 by omega), g16.I (show ¬ b + 7 = s + 1 by omega), g13.I (show ¬ b + 7 = s by omega)] at e34
  have all : Fr (stA s) M M34 := by
    refine ((((((g13.mono ?_).t2 (g16.mono ?_)).t2 (g19.mono ?_)).t2 (g22.mono ?_)).t2 (g25.mono ?_)).t2 (g28.mono ?_)).t2 ((g31.mono ?_).t2 (g34.mono ?_)) <;> intro x hx <;> simp only [stA] <;> omega
  have a0 : mI M34 s = mI M13 s := by
    rw [g34.I (by omega), g31.I (by omega), g28.I (by omega), g25.I (by omega), g22.I (by omega), g19.I (by omega), g16.I (by omega)]
  have c1 : ∀ i, i < 6 → mI M34 (s + 1) i = mI M (b + 1) i := fun i hi => by
    rw [g34.I (by omega), g31.I (by omega), g28.I (by omega), g25.I (by omega), g22.I (by omega), g19.I (by omega), e16, mI_wI, if_pos rfl, sb_cpyJ hi]
  have c2 : ∀ i, i < 6 → mI M34 (s + 2) i = mI M (b + 2) i := fun i hi => by
    rw [g34.I (by omega), g31.I (by omega), g28.I (by omega), g25.I (by omega), g22.I (by omega), e19, mI_wI, if_pos rfl, sb_cpyJ hi]
  have c3 : ∀ i, i < 6 → mI M34 (s + 3) i = mI M (b + 3) i := fun i hi => by
    rw [g34.I (by omega), g31.I (by omega), g28.I (by omega), g25.I (by omega), e22, mI_wI, if_pos rfl, sb_cpyJ hi]
  have c4 : ∀ i, i < 6 → mI M34 (s + 4) i = mI M (b + 4) i := fun i hi => by
    rw [g34.I (by omega), g31.I (by omega), g28.I (by omega), e25, mI_wI, if_pos rfl, sb_cpyJ hi]
  have c5 : ∀ i, i < 6 → mI M34 (s + 5) i = mI M (b + 5) i := fun i hi => by
    rw [g34.I (by omega), g31.I (by omega), e28, mI_wI, if_pos rfl, sb_cpyJ hi]
  have c6 : ∀ i, i < 606 → mI M34 (s + 6) i = mI M (b + 6) i := fun i hi => by
    rw [g34.I (by omega), e31, mI_wI, if_pos rfl, sb_cpyJ hi]
  have c7 : ∀ i, i < 606 → mI M34 (s + 7) i = mI M (b + 7) i := fun i hi => by
    rw [e34, mI_wI, if_pos rfl, sb_cpyJ hi]
  obtain ⟨f0, f3, f7, f8, f9⟩ := hb.1.2.2.1
  refine hQ M34 all ⟨⟨hs.fr all, hb.1.2.1, ⟨?_, ?_, ?_, ?_, ?_⟩, fun i hi => ?_, fun j hj => ?_⟩, fun i hi p hp => ?_⟩
  · rw [a0, v0]; exact f0
  · rw [a0, v3]; exact f3
  · rw [a0, v7]; exact f7
  · rw [a0, v8]; exact f8
  · rw [a0, v9]; exact f9
  · rw [c1 i (by omega), c2 i (by omega)]; exact hb.1.2.2.2.1 i hi
  · rw [c3 j (by omega), c4 j (by omega), c5 j (by omega)]; exact hb.1.2.2.2.2 j hj
  · rw [c6 _ (by omega), c7 _ (by omega)]; exact hb.2 i hi p hp
theorem StTb.setM (h : StTb M s σ) {x : Nat} (hx : x ≤ 20) : StTb (uI M s 7 (nI x)) s (setM σ x) := by
  refine ⟨h.1.setM hx, fun i hi p hp => ?_⟩
  rw [mI_uI, if_neg (show ¬ s + 6 = s by omega), mI_uI, if_neg (show ¬ s + 7 = s by omega)]
  exact h.2 i hi p hp
theorem StTb.setK (h : StTb M s σ) {x : Nat} (hx : x ≤ 9) : StTb (uI M s 8 (nI x)) s (setK σ x) := by
  refine ⟨h.1.setK hx, fun i hi p hp => ?_⟩
  rw [mI_uI, if_neg (show ¬ s + 6 = s by omega), mI_uI, if_neg (show ¬ s + 7 = s by omega)]
  exact h.2 i hi p hp
theorem StTb.setH (h : StTb M s σ) {x : Nat} (hx : 1 ≤ x ∧ x ≤ 6) : StTb (uI M s 9 (nI x)) s (setH σ x) := by
  refine ⟨h.1.setH hx, fun i hi p hp => ?_⟩
  rw [mI_uI, if_neg (show ¬ s + 6 = s by omega), mI_uI, if_neg (show ¬ s + 7 = s by omega)]
  exact h.2 i hi p hp
end STREET
