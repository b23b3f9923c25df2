/-! DAYS: one that is lived -/
def DyOK (M : Mem) (d : Nat) : Prop := mK M d = 1 ∧ mR M d 0 = d + 1 ∧ mR M d 1 = d + 2 ∧ mK M (d + 1) = 23 ∧ mN M (d + 1) = 7 ∧ mK M (d + 2) = 25 ∧ mN M (d + 2) = 7 ∧ (∀ h, h < 7 → mR M (d + 1) h = d + 10 + 2 * h ∧ ThOK M (d + 10 + 2 * h)) ∧ ∀ h, h < 7 → mR M (d + 2) h = d + 3 + h ∧ mK M (d + 3 + h) = 21 ∧ mN M (d + 3 + h) = 6
abbrev dyA (d : Nat) : Nat → Prop := fun a => d ≤ a ∧ a < d + 24
theorem DyOK.fr {A : Nat → Prop} {M M' : Mem} {d : Nat} (h : DyOK M d) (f : Fr A M M') : DyOK M' d := by
  unfold DyOK ThOK
  rw [f.K, f.N, f.R]
  exact h
def tkI (ev b a : Nat) : Int := if ev = 1 then (a : Int) else if ev = 2 then -(b : Int) else 0
abbrev LvT : Type := (Nat → Nat) × Int × Int × Nat × Int32
def zN (z : Int32) : Int32 := z * 1103515245 + 12345
def lvB (σ : StT) (k f : Nat) (x : LvT) : Nat := bidW σ x.1 x.2.1 k f
def lvA (σ : StT) (k f : Nat) (x : LvT) : Nat := askW σ x.1 x.2.1 k f
def lvE (σ : StT) (k f va : Nat) (x : LvT) : Nat := evU σ x.2.1 va (lvB σ k f x) (lvA σ k f x) (drw (zN x.2.2.2.2)) (sS σ)
def lvS (σ : StT) (k f va : Nat) (x : LvT) : LvT :=
  (stl (sN σ) (flw σ x.1 x.2.1 (lvE σ k f va x) (lvB σ k f x) (lvA σ k f x)), hA (lvE σ k f va x) x.2.1, x.2.2.1 + (tkI (lvE σ k f va x) (lvB σ k f x) (lvA σ k f x) - (sCo σ * (hA (lvE σ k f va x) x.2.1).natAbs : Nat)), x.2.2.2.1 + (if lvE σ k f va x = 0 then 0 else 1), zN x.2.2.2.2)
def lvN (σ : StT) (k f va : Nat) (z : Int32) : Nat → LvT
  | 0 => (sCh σ, 0, 0, 0, z)
  | m + 1 => lvS σ k f va (lvN σ k f va z m)
section DAYS
variable {M : Mem} {s t d a k f : Nat} {σ : StT} {w : Nat → Nat} {hh : Int} {c : Nat} {Q : Int32 → Mem → Prop} {QV0 : Mem → Prop}
/-- the events drawn can be, in every hour -/
theorem lv_can (hw : sWF σ) {i0 : Nat} {z : Int32} (hi : i0 < sN σ) {x : LvT} (hx : 0 < x.1 i0) : 0 < sumN (flw σ x.1 x.2.1 (lvE σ k f (sVa σ i0) x) (lvB σ k f x) (lvA σ k f x)) (sN σ) := by
  refine (sumN_pos (sN σ)).mpr ⟨i0, hi, Nat.mul_pos hx ?_⟩
  exact evU_odds hw askW_le.1 (by unfold drw; omega)
theorem lv_pos (hw : sWF σ) {i0 : Nat} {z : Int32} (hi : i0 < sN σ) : ∀ m, 0 < (lvN σ k f (sVa σ i0) z m).1 i0
  | 0 => by have := (hw.2.1 i0 hi).1; show 0 < sCh σ i0; omega
  | m + 1 => by
    refine stl_pos hi (Nat.mul_pos (lv_pos hw hi m) ?_)
    exact evU_odds hw askW_le.1 (by unfold drw; omega)
theorem S_X0_live {i0 : Nat} {z : Int32} (hd : DyOK M d) (hs : StTb M s σ) (ha : WayAt M a k f) (hi : i0 < sN σ) (hap : apart s 8 d 24) (haw : ¬ dyA d a)
    (hQ : ∀ M', Fr (dyA d) M M' → mI M' d 4 = iI ((lvN σ k f (sVa σ i0) z (sHo σ)).2.2.1 + (lvN σ k f (sVa σ i0) z (sHo σ)).2.1 * sVa σ i0) → mI M' d 5 = iI (lvN σ k f (sVa σ i0) z (sHo σ)).2.1 → mI M' d 6 = nI (lvN σ k f (sVa σ i0) z (sHo σ)).2.2.2.1 → QV0 M') : wp_X0_live d s a (nI (sVa σ i0)) z M QV0 := by
  have hw := hs.1.2.1
  have hva := (hw.2.1 i0 hi).2.2
  have hho := hw.2.2.2.2.2.2.2.2
  unfold wp_X0_live
  have c0 : (0 : Int32).toNatClampNeg = 0 := by decide
  have c1 : (1 : Int32).toNatClampNeg = 1 := by decide
  obtain ⟨hd1, hd2, hd3, hd4, hd5, hd6, hd7, hd8, hd9⟩ := hd
  obtain ⟨r0, t0⟩ := hd8 0 (by omega)
  obtain ⟨r1, t1⟩ := hd8 1 (by omega)
  rw [hd2, hd5, c0, c1, r0, r1]
  refine ⟨hd1, hd4, vp_in_nI (n := 0) (by omega) (by omega), fun y1 e1 => ⟨vp_in_nI (n := 1) (by omega) (by omega), fun y4 e4 => ?_⟩⟩
  rw [e1, e4]
  have d0 : apart s 8 (d + 10 + 2 * 0) 2 := by unfold apart at *; omega
  have d1 : apart s 8 (d + 10 + 2 * 1) 2 := by unfold apart at *; omega
  have dd : apart (d + 10 + 2 * 0) 2 (d + 10 + 2 * 1) 2 := by unfold apart at *; omega
  refine ⟨t0.1, S_X9_begin hs.1 t0 d0 (fun M8 f8 h8 => ⟨by rw [f8.K]; exact hd1, fun M9 e9 M12 e12 => ?_⟩)⟩
  have fA : ∀ x, thA (d + 10 + 2 * 0) x → dyA d x := fun x hx => by simp only [thA, dyA] at *; omega
  have fB : ∀ x, thA (d + 10 + 2 * 1) x → dyA d x := fun x hx => by simp only [thA, dyA] at *; omega
  have fD : dyA d d := by simp only [dyA]; omega
  have f12 : Fr (dyA d) M M12 := by
    rw [e12, e9]
    exact ((f8.mono fA).t2 (Fr.uI fD)).t2 (Fr.uI fD)
  have loop := for_up (fun m j => ∀ M', Fr (dyA d) M M' → ThAt M' (d + 10 + 2 * 0) (sN σ) (lvN σ k f (sVa σ i0) z j).1 (lvN σ k f (sVa σ i0) z j).2.1 WM → mI M' d 4 = iI (lvN σ k f (sVa σ i0) z j).2.2.1 → mI M' d 6 = nI (lvN σ k f (sVa σ i0) z j).2.2.2.1 → lp_X0_live_39 QV0 m d s a (nI (sVa σ i0)) (lvN σ k f (sVa σ i0) z j).2.2.2.2 (d + 10 + 2 * 0) (d + 10 + 2 * 1) (nI j) M') (sHo σ) (fun m M' fr ht h4 h6 => ?_) (fun m j hj ih M' fr ht h4 h6 => ?_)
  · obtain ⟨m, hm⟩ := loop
    refine ⟨m, hm M12 f12 ?_ ?_ ?_⟩
    · have g : Fr (fun x => x = d) M8 M12 := by rw [e12, e9]; exact (Fr.uI (A := fun x => x = d) rfl).t2 (Fr.uI rfl)
      exact (h8.fr g (by omega) (by omega)).up (by decide)
    · rw [e12, e9, mI_uI, if_pos rfl, if_neg (by decide), mI_uI, if_pos rfl, if_pos rfl]; rfl
    · rw [e12, e9, mI_uI, if_pos rfl, if_pos rfl]; rfl
  · have st := hs.fr fr (fun a _ _ => by simp only [dyA]; unfold apart at hap; omega)
    unfold lp_X0_live_39
    refine ⟨st.1.1.1, fun _ => ⟨ht.1.1, by rw [fr.K]; exact hd1, fun M19 e19 M22 e22 => ?_⟩, fun hn => absurd (by rw [st.1.2.2.1.2.2.2.2]; exact nI_le (Nat.le_refl _) (by omega)) hn⟩
    have ft : Fr (dyA d) M M22 := by
      rw [e22, e19]
      exact (fr.t2 (Fr.uI fD)).t2 (Fr.uI fD)
    refine hQ M22 ft ?_ ?_ ?_
    · have a5 : mI M19 d 5 = mI M' (d + 10 + 2 * 0) 1 := by rw [e19, mI_uI, if_pos rfl, if_pos rfl]
      have a4 : mI M19 d 4 = mI M' d 4 := by rw [e19, mI_uI, if_pos rfl, if_neg (by decide)]
      rw [e22, mI_uI, if_pos rfl, if_pos rfl, a5, a4, h4, ht.2.1, nI_iI, iI_mul, iI_add]
    · rw [e22, mI_uI, if_pos rfl, if_neg (by decide), e19, mI_uI, if_pos rfl, if_pos rfl, ht.2.1]
    · rw [e22, mI_uI, if_pos rfl, if_neg (by decide), e19, mI_uI, if_pos rfl, if_neg (by decide), h6]
  · have st := hs.fr fr (fun a _ _ => by simp only [dyA]; unfold apart at hap; omega)
    have wa := ha.fr fr haw
    have posx := lv_pos (k := k) (f := f) hw (z := z) hi j
    have can := lv_can (k := k) (f := f) hw (z := z) hi posx
    have ihx := ih
    change ∀ M', Fr (dyA d) M M' → ThAt M' (d + 10 + 2 * 0) (sN σ) (lvS σ k f (sVa σ i0) (lvN σ k f (sVa σ i0) z j)).1 (lvS σ k f (sVa σ i0) (lvN σ k f (sVa σ i0) z j)).2.1 WM → mI M' d 4 = iI (lvS σ k f (sVa σ i0) (lvN σ k f (sVa σ i0) z j)).2.2.1 → mI M' d 6 = nI (lvS σ k f (sVa σ i0) (lvN σ k f (sVa σ i0) z j)).2.2.2.1 → lp_X0_live_39 QV0 m d s a (nI (sVa σ i0)) (lvS σ k f (sVa σ i0) (lvN σ k f (sVa σ i0) z j)).2.2.2.2 (d + 10 + 2 * 0) (d + 10 + 2 * 1) (nI (j + 1)) M' at ihx
    clear ih
    generalize lvN σ k f (sVa σ i0) z j = x at *
    have hb : lvB σ k f x ≤ 99 := bidW_le
    have hab : lvB σ k f x < lvA σ k f x ∧ lvA σ k f x ≤ 100 := askW_le
    have hev : lvE σ k f (sVa σ i0) x ≤ 2 := evU_le _
    unfold lp_X0_live_39
    refine ⟨st.1.1.1, fun hle => absurd (by rw [st.1.2.2.1.2.2.2.2] at hle; exact hle) (nI_ge hj (by omega)), fun _ => ⟨wa.isW, ?_⟩⟩
    refine S_X11_bid wa st ht ⟨wa.isW, S_X11_ask wa st ht (fun y hy => ?_)⟩
    change y = zN x.2.2.2.2 at hy
    rw [hy]
    refine S_X0_eventBy st.1 ht.1.1 ht.2.1 ht.2.2.1 hva (Nat.le_trans bidW_le (by decide)) askW_le.2 ?_
    change mK M' (d + 10 + 2 * 1) = 10 ∧ wp_X9_follow (d + 10 + 2 * 1) (d + 10 + 2 * 0) s (nI (lvE σ k f (sVa σ i0) x)) (nI (lvB σ k f x)) (nI (lvA σ k f x)) M' _
    have t1' := t1.fr fr
    refine ⟨t1'.1, S_X9_follow st t1' ht (Nat.le_refl _) d1 dd hev (by omega) hab.2 (fun _ => hab.1) (fun _ M38 f38 h38 => ?_) (fun q => absurd can q)⟩
    have t0' := (t0.fr fr).fr f38
    refine ⟨t0'.1, S_X9_copyFrom h38 hw.1 t0' (fun M41 f41 h41 => ?_)⟩
    have f41' : Fr (dyA d) M' M41 := (f38.mono fB).t2 (f41.mono fA)
    have k41 : mK M41 d = 1 := by rw [f41'.K, fr.K]; exact hd1
    have s41 := st.fr f41' (fun a _ _ => by simp only [dyA]; unfold apart at hap; omega)
    refine ⟨k41, S_X12_takings hev ⟨h41.1.1, s41.1.1.1, ?_⟩⟩
    rw [h41.2.1]
    refine S_X6_costOf s41.1 ⟨by have := h41.2.2.1.1; omega, by have := h41.2.2.1.2; omega⟩ ⟨k41, fun M48 e48 => ?_⟩
    have i41 : mI M41 d = mI M' d := by
      rw [f41.I (by simp only [thA]; omega), f38.I (by simp only [thA]; omega)]
    have h48 : ThAt M48 (d + 10 + 2 * 0) (sN σ) (stl (sN σ) (flw σ x.1 x.2.1 (lvE σ k f (sVa σ i0) x) (lvB σ k f x) (lvA σ k f x))) (hA (lvE σ k f (sVa σ i0) x) x.2.1) WM := by
      have g : Fr (fun x => x = d) M41 M48 := by rw [e48]; exact Fr.uI rfl
      exact h41.fr g (by omega) (by omega)
    have fin : ∀ v : Nat, v = (if lvE σ k f (sVa σ i0) x = 0 then 0 else 1) → jn_X0_live_159 (fun fx0 fx1 fx2 fx3 fx5 fx6 fx7 fx8 fM => lp_X0_live_39 QV0 m fx0 fx1 fx2 fx3 fx5 fx6 fx7 fx8 fM) QV0 d s a (nI (sVa σ i0)) (zN x.2.2.2.2) (d + 10 + 2 * 0) (d + 10 + 2 * 1) (nI j) (nI v) (mI M48 d 6) d M48 := by
      intro v hv
      refine ⟨by rw [e48]; exact k41, fun M55 e55 => ?_⟩
      rw [nI_1]
      refine ihx M55 ?_ ?_ ?_ ?_
      · rw [e55, e48]
        exact ((fr.t2 f41').t2 (Fr.uI fD)).t2 (Fr.uI fD)
      · have g : Fr (fun x => x = d) M48 M55 := by rw [e55]; exact Fr.uI rfl
        exact h48.fr g (by omega) (by omega)
      · rw [e55, mI_uI, if_pos rfl, if_neg (by decide), e48, mI_uI, if_pos rfl, if_pos rfl, i41, h4, nI_iI, iI_sub, iI_add]
        rfl
      · rw [e55, mI_uI, if_pos rfl, if_pos rfl, e48, mI_uI, if_pos rfl, if_neg (by decide), i41, h6, nI_add, hv]
        rfl
    have e0 : nI (lvE σ k f (sVa σ i0) x) = (0 : Int32) ↔ lvE σ k f (sVa σ i0) x = 0 := nI_eq (b := 0) (by omega) (by omega)
    refine ⟨fun q => ?_, fun q => ?_⟩
    · exact fin 1 (if_neg (mt e0.mpr q)).symm
    · exact fin 0 (if_pos (e0.mp q)).symm
end DAYS
