/-! DAYS: all of them, event by event -/
section DAYS
variable {M : Mem} {s t d a k f : Nat} {σ : StT} {w p : Nat → Nat} {hh g : Int} {c : Nat} {Q : Int32 → Mem → Prop} {QV0 : Mem → Prop}
theorem go_row {R : Nat → Nat → Nat → Int32 → Int32 → Int32 → Mem → (Mem → Prop) → Prop} {K66 : Nat → Nat → Nat → Int32 → Int32 → Int32 → Nat → Nat → Int32 → Int32 → Int32 → Mem → Prop} {hr b ak ev : Nat} {st : Bool} {w2 : Nat → Nat} {h2 : Int}
    (hd : DyOK M d) (hs : StTb M s σ) (hap : apart s 8 d 24) (hh6 : hr < 6) (ht : ThAt M (d + 10 + 2 * hr) (sN σ) w hh WM) (ht2 : ThAt M (d + 10 + 2 * (hr + 1)) (sN σ) w2 h2 WM) (hp : Wt M (d + 2 + hr) (sN σ) p) (hev : ev ≤ 2) (hb : b ≤ 100) (hak : ak ≤ 100) (hba : b < ak)
    (hK : ∀ M', Fr (fun x => x = d + 3 + hr + 1) M M' → Wt M' (d + 3 + hr) (sN σ) (fun i => p i * odds σ hh ev i b ak) → R d s a (nI (hr + 1)) (iI (g + tkI ev b ak - (sCo σ * h2.natAbs : Nat))) (bI (st || decide (h2.natAbs = sMo σ))) M' (fun M56 => K66 d s a (nI hr) (iI g) (bI st) (d + 10 + 2 * hr) (d + 10 + 2 * (hr + 1)) (nI b) (nI ak) (nI ev + 1) M56)) :
    ∃ m, lp_X0_goOn_92 R K66 QV0 m d s a (nI hr) (iI g) (bI st) (d + 10 + 2 * hr) (d + 10 + 2 * (hr + 1)) (nI b) (nI ak) (nI ev) 0 M := by
  have h6 := hs.1.2.1.1
  have hm := hs.1.2.1.2.2.2.2.2.2.1
  have loop := for_up (fun m i => ∀ (M' : Mem) (v : Nat → Nat), Fr (fun x => x = d + 3 + hr + 1) M M' → Wt M' (d + 3 + hr) (sN σ) (mixN i (fun i => p i * odds σ hh ev i b ak) v) → lp_X0_goOn_92 R K66 QV0 m d s a (nI hr) (iI g) (bI st) (d + 10 + 2 * hr) (d + 10 + 2 * (hr + 1)) (nI b) (nI ak) (nI ev) (nI i) M') (sN σ) (fun m M' v fr hv => ?_) (fun m i hi ih M' v fr hv => ?_)
  · obtain ⟨m, hm⟩ := loop
    refine ⟨m, hm M (fun i => (mJ M (d + 3 + hr + 1) i).toBitVec.toNat) Fr.rf (fun i hi => ?_)⟩
    unfold mixN
    rw [if_neg (by omega)]
    show _ = Int64.ofBitVec (BitVec.ofNat 64 _)
    rw [BitVec.ofNat_toNat, BitVec.setWidth_eq]; rfl
  · have sa := hs.fr fr (fun a _ _ => by unfold apart at hap; omega)
    have t2 := ht2.fr fr (by omega) (by omega)
    unfold lp_X0_goOn_92
    refine ⟨sa.1.1.1, fun _ => ?_, fun hn => absurd (by rw [sa.1.2.2.1.1]; exact nI_le (Nat.le_refl _) (by omega)) hn⟩
    refine S_X12_takings hev ⟨t2.1.1, sa.1.1.1, ?_⟩
    rw [t2.2.1]
    refine S_X6_costOf sa.1 ⟨by have := t2.2.2.1.1; omega, by have := t2.2.2.1.2; omega⟩ (fun y44 e44 => ⟨t2.1.1, sa.1.1.1, ?_⟩)
    rw [t2.2.1, sa.1.2.2.1.2.2.1, iAbs_iI (by have := t2.2.2.1; omega)]
    have e9 : nI h2.natAbs = nI (sMo σ) ↔ h2.natAbs = sMo σ := nI_eq (by have := t2.2.2.1; omega) (by omega)
    have hy : y44 = iI (g + tkI ev b ak - (sCo σ * h2.natAbs : Nat)) := by
      rw [e44, nI_iI, iI_add, iI_sub]; rfl
    have k := hK M' fr hv.done
    have kd : mK M' d = 1 := by rw [fr.K]; exact hd.1
    have fin : ∀ q : Bool, q = (st || decide (h2.natAbs = sMo σ)) → jn_X0_goOn_212 R K66 QV0 d s a (nI hr) (iI g) (bI st) (d + 10 + 2 * hr) (d + 10 + 2 * (hr + 1)) (nI b) (nI ak) (nI ev) (bI q) y44 (nI hr + 1) a s d M' := by
      intro q hq
      refine ⟨kd, ?_⟩
      rw [hy, nI_1, hq]
      exact k
    have next : ∀ q : Bool, q = decide (h2.natAbs = sMo σ) → jn_X0_goOn_187 R K66 QV0 d s a (nI hr) (iI g) (bI st) (d + 10 + 2 * hr) (d + 10 + 2 * (hr + 1)) (nI b) (nI ak) (nI ev) y44 (bI q) M' := by
      intro q hq
      have t1 : ¬ bI st = 0 → st = true := fun z => Classical.byContradiction fun y => z (bI_0.mpr y)
      refine ⟨fun z => fin true (by rw [t1 z]; rfl), fun z => ⟨fun y => fin false ?_, fun y => fin true ?_⟩⟩
      · have z := bI_0.mp z
        have y := bI_0.mp y
        rw [← hq]
        cases st
        · cases q
          · rfl
          · exact absurd rfl y
        · exact absurd rfl z
      · have y : q = true := Classical.byContradiction fun x => y (bI_0.mpr x)
        rw [← hq, y, Bool.or_true]
    refine ⟨fun q => next false ?_, fun q => next true ?_⟩
    · exact (decide_eq_false (mt e9.mpr q)).symm
    · exact (decide_eq_true (e9.mp q)).symm
  · have sa := hs.fr fr (fun a _ _ => by unfold apart at hap; omega)
    have t1 := ht.fr fr (by omega) (by omega)
    obtain ⟨xd1, xd2, xd3, xd4, xd5, xd6, xd7, xd8, xd9⟩ := hd.fr fr
    obtain ⟨x9, xk, xn⟩ := xd9 hr (by omega)
    obtain ⟨y9, yk, yn⟩ := xd9 (hr + 1) (by omega)
    have lo := odds_le hs.1.2.1 (h := hh) (ev := ev) (i := i) (bid := b) (ask := ak)
    have jrow : mJ M' (d + 3 + hr) i = lN (p i) := by
      rw [fr.J (by omega), show d + 3 + hr = d + 2 + hr + 1 by omega]
      exact hp i hi
    unfold lp_X0_goOn_92
    refine ⟨sa.1.1.1, fun hle => absurd (by rw [sa.1.2.2.1.1] at hle; exact hle) (nI_ge hi (by omega)), fun _ => ?_⟩
    rw [xd3, xd7, nI_1, nI_clamp (by omega), nI_clamp (by omega), nI_clamp (by omega), x9, y9, xn, jrow]
    refine ⟨xd1, xd6, vp_in_nI (by omega) (by omega), vp_in_nI (by omega) (by omega), xk, vp_in_nI (by omega) (by omega), t1.1.1, S_X9_oddsOf sa t1 hev hi hb hak (fun _ => hba) ?_⟩
    rw [yn]
    refine ⟨yk, vp_in_nI (by omega) (by omega), fun M64 e64 => ?_⟩
    rw [e64, nI_1, nI_l (by omega), lN_mul]
    exact ih _ v (fr.t2 (Fr.uJ (by show d + 3 + (hr + 1) = d + 3 + hr + 1; omega))) (hv.step (t := d + 3 + hr) rfl)
theorem S_X0_goOn : ∀ (r hr F : Nat) (w p : Nat → Nat) (hh g : Int) (st : Bool) (M : Mem) (QV0 : Mem → Prop), hr + r = sHo σ → r + 1 ≤ F → DyOK M d → StTb M s σ → WayAt M a k f → apart s 8 d 24 → ¬ dyA d a → ThAt M (d + 10 + 2 * hr) (sN σ) w hh WM → Wt M (d + 2 + hr) (sN σ) p → (-5000 + 400 * (r : Int) ≤ g ∧ g ≤ 5000 - 400 * (r : Int)) →
    (∀ M', Fr (goA d hr) M M' → mJ M' d 2 = mJ M d 2 + jI (goX (lfM σ) σ k f r w hh p g st) → mJ M' d 3 = mJ M d 3 + jI (goX (lfS σ) σ k f r w hh p g st) → QV0 M') → wp_X0_goOn F d s a (nI hr) (iI g) (bI st) M QV0 := by
  intro r
  induction r with
  | zero =>
    intro hr F w p hh g st M QV0 he hF hd hs ha hap haw ht hp hg hQ
    have hw := hs.1.2.1
    have hho := hw.2.2.2.2.2.2.2.2
    obtain ⟨F, rfl⟩ : ∃ F', F = F' + 1 := ⟨F - 1, by omega⟩
    have e : nI (sHo σ) ≤ nI hr := nI_le (by omega) (by omega)
    refine ⟨hs.1.1.1, fun _ => ⟨hd.1, S_X0_close hd hs.1 hap (by omega) ht hp (by omega) (fun M' fr j2 j3 => hQ M' (fr.mono (fun x hx => Or.inl hx)) j2 j3)⟩, fun hn => absurd ?_ hn⟩
    rw [hs.1.2.2.1.2.2.2.2]
    exact e
  | succ r ih =>
    intro hr F w p hh g st M QV0 he hF hd hs ha hap haw ht hp hg hQ
    have hw := hs.1.2.1
    have hho := hw.2.2.2.2.2.2.2.2
    obtain ⟨F, rfl⟩ : ∃ F', F = F' + 1 := ⟨F - 1, by omega⟩
    obtain ⟨hd1, hd2, hd3, hd4, hd5, hd6, hd7, hd8, hd9⟩ := id hd
    obtain ⟨r0, t0⟩ := hd8 hr (by omega)
    obtain ⟨r1, t1⟩ := hd8 (hr + 1) (by omega)
    refine ⟨hs.1.1.1, fun hn => absurd (by rw [hs.1.2.2.1.2.2.2.2] at hn; exact hn) (nI_ge (b := sHo σ) (by omega) (by omega)), fun _ => ⟨fun _ => ?_, fun hn => absurd (show nI hr < nI 6 from nI_lt (by omega) (by omega)) hn⟩⟩
    rw [hd2, hd5, nI_1, nI_clamp (by omega), nI_clamp (by omega), r0, r1]
    refine ⟨hd1, hd4, vp_in_nI (by omega) (by omega), fun y11 e11 => ⟨vp_in_nI (by omega) (by omega), fun y14 e14 => ⟨ha.isW, ?_⟩⟩⟩
    rw [e11, e14]
    refine S_X11_bid ha hs ht ⟨ha.isW, S_X11_ask ha hs ht ?_⟩
    have hb : bidW σ w hh k f ≤ 99 := bidW_le
    have hak := askW_le (σ := σ) (w := w) (hh := hh) (k := k) (f := f)
    -- one event brings one term
    have loop := for_up (fun m ev => ∀ M', Fr (goA d hr) M M' → mJ M' d 2 = mJ M d 2 + jI (sumZ (fun ev => if 0 < sumN (flw σ w hh ev (bidW σ w hh k f) (askW σ w hh k f)) (sN σ) then goX (lfM σ) σ k f r (stl (sN σ) (flw σ w hh ev (bidW σ w hh k f) (askW σ w hh k f))) (hA ev hh) (fun i => p i * odds σ hh ev i (bidW σ w hh k f) (askW σ w hh k f)) (g + tkI ev (bidW σ w hh k f) (askW σ w hh k f) - (sCo σ * (hA ev hh).natAbs : Nat)) (st || decide ((hA ev hh).natAbs = sMo σ)) else 0) ev) → mJ M' d 3 = mJ M d 3 + jI (sumZ (fun ev => if 0 < sumN (flw σ w hh ev (bidW σ w hh k f) (askW σ w hh k f)) (sN σ) then goX (lfS σ) σ k f r (stl (sN σ) (flw σ w hh ev (bidW σ w hh k f) (askW σ w hh k f))) (hA ev hh) (fun i => p i * odds σ hh ev i (bidW σ w hh k f) (askW σ w hh k f)) (g + tkI ev (bidW σ w hh k f) (askW σ w hh k f) - (sCo σ * (hA ev hh).natAbs : Nat)) (st || decide ((hA ev hh).natAbs = sMo σ)) else 0) ev) →
        lp_X0_goOn_66 (fun q0 q1 q2 q3 q4 q5 N Q2 => wp_X0_goOn F q0 q1 q2 q3 q4 q5 N Q2) QV0 m d s a (nI hr) (iI g) (bI st) (d + 10 + 2 * hr) (d + 10 + 2 * (hr + 1)) (nI (bidW σ w hh k f)) (nI (askW σ w hh k f)) (nI ev) M') 3 (fun m M' fr j2 j3 => ?_) (fun m ev hev ih2 M' fr j2 j3 => ?_)
    · obtain ⟨m, hm⟩ := loop
      refine ⟨m, hm M Fr.rf ?_ ?_⟩
      · show mJ M d 2 = mJ M d 2 + jI 0
        rw [show jI 0 = 0 from rfl, Int64.add_zero]
      · show mJ M d 3 = mJ M d 3 + jI 0
        rw [show jI 0 = 0 from rfl, Int64.add_zero]
    · unfold lp_X0_goOn_66
      exact ⟨fun _ => hQ M' fr j2 j3, fun hn => absurd (show (2 : Int32) < nI 3 by decide) hn⟩
    · have sa := hs.fr fr (fun x _ _ => by unfold apart at hap; simp only [goA]; omega)
      have hd' := hd.fr fr
      have wa := ha.fr fr (by simp only [goA, dyA] at *; omega)
      have ta := ht.fr fr (by simp only [goA]; omega) (by simp only [goA]; omega)
      have t1' := t1.fr fr
      have pa : Wt M' (d + 2 + hr) (sN σ) p := fun i hi => by
        rw [fr.J (by simp only [goA]; omega)]; exact hp i hi
      unfold lp_X0_goOn_66
      refine ⟨fun hn => absurd ((nI_lt31 (a := 2) (by omega) (by omega)).mp hn) (by omega), fun _ => ⟨t1'.1, ?_⟩⟩
      simp only [sumZ] at ih2
      refine S_X9_follow sa t1' ta (Nat.le_refl _) (by unfold apart at *; omega) (by unfold apart at *; omega) (by omega) (by omega) hak.2 (fun _ => hak.1) (fun hp0 M28 f28 h28 => ?_) (fun hp0 M28 f28 => ?_)
      · rw [if_pos hp0, if_pos hp0] at ih2
        refine ⟨fun q => absurd q (by decide), fun _ => ?_⟩
        have f28' : Fr (goA d hr) M M28 := fr.t2 (f28.mono (fun x hx => by simp only [goA, thA] at *; omega))
        have sb := sa.fr f28 (fun x _ _ => by unfold apart at hap; simp only [thA]; omega)
        have tb := ta.fr f28 (by simp only [thA]; omega) (by simp only [thA]; omega)
        have pb : Wt M28 (d + 2 + hr) (sN σ) p := fun i hi => by
          rw [f28.J (by simp only [thA]; omega)]; exact pa i hi
        have jb : mJ M28 d = mJ M' d := f28.J (by simp only [thA]; omega)
        refine go_row (hd'.fr f28) sb hap (by omega) tb h28 pb (by omega) (by omega) hak.2 hak.1 (fun M3 f3 hp3 => ?_)
        have h28' := h28.fr f3 (by omega) (by omega)
        have tk : -200 ≤ tkI ev (bidW σ w hh k f) (askW σ w hh k f) ∧ tkI ev (bidW σ w hh k f) (askW σ w hh k f) ≤ 200 := by
          unfold tkI; split
          · omega
          · split <;> omega
        have hco := hw.2.2.2.2.2.2.2.1
        have hcl : sCo σ * (hA ev hh).natAbs ≤ 4 * 20 + 5 * 20 := Nat.mul_le_mul (show sCo σ ≤ 9 by omega) (show (hA ev hh).natAbs ≤ 20 by have := h28.2.2.1; omega)
        refine ih (hr + 1) F _ (fun i => p i * odds σ hh ev i (bidW σ w hh k f) (askW σ w hh k f)) _ _ _ M3 _ (by omega) (by omega) ((hd'.fr f28).fr f3) (sb.fr f3 (fun x _ _ => by unfold apart at hap; omega)) ((wa.fr f28 (by simp only [dyA, thA] at *; omega)).fr f3 (by simp only [dyA] at *; omega)) hap haw h28' ?_ ⟨by omega, by omega⟩ (fun M4 f4 j2' j3' => ?_)
        · rw [show d + 2 + (hr + 1) = d + 3 + hr by omega]; exact hp3
        · have j3d : mJ M3 d = mJ M' d := by rw [f3.J (by omega), jb]
          rw [nI_1]
          refine ih2 M4 ((f28'.t2 (f3.mono (fun x hx => by simp only [goA]; omega))).t2 (f4.mono (fun x hx => by simp only [goA] at *; omega))) ?_ ?_
          · rw [j2', j3d, j2, Int64.add_assoc, jI_add]
          · rw [j3', j3d, j3, Int64.add_assoc, jI_add]
      · rw [if_neg hp0, if_neg hp0] at ih2
        refine ⟨fun _ => ?_, fun q => absurd rfl q⟩
        unfold jn_X0_goOn_215
        rw [nI_1]
        have jb : mJ M28 d = mJ M' d := f28.J (by simp only [thA]; omega)
        refine ih2 M28 (fr.t2 (f28.mono (fun x hx => by simp only [goA, thA] at *; omega))) ?_ ?_
        · rw [jb, j2, Int.add_zero]
        · rw [jb, j3, Int.add_zero]
def meanX (σ : StT) (k f : Nat) : Int := goX (lfM σ) σ k f (sHo σ) (sCh σ) 0 (sCh σ) 0 false
def stuckX (σ : StT) (k f : Nat) : Int := goX (lfS σ) σ k f (sHo σ) (sCh σ) 0 (sCh σ) 0 false
theorem S_X0_weigh (hd : DyOK M d) (hs : StTb M s σ) (ha : WayAt M a k f) (hap : apart s 8 d 24) (haw : ¬ dyA d a)
    (hQ : ∀ M', Fr (dyA d) M M' → mJ M' d 2 = jI (meanX σ k f) → mJ M' d 3 = jI (stuckX σ k f) → QV0 M') : wp_X0_weigh d s a M QV0 := by
  have hw := hs.1.2.1
  have h6 := hw.1
  have c0 : (0 : Int32).toNatClampNeg = 0 := by decide
  have fD : dyA d d := by simp only [dyA]; omega
  refine ⟨hd.1, fun M1 e1 M4 e4 => ?_⟩
  have f4 : Fr (dyA d) M M4 := by rw [e4, e1]; exact (Fr.uJ fD).t2 (Fr.uJ fD)
  have j2 : mJ M4 d 2 = 0 := by rw [e4, mJ_uJ, if_pos rfl, if_neg (by decide), e1, mJ_uJ, if_pos rfl, if_pos rfl]
  have j3 : mJ M4 d 3 = 0 := by rw [e4, mJ_uJ, if_pos rfl, if_pos rfl]
  have d4 := hd.fr f4
  obtain ⟨hd1, hd2, hd3, hd4, hd5, hd6, hd7, hd8, hd9⟩ := id d4
  obtain ⟨r0, t0⟩ := hd8 0 (by omega)
  have s4 := hs.fr f4 (fun x _ _ => by unfold apart at hap; simp only [dyA]; omega)
  rw [hd2, hd5, c0, r0]
  refine ⟨hd4, vp_in_nI (n := 0) (by omega) (by omega), t0.1, S_X9_begin s4.1 t0 (by unfold apart at *; omega) (fun M8 f8 h8 => ?_)⟩
  have f8' : Fr (dyA d) M M8 := f4.t2 (f8.mono (fun x hx => by simp only [thA, dyA] at *; omega))
  have loop := for_up (fun m i => ∀ (M' : Mem) (v : Nat → Nat), Fr (fun x => x = d + 3) M8 M' → Wt M' (d + 2) (sN σ) (mixN i (sCh σ) v) → lp_X0_weigh_22 QV0 m d s a (nI i) M') (sN σ) (fun m M' v fr hv => ?_) (fun m i hi ih M' v fr hv => ?_)
  · obtain ⟨m, hm⟩ := loop
    refine ⟨m, hm M8 (fun i => (mJ M8 (d + 2 + 1) i).toBitVec.toNat) Fr.rf (fun i hi => ?_)⟩
    unfold mixN
    rw [if_neg (by omega)]
    show _ = Int64.ofBitVec (BitVec.ofNat 64 _)
    rw [BitVec.ofNat_toNat, BitVec.setWidth_eq]; rfl
  · have fM : Fr (dyA d) M M' := f8'.t2 (fr.mono (fun x hx => by simp only [dyA]; omega))
    have sa := hs.fr fM (fun x _ _ => by unfold apart at hap; simp only [dyA]; omega)
    have ta := h8.fr fr (by omega) (by omega)
    unfold lp_X0_weigh_22
    refine ⟨sa.1.1.1, fun _ => ⟨by rw [fM.K]; exact hd.1, ?_⟩, fun hn => absurd (by rw [sa.1.2.2.1.1]; exact nI_le (Nat.le_refl _) (by omega)) hn⟩
    refine S_X0_goOn (k := k) (f := f) (σ := σ) (sHo σ) 0 7 (sCh σ) (sCh σ) 0 0 false M' _ (by omega) (by have := hw.2.2.2.2.2.2.2.2.2; omega) (hd.fr fM) sa (ha.fr fM haw) hap haw (ta.up (by decide)) hv.done (by have := hw.2.2.2.2.2.2.2.2.2; omega) (fun M2 f2 q2 q3 => ?_)
    have jb : mJ M' d = mJ M4 d := by rw [fr.J (by omega), f8.J (by simp only [thA]; omega)]
    refine hQ M2 (fM.t2 (f2.mono (fun x hx => by simp only [goA, dyA] at *; omega))) ?_ ?_
    · rw [q2, jb, j2, Int64.zero_add]; rfl
    · rw [q3, jb, j3, Int64.zero_add]; rfl
  · have fM : Fr (dyA d) M M' := f8'.t2 (fr.mono (fun x hx => by simp only [dyA]; omega))
    have sa := hs.fr fM (fun x _ _ => by unfold apart at hap; simp only [dyA]; omega)
    obtain ⟨xd1, xd2, xd3, xd4, xd5, xd6, xd7, xd8, xd9⟩ := hd.fr fM
    obtain ⟨x9, xk, xn⟩ := xd9 0 (by omega)
    have := (hw.2.1 i hi).2.1
    unfold lp_X0_weigh_22
    refine ⟨sa.1.1.1, fun hle => absurd (by rw [sa.1.2.2.1.1] at hle; exact hle) (nI_ge hi (by omega)), fun _ => ?_⟩
    rw [xd3, xd7, c0, x9, xn, sa.1.1.2.1.1, sa.1.1.2.2.2.1, nI_clamp (by omega), (sa.1.2.2.2.1 i hi).1, nI_l (by omega)]
    refine ⟨xd1, xd6, vp_in_nI (n := 0) (by omega) (by omega), sa.1.1.2.2.1.1, vp_in_nI (by omega) (by omega), xk, vp_in_nI (by omega) (by omega), fun M15 e15 => ?_⟩
    rw [e15, nI_1]
    exact ih _ v (fr.t2 (Fr.uJ rfl)) (hv.step (t := d + 2) rfl)
end DAYS
