/-! STEPS: the best last hour -/
def mbN (σ : StT) (w : Nat → Nat) (h : Int) (ev pr : Nat) : Int := sumZ (fun i => ((w i * odds σ h ev i pr pr : Nat) : Int) * (tkI ev pr pr - (sCo σ * (hA ev h).natAbs : Nat) + (sCo σ * h.natAbs : Nat) + (hA ev h - h) * sVa σ i)) (sN σ)
def pkS (σ : StT) (w : Nat → Nat) (h g : Int) : Int := sumZ (fun i => 100 * (w i : Int) * (g - (sCo σ * h.natAbs : Nat) + h * sVa σ i)) (sN σ)
def pkF (σ : StT) (w : Nat → Nat) (h g : Int) (n L s : Nat) : Int64 := jI (pkS σ w h g + mbN σ w h 2 (pB L s * n) + mbN σ w h 1 (pA L s * n))
def bst (f : Nat → Int64) : Nat → Nat
  | 0 => 0
  | s + 1 => if s = 0 then 0 else if f s ≤ f (bst f s) then bst f s else s
theorem bst_lt {f : Nat → Int64} : ∀ n, 0 < n → bst f n < n
  | 0, h => absurd h (by omega)
  | n + 1, _ => by
    unfold bst
    split
    · omega
    · split
      · have := bst_lt (f := f) n (by omega); omega
      · omega
section STEPS
variable {M : Mem} {s t e n L : Nat} {σ : StT} {w : Nat → Nat} {hh g : Int} {c : Nat} {Q : Int32 → Mem → Prop} {QJ0 : Int64 → Mem → Prop} {QV0 : Mem → Prop}
theorem S_X5_moreBy {ev pr : Nat} (hs : StTb M s σ) (ht : ThAt M t (sN σ) w hh c) (hc : c ≤ WM) (hev : ev = 1 ∨ ev = 2) (hpr : pr ≤ 100) (hQ : QJ0 (jI (mbN σ w hh ev pr)) M) : wp_X5_moreBy (nI ev) s t (nI pr) M QJ0 := by
  have h6 := hs.1.2.1.1
  have hw := hs.1.2.1
  have hr := ht.2.2.1
  have hco := hw.2.2.2.2.2.2.2.1
  have f0 := hs.1.2.2.1.1
  have hAr : -1 ≤ hA ev hh - hh ∧ hA ev hh - hh ≤ 1 := by unfold hA; split <;> (try split) <;> omega
  have tk : -100 ≤ tkI ev pr pr ∧ tkI ev pr pr ≤ 100 := by unfold tkI; split <;> (try split) <;> omega
  have c1 : sCo σ * (hA ev hh).natAbs ≤ 9 * 21 := Nat.mul_le_mul (by omega) (by omega)
  have c2 : sCo σ * hh.natAbs ≤ 9 * 20 := Nat.mul_le_mul (by omega) (by omega)
  refine ⟨ht.1.1, S_X9_heldAfter (by omega) ht.1.1 ht.2.1 (S_X12_takings (by omega) ⟨hs.1.1.1, S_X6_costOf hs.1 (by omega) ⟨ht.1.1, hs.1.1.1, ?_⟩⟩)⟩
  rw [ht.2.1]
  refine S_X6_costOf hs.1 (by omega) (fun y13 e13 => ?_)
  rw [nI_iI, nI_iI, iI_sub, iI_add] at e13
  change y13 = iI (tkI ev pr pr - (sCo σ * (hA ev hh).natAbs : Nat) + (sCo σ * hh.natAbs : Nat)) at e13
  rw [e13]
  unfold mbN at hQ
  refine for_up (fun m i => lp_X5_moreBy_37 QJ0 m (nI ev) s t (nI pr) (iI (hA ev hh)) (iI (tkI ev pr pr - (sCo σ * (hA ev hh).natAbs : Nat) + (sCo σ * hh.natAbs : Nat))) (jI (sumZ (fun i => ((w i * odds σ hh ev i pr pr : Nat) : Int) * (tkI ev pr pr - (sCo σ * (hA ev hh).natAbs : Nat) + (sCo σ * hh.natAbs : Nat) + (hA ev hh - hh) * sVa σ i)) i)) (nI i) M) (sN σ) (fun m => ?_) (fun m i hi ih => ?_)
  · unfold lp_X5_moreBy_37
    exact ⟨hs.1.1.1, fun _ => hQ, fun hn => absurd (by rw [f0]; exact nI_le (Nat.le_refl _) (by omega)) hn⟩
  · have hvi := (hw.2.1 i hi).2.2
    have lo := odds_le hw (h := hh) (ev := ev) (i := i) (bid := pr) (ask := pr)
    have v1 := Int.mul_le_mul_of_nonneg_right (c := (sVa σ i : Int)) hAr.2 (by omega)
    have v2 := Int.mul_le_mul_of_nonneg_right (c := (sVa σ i : Int)) hAr.1 (by omega)
    unfold lp_X5_moreBy_37
    refine ⟨hs.1.1.1, fun hle => absurd (by rw [f0] at hle; exact hle) (nI_ge hi (by omega)), fun _ => ⟨ht.1.1, ?_⟩⟩
    rw [ht.1.2.1, ht.1.2.2.2, nI_clamp (by omega), ht.2.2.2.2 i hi]
    refine ⟨ht.1.2.2.1, vp_in_nI (by omega) (by omega), S_X9_oddsOf hs ht (by omega) hi hpr hpr (fun z => by omega) (fun y23 e23 => ⟨ht.1.1, hs.1.1.1, ?_⟩)⟩
    rw [hs.1.1.2.1.2.1, hs.1.1.2.2.2.2.1, (hs.1.2.2.2.1 i hi).2, ht.2.1]
    refine ⟨hs.1.1.2.2.1.2.1, vp_in_nI (by omega) (by omega), fun y26 e26 => ?_⟩
    rw [e26, e23, nI_l (by omega), lN_mul, lN_jI, nI_iI (sVa σ i), iI_sub, iI_mul, iI_add, iI_jI (by omega) (by omega), jI_mul, jI_add, nI_1]
    exact ih
abbrev pkA (e : Nat) : Nat → Prop := fun x => x = e ∨ x = e + 7 ∨ x = e + 8
theorem S_X5_pick (hp : SpOK M e) (hl : SlAt M e L) (hL : 1 ≤ L ∧ L ≤ 10) (hn : 1 ≤ n ∧ L * n ≤ 100) (hn2 : n ≤ 100) (hs : StTb M s σ) (hap : apart s 8 e 11) (ht : ThAt M t (sN σ) w hh c) (hc : c ≤ WM) (hte : t = e + 3 ∨ t = e + 5) (hg : -5000 ≤ g ∧ g ≤ 5000)
    (hQ : ∀ M', Fr (pkA e) M M' → SlAt M' e L → (∀ k, k ≠ 10 → mI M' e k = mI M e k) → (∀ k, k ≠ 11 → mJ M' e k = mJ M e k) → mI M' e 10 = nI (bst (pkF σ w hh g n L) (bse L L)) → mJ M' e 11 = pkF σ w hh g n L (bst (pkF σ w hh g n L) (bse L L)) → QV0 M') : wp_X5_pick e s (nI n) t (iI g) M QV0 := by
  have hw := hs.1.2.1
  have h6 := hw.1
  have hr := ht.2.2.1
  have hco := hw.2.2.2.2.2.2.2.1
  have f0 := hs.1.2.2.1.1
  have c2 : sCo σ * hh.natAbs ≤ 9 * 20 := Nat.mul_le_mul (by omega) (by omega)
  have tot := bse_le hL.2
  have tot0 : 1 ≤ bse L L := by
    have := bse_mono (L := L) (L - 1) 1
    rw [show 1 + (L - 1) = L by omega] at this
    have e1 : bse L 1 = 0 + (L - 0) := rfl
    omega
  refine ⟨ht.1.1, hs.1.1.1, ?_⟩
  rw [ht.2.1]
  refine S_X6_costOf hs.1 (by omega) (fun y4 e4 => ?_)
  rw [nI_iI, iI_sub] at e4
  rw [e4]
  -- the places' sums are all there: the slates
  have last : ∀ M2, Fr (pkA e) M M2 → SlAt M2 e L → (∀ k, mI M2 e k = mI M e k) → (∀ k, mJ M2 e k = mJ M e k) → (∀ p, p ≤ L → mJ M2 (e + 7) p = jI (mbN σ w hh 1 (p * n)) ∧ mJ M2 (e + 8) p = jI (mbN σ w hh 2 (p * n))) → ∃ m, lp_X5_pick_127 QV0 m e (jI (pkS σ w hh g)) 0 M2 := by
    intro M2 f2 sl kI kJ hm
    have fld := fun M' (f : Fr (fun x => x = e) M2 M') => (f2.t2 (f.mono (fun x hx => Or.inl hx)))
    refine for_up (fun m u => ∀ M', Fr (fun x => x = e) M2 M' → (∀ k, k ≠ 10 → mI M' e k = mI M e k) → (∀ k, k ≠ 11 → mJ M' e k = mJ M e k) → (0 < u → mI M' e 10 = nI (bst (pkF σ w hh g n L) u) ∧ mJ M' e 11 = pkF σ w hh g n L (bst (pkF σ w hh g n L) u)) → lp_X5_pick_127 QV0 m e (jI (pkS σ w hh g)) (nI u) M') (bse L L) (fun m M' fr kI kJ hb => ?_) (fun m u hu ih M' fr kI kJ hb => ?_) |> fun ⟨m, hm⟩ => ⟨m, hm M2 Fr.rf (fun k _ => kI k) (fun k _ => kJ k) (fun z => absurd z (by omega))⟩
    · have f' := fld M' fr
      have e3 : mI M' e 3 = nI (bse L L) := by rw [kI 3 (by decide)]; exact hl.1
      unfold lp_X5_pick_127
      refine ⟨by rw [f'.K]; exact hp.1, fun _ => ?_, fun hn => absurd (by rw [e3]; exact nI_le (Nat.le_refl _) (by omega)) hn⟩
      obtain ⟨b1, b2⟩ := hb (by omega)
      refine hQ M' f' ⟨e3, ?_⟩ kI kJ b1 b2
      rw [fr.I (by omega), fr.I (by omega)]
      exact sl.2
    · have f' := fld M' fr
      have e3 : mI M' e 3 = nI (bse L L) := by rw [kI 3 (by decide)]; exact hl.1
      obtain ⟨k1, ⟨r4, r5, -, -, r8, r9, -⟩, ⟨kk1, kn1, kk2, kn2⟩, -, -, ⟨kk7, kn7, kk8, kn8⟩, -⟩ := hp.fr f'
      obtain ⟨p1, p2⟩ := pr_lt hu
      obtain ⟨s1, s2⟩ := sl.2 u hu
      have m1 := hm (pA L u) p2
      have m2 := hm (pB L u) (by omega)
      unfold lp_X5_pick_127
      refine ⟨k1, fun hle => absurd (by rw [e3] at hle; exact hle) (nI_ge hu (by omega)), fun _ => ?_⟩
      rw [r4, r5, r8, r9, kn1, kn2, kn7, kn8, nI_clamp (by omega), fr.I (show ¬ e + 1 = e by omega), fr.I (show ¬ e + 2 = e by omega), s1, s2, nI_clamp (by omega), nI_clamp (by omega), fr.J (show ¬ e + 7 = e by omega), fr.J (show ¬ e + 8 = e by omega), m1.1, m2.2]
      refine ⟨kk1, vp_in_nI (by omega) (by omega), kk8, vp_in_nI (by omega) (by omega), kk2, vp_in_nI (by omega) (by omega), kk7, vp_in_nI (by omega) (by omega), fun y19 e19 => ?_⟩
      rw [jI_add, jI_add] at e19
      change y19 = pkF σ w hh g n L u at e19
      rw [e19]
      have put : bst (pkF σ w hh g n L) (u + 1) = u → jn_X5_pick_181 (fun fx0 fx5 fx8 fM => lp_X5_pick_127 QV0 m fx0 fx5 fx8 fM) QV0 e (jI (pkS σ w hh g)) (nI u) (pkF σ w hh g n L u) M' := by
        intro hb1
        refine ⟨k1, fun M26 e26 M29 e29 => ?_⟩
        unfold jn_X5_pick_193
        rw [nI_1]
        refine ih M29 ?_ (fun k hk => ?_) (fun k hk => ?_) (fun _ => ⟨?_, ?_⟩)
        · rw [e29, e26]; exact (fr.t2 (Fr.uI rfl)).t2 (Fr.uJ rfl)
        · rw [e29, mI_uJ, e26, mI_uI, if_pos rfl, if_neg hk]; exact kI k hk
        · rw [e29, mJ_uJ, if_pos rfl, if_neg hk, e26]; exact kJ k hk
        · rw [e29, mI_uJ, e26, mI_uI, if_pos rfl, if_pos rfl, hb1]
        · rw [e29, mJ_uJ, if_pos rfl, if_pos rfl, hb1]
      have e0 : nI u = (0 : Int32) ↔ u = 0 := nI_eq (b := 0) (by omega) (by omega)
      refine ⟨fun z => put ?_, fun z => ?_⟩
      · have z := e0.mp z
        subst z
        rfl
      · have z := mt e0.mpr z
        obtain ⟨b1, b2⟩ := hb (by omega)
        rw [b2]
        refine ⟨fun y => ?_, fun y => put ?_⟩
        · have hb1 : bst (pkF σ w hh g n L) (u + 1) = bst (pkF σ w hh g n L) u := by
            show (if u = 0 then 0 else if _ then _ else u) = _
            rw [if_neg z, if_pos y]
          unfold jn_X5_pick_193
          rw [nI_1]
          refine ih M' fr kI kJ (fun _ => ?_)
          rw [hb1]
          exact ⟨b1, b2⟩
        · show (if u = 0 then 0 else if _ then _ else u) = _
          rw [if_neg z, if_neg y]
  -- the places
  have places : ∃ m, lp_X5_pick_70 QV0 m e s (nI n) t (jI (pkS σ w hh g)) 0 M := by
    refine for_up (fun m p => ∀ M', Fr (fun x => x = e + 7 ∨ x = e + 8) M M' → (∀ q, q < p → q ≤ L → mJ M' (e + 7) q = jI (mbN σ w hh 1 (q * n)) ∧ mJ M' (e + 8) q = jI (mbN σ w hh 2 (q * n))) → lp_X5_pick_70 QV0 m e s (nI n) t (jI (pkS σ w hh g)) (nI p) M') 11 (fun m M' fr hm => ?_) (fun m p hp1 ih M' fr hm => ?_) |> fun ⟨m, hm⟩ => ⟨m, hm M Fr.rf (fun q hq => absurd hq (by omega))⟩
    · unfold lp_X5_pick_70
      refine ⟨fun _ => last M' (fr.mono (fun x hx => Or.inr hx)) ?_ (fun k => by rw [fr.I (by omega)]) (fun k => by rw [fr.J (by omega)]) (fun q hq => hm q (by omega) hq), fun z => absurd (nI_le (a := 11) (b := 11) (Nat.le_refl _) (by omega)) z⟩
      refine ⟨by rw [fr.I (by omega)]; exact hl.1, ?_⟩
      rw [fr.I (by omega), fr.I (by omega)]
      exact hl.2
    · have sa := hs.fr fr (fun x _ _ => by unfold apart at hap; omega)
      have ta := ht.fr fr (by omega) (by omega)
      obtain ⟨k1, ⟨r4, r5, -, -, r8, r9, -⟩, ⟨kk1, kn1, kk2, kn2⟩, -, -, ⟨kk7, kn7, kk8, kn8⟩, -⟩ := hp.fr fr
      have pm : p * n ≤ 10 * 100 := Nat.mul_le_mul (by omega) hn2
      unfold lp_X5_pick_70
      refine ⟨fun z => absurd z (nI_ge (b := 11) hp1 (by omega)), fun _ y37 e37 => ⟨k1, ?_⟩⟩
      rw [pk_mul, show (100 : Int32) = nI 100 from rfl, iMin_nI (by omega) (by omega)] at e37
      rw [e37, r8]
      refine S_X5_moreBy (ev := 1) sa ta hc (Or.inl rfl) (by omega) ?_
      rw [kn7, nI_clamp (by omega)]
      refine ⟨kk7, vp_in_nI (by omega) (by omega), fun M43 e43 => ?_⟩
      have f43 : Fr (fun x => x = e + 7 ∨ x = e + 8) M M43 := by rw [e43]; exact fr.t2 (Fr.uJ (Or.inl rfl))
      have sb := hs.fr f43 (fun x _ _ => by unfold apart at hap; omega)
      have tb := ht.fr f43 (by omega) (by omega)
      have r9' : mR M43 e 9 = e + 8 := by rw [e43]; exact r9
      refine ⟨by rw [e43]; exact k1, ?_⟩
      rw [r9']
      refine S_X5_moreBy (ev := 2) sb tb hc (Or.inr rfl) (by omega) ?_
      refine ⟨by rw [e43]; exact kk8, by rw [e43, mN_uJ, kn8]; exact vp_in_nI (by omega) (by omega), fun M49 e49 => ?_⟩
      rw [nI_1]
      refine ih M49 (by rw [e49]; exact f43.t2 (Fr.uJ (Or.inr rfl))) (fun q hq hqL => ?_)
      by_cases cq : q = p
      · subst cq
        have : q * n ≤ L * n := Nat.mul_le_mul_right n hqL
        rw [show min 100 (q * n) = q * n by omega] at e43 e49
        rw [e49, mJ_uJ, if_neg (by omega), mJ_uJ, if_pos rfl, if_pos rfl, e43, mJ_uJ, if_pos rfl, if_pos rfl]
        exact ⟨rfl, rfl⟩
      · obtain ⟨g1, g2⟩ := hm q (by omega) hqL
        rw [e49, mJ_uJ, if_neg (by omega), mJ_uJ, if_pos rfl, if_neg cq, e43, mJ_uJ, if_pos rfl, if_neg cq, mJ_uJ, if_neg (by omega)]
        exact ⟨g1, g2⟩
  refine for_up (fun m i => lp_X5_pick_19 QV0 m e s (nI n) t (jI (sumZ (fun i => 100 * (w i : Int) * (g - (sCo σ * hh.natAbs : Nat) + hh * sVa σ i)) i)) (iI (g - (sCo σ * hh.natAbs : Nat))) (nI i) M) (sN σ) (fun m => ?_) (fun m i hi ih => ?_)
  · unfold lp_X5_pick_19
    exact ⟨hs.1.1.1, fun _ => places, fun hn => absurd (by rw [f0]; exact nI_le (Nat.le_refl _) (by omega)) hn⟩
  · have hvi := (hw.2.1 i hi).2.2
    have v1 := Int.mul_le_mul_of_nonneg_right (a := hh) (b := 20) (c := (sVa σ i : Int)) hr.2 (by omega)
    have v2 := Int.mul_le_mul_of_nonneg_right (a := -20) (b := hh) (c := (sVa σ i : Int)) hr.1 (by omega)
    unfold lp_X5_pick_19
    refine ⟨hs.1.1.1, fun hle => absurd (by rw [f0] at hle; exact hle) (nI_ge hi (by omega)), fun _ => ⟨ht.1.1, ?_⟩⟩
    rw [ht.1.2.1, ht.1.2.2.2, hs.1.1.2.1.2.1, hs.1.1.2.2.2.2.1, nI_clamp (by omega), ht.2.2.2.2 i hi, (hs.1.2.2.2.1 i hi).2, ht.2.1]
    refine ⟨ht.1.2.2.1, vp_in_nI (by omega) (by omega), hs.1.1.2.2.1.2.1, vp_in_nI (by omega) (by omega), fun y53 e53 => ?_⟩
    rw [e53, lN_jI, show (100 : Int64) = jI 100 from rfl, nI_iI (sVa σ i), iI_mul, iI_add, iI_jI (by omega) (by omega), jI_mul, jI_mul, jI_add, nI_1]
    exact ih
end STEPS
