/-! STEPS: two hours, the best slates -/
def sumJ (f : Nat → Int64) : Nat → Int64
  | 0 => 0
  | m + 1 => sumJ f m + f m
def bpk (σ : StT) (w : Nat → Nat) (h g : Int) (n L : Nat) : Int64 := pkF σ w h g n L (bst (pkF σ w h g n L) (bse L L))
def thT (σ : StT) (n L b a ev : Nat) : Int64 := if 0 < sumN (flw σ (sCh σ) 0 ev b a) (sN σ) then bpk σ (flw σ (sCh σ) 0 ev b a) (hA ev 0) (tkI ev b a - (sCo σ * (hA ev 0).natAbs : Nat)) n L else 0
def thV (σ : StT) (n L s : Nat) : Int64 := sumJ (thT σ n L (pB L s * n) (pA L s * n)) 3
def fbF (σ : StT) (n L hr : Nat) : Nat → Int64 := if hr = 1 then pkF σ (sCh σ) 0 0 n L else thV σ n L
section STEPS
variable {M : Mem} {s t e n L : Nat} {σ : StT} {w : Nat → Nat} {hh g : Int} {c : Nat} {Q : Int32 → Mem → Prop} {QJ0 : Int64 → Mem → Prop} {QV0 : Mem → Prop}
abbrev thB (e : Nat) : Nat → Prop := fun x => x = e ∨ x = e + 5 ∨ x = e + 6 ∨ x = e + 7 ∨ x = e + 8
theorem S_X5_twoHours {b a : Nat} (hp : SpOK M e) (hl : SlAt M e L) (hL : 1 ≤ L ∧ L ≤ 10) (hn : 1 ≤ n ∧ L * n ≤ 100) (hn2 : n ≤ 100) (hs : StTb M s σ) (hap : apart s 8 e 11) (ht : ThAt M (e + 3) (sN σ) (sCh σ) 0 100) (hb : b ≤ 100) (ha : a ≤ 100) (hba : b < a)
    (hQ : ∀ M', Fr (thB e) M M' → SlAt M' e L → (∀ k, k ≠ 10 → mI M' e k = mI M e k) → (∀ k, k ≠ 11 → mJ M' e k = mJ M e k) → QJ0 (sumJ (thT σ n L b a) 3) M') : wp_X5_twoHours e s (nI n) (nI b) (nI a) M QJ0 := by
  have hw := hs.1.2.1
  have hco := hw.2.2.2.2.2.2.2.1
  refine for_up (fun m ev => ∀ M', Fr (thB e) M M' → SlAt M' e L → (∀ k, k ≠ 10 → mI M' e k = mI M e k) → (∀ k, k ≠ 11 → mJ M' e k = mJ M e k) → lp_X5_twoHours_6 QJ0 m e s (nI n) (nI b) (nI a) (sumJ (thT σ n L b a) ev) (nI ev) M') 3 (fun m M' fr sl kI kJ => ?_) (fun m ev hev ih M' fr sl kI kJ => ?_) |> fun ⟨m, hm⟩ => ⟨m, hm M Fr.rf hl (fun _ _ => rfl) (fun _ _ => rfl)⟩
  · unfold lp_X5_twoHours_6
    exact ⟨fun _ => hQ M' fr sl kI kJ, fun z => absurd (show (2 : Int32) < nI 3 by decide) z⟩
  · have sa := hs.fr fr (fun x _ _ => by unfold apart at hap; simp only [thB]; omega)
    have ta := ht.fr fr (by simp only [thB]; omega) (by simp only [thB]; omega)
    have pa := hp.fr fr
    obtain ⟨k1, ⟨r4, r5, r6, r7, r8, r9, -⟩, -, -, t5, -⟩ := id pa
    unfold lp_X5_twoHours_6
    refine ⟨fun z => absurd ((nI_lt31 (a := 2) (by omega) (by omega)).mp z) (by omega), fun _ => ⟨k1, ?_⟩⟩
    rw [r7, r6]
    refine ⟨t5.1, S_X9_takeTimes sa t5 ta (by decide) (by unfold apart at *; omega) (by unfold apart; omega) (by omega) hb ha (fun _ => hba) (fun M6 f6 hW hI => ?_)⟩
    change Wt M6 (e + 5) (sN σ) (flw σ (sCh σ) 0 ev b a) at hW
    have f6' : Fr (thB e) M M6 := fr.t2 (f6.mono (fun x hx => by simp only [thA, thB] at *; omega))
    have e6I : mI M6 e = mI M' e := f6.I (by simp only [thA]; omega)
    have e6J : mJ M6 e = mJ M' e := f6.J (by simp only [thA]; omega)
    have sl6 : SlAt M6 e L := by
      refine ⟨by rw [e6I]; exact sl.1, ?_⟩
      rw [f6.I (by simp only [thA]; omega), f6.I (by simp only [thA]; omega)]
      exact sl.2
    by_cases hp0 : 0 < sumN (flw σ (sCh σ) 0 ev b a) (sN σ)
    · have hT : thT σ n L b a ev = bpk σ (flw σ (sCh σ) 0 ev b a) (hA ev 0) (tkI ev b a - (sCo σ * (hA ev 0).natAbs : Nat)) n L := if_pos hp0
      rw [if_pos hp0]
      refine ⟨fun z => absurd z (by decide), fun _ => ?_⟩
      have pb := hp.fr f6'
      have sb := hs.fr f6' (fun x _ _ => by unfold apart at hap; simp only [thB]; omega)
      have hr := hA_rng hw (hh := 0) (by omega) hp0
      have tk : -100 ≤ tkI ev b a ∧ tkI ev b a ≤ 100 := by unfold tkI; split <;> (try split) <;> omega
      have c1 : sCo σ * (hA ev 0).natAbs ≤ 9 * 20 := Nat.mul_le_mul (by omega) (by omega)
      have t6 : ThAt M6 (e + 5) (sN σ) (flw σ (sCh σ) 0 ev b a) (hA ev 0) 10000 := ⟨t5.fr f6, hI, hr, fun i hi => Nat.mul_le_mul (hw.2.1 i hi).2.1 (odds_le hw), hW⟩
      refine S_X12_takings (by omega) ⟨pb.1, ?_⟩
      rw [pb.2.1.2.2.2.1]
      refine ⟨t6.1.1, sb.1.1.1, ?_⟩
      rw [t6.2.1]
      refine S_X6_costOf sb.1 (by omega) (fun y18 e18 => ⟨pb.1, ?_⟩)
      rw [nI_iI, iI_sub] at e18
      change y18 = iI (tkI ev b a - (sCo σ * (hA ev 0).natAbs : Nat)) at e18
      rw [e18, pb.2.1.2.2.2.1]
      refine S_X5_pick pb sl6 hL hn hn2 sb hap t6 (by decide) (Or.inr rfl) (by omega) (fun M22 f22 sl22 kI22 kJ22 p22 j22 => ⟨by rw [f22.K]; exact pb.1, fun y23 e23 => ?_⟩)
      unfold jn_X5_twoHours_75
      rw [nI_1]
      rw [j22] at e23
      change y23 = sumJ (thT σ n L b a) ev + bpk σ (flw σ (sCh σ) 0 ev b a) (hA ev 0) (tkI ev b a - (sCo σ * (hA ev 0).natAbs : Nat)) n L at e23
      rw [← hT] at e23
      rw [e23]
      refine ih M22 (f6'.t2 (f22.mono (fun x hx => by simp only [pkA, thB] at *; omega))) sl22 (fun k hk => ?_) (fun k hk => ?_)
      · rw [kI22 k hk, e6I]; exact kI k hk
      · rw [kJ22 k hk, e6J]; exact kJ k hk
    · have hT : thT σ n L b a ev = 0 := if_neg hp0
      rw [if_neg hp0]
      refine ⟨fun _ => ?_, fun z => absurd rfl z⟩
      unfold jn_X5_twoHours_75
      rw [nI_1]
      have e1 : sumJ (thT σ n L b a) (ev + 1) = sumJ (thT σ n L b a) ev := by
        show sumJ (thT σ n L b a) ev + thT σ n L b a ev = _
        rw [hT, Int64.add_zero]
      rw [e1] at ih
      exact ih M6 f6' sl6 (fun k hk => by rw [e6I]; exact kI k hk) (fun k hk => by rw [e6J]; exact kJ k hk)
theorem S_X5_findBest {hr : Nat} (hp : SpOK M e) (hn : 10 ≤ n ∧ n ≤ 50) (hhr : hr = 1 ∨ hr = 2) (hs : StTb M s σ) (hap : apart s 8 e 11)
    (hQ : ∀ M', Fr (spA e) M M' → mI M' e 0 = nI (pB (100 / n) (bst (fbF σ n (100 / n) hr) (bse (100 / n) (100 / n))) * n) → mI M' e 1 = nI (pA (100 / n) (bst (fbF σ n (100 / n) hr) (bse (100 / n) (100 / n))) * n) → mJ M' e 2 = fbF σ n (100 / n) hr (bst (fbF σ n (100 / n) hr) (bse (100 / n) (100 / n))) → QV0 M') : wp_X5_findBest e s (nI n) (nI hr) M QV0 := by
  have hw := hs.1.2.1
  refine ⟨hp.1, S_X5_list hp hn (fun M2 f2 sl => ?_)⟩
  have hL : 2 ≤ 100 / n ∧ 100 / n ≤ 10 := by
    have h1 := Nat.div_le_div_left (a := 100) hn.1 (by omega)
    have h2 := Nat.div_le_div_left (a := 100) hn.2 (by omega)
    omega
  have hLn : 100 / n * n ≤ 100 := Nat.div_mul_le_self 100 n
  generalize 100 / n = L at *
  have tot := bse_le hL.2
  have tot0 : 1 ≤ bse L L := by
    have := bse_mono (L := L) (L - 1) 1
    rw [show 1 + (L - 1) = L by omega] at this
    have e1 : bse L 1 = 0 + (L - 0) := rfl
    omega
  have f2' : Fr (spA e) M M2 := f2.mono (fun x hx => by simp only [spA]; omega)
  obtain ⟨k1, ⟨r4, r5, r6, r7, r8, r9, -⟩, -, t3, t5, -⟩ := hp.fr f2
  have s2 := hs.fr f2 (fun x _ _ => by unfold apart at hap; omega)
  rw [r6]
  refine ⟨k1, t3.1, S_X9_begin s2.1 t3 (by unfold apart at *; omega) (fun M4 f4 h4 => ?_)⟩
  have f4' : Fr (spA e) M M4 := f2'.t2 (f4.mono (fun x hx => by simp only [spA, thA] at *; omega))
  have s4 := s2.fr f4 (fun x _ _ => by unfold apart at hap; simp only [thA]; omega)
  have p4 := hp.fr f4'
  have sl4 : SlAt M4 e L := by
    refine ⟨by rw [f4.I (by simp only [thA]; omega)]; exact sl.1, ?_⟩
    rw [f4.I (by simp only [thA]; omega), f4.I (by simp only [thA]; omega)]
    exact sl.2
  have prd : ∀ u, u < bse L L → pB L u < pA L u ∧ pA L u ≤ L ∧ pB L u * n ≤ 100 ∧ pA L u * n ≤ 100 ∧ pB L u * n < pA L u * n := fun u hu => by
    obtain ⟨p1, p2⟩ := pr_lt hu
    have m1 := Nat.mul_le_mul_right n p2
    have m2 := Nat.mul_lt_mul_of_pos_right p1 (show 0 < n by omega)
    omega
  refine ⟨fun q => ?_, fun q => ⟨p4.1, ?_⟩⟩
  · have hr2 : hr = 2 := by
      rcases hhr with h | h
      · subst h; exact absurd rfl q
      · exact h
    subst hr2
    have hF : fbF σ n L 2 = thV σ n L := if_neg (by decide)
    rw [hF] at hQ
    refine for_up (fun m u => ∀ M', Fr (spA e) M M' → ThAt M' (e + 3) (sN σ) (sCh σ) 0 100 → SlAt M' e L → (0 < u → mI M' e 0 = nI (pB L (bst (thV σ n L) u) * n) ∧ mI M' e 1 = nI (pA L (bst (thV σ n L) u) * n) ∧ mJ M' e 2 = thV σ n L (bst (thV σ n L) u)) → lp_X5_findBest_71 QV0 m e s (nI n) (nI u) M') (bse L L) (fun m M' fr ta sl hb => ?_) (fun m u hu ih M' fr ta sl hb => ?_) |> fun ⟨m, hm⟩ => ⟨m, hm M4 f4' h4 sl4 (fun z => absurd z (by omega))⟩
    · unfold lp_X5_findBest_71
      obtain ⟨b1, b2, b3⟩ := hb (by omega)
      exact ⟨by rw [fr.K]; exact hp.1, fun _ => hQ M' fr b1 b2 b3, fun hn => absurd (by rw [sl.1]; exact nI_le (Nat.le_refl _) (by omega)) hn⟩
    · have pa := hp.fr fr
      obtain ⟨k1, ⟨r4, r5, -⟩, ⟨kk1, kn1, kk2, kn2⟩, -⟩ := id pa
      have sa := hs.fr fr (fun x _ _ => by unfold apart at hap; simp only [spA]; omega)
      obtain ⟨p1, p2, p3, p4, p5⟩ := prd u hu
      obtain ⟨s1, s2⟩ := sl.2 u hu
      unfold lp_X5_findBest_71
      refine ⟨k1, fun hle => absurd (by rw [sl.1] at hle; exact hle) (nI_ge hu (by omega)), fun _ => ?_⟩
      rw [r4, r5, kn1, kn2, nI_clamp (by omega), s1, s2, pk_mul, pk_mul]
      refine ⟨kk1, vp_in_nI (by omega) (by omega), fun y13 e13 => ⟨kk2, vp_in_nI (by omega) (by omega), fun y16 e16 => ?_⟩⟩
      rw [e13, e16]
      refine S_X5_twoHours pa sl (by omega) (by omega) (by omega) sa hap ta p3 p4 p5 (fun M20 f20 sl20 kI20 kJ20 => ?_)
      change (nI u = 0 → jn_X5_findBest_129 _ QV0 e s (nI n) (nI u) (nI (pB L u * n)) (nI (pA L u * n)) (thV σ n L u) M20) ∧ (¬ nI u = 0 → _ ∧ (thV σ n L u ≤ mJ M20 e 2 → _) ∧ (¬ thV σ n L u ≤ mJ M20 e 2 → jn_X5_findBest_129 _ QV0 e s (nI n) (nI u) (nI (pB L u * n)) (nI (pA L u * n)) (thV σ n L u) M20))
      have f20' : Fr (spA e) M M20 := fr.t2 (f20.mono (fun x hx => by simp only [spA, thB] at *; omega))
      have t20 := ta.fr f20 (by simp only [thB]; omega) (by simp only [thB]; omega)
      have put : bst (thV σ n L) (u + 1) = u → jn_X5_findBest_129 (fun fx0 fx1 fx2 fx4 fM => lp_X5_findBest_71 QV0 m fx0 fx1 fx2 fx4 fM) QV0 e s (nI n) (nI u) (nI (pB L u * n)) (nI (pA L u * n)) (thV σ n L u) M20 := by
        intro hb1
        refine ⟨by rw [f20'.K]; exact hp.1, fun M26 e26 M29 e29 M32 e32 => ?_⟩
        unfold jn_X5_findBest_147
        rw [nI_1]
        have g : Fr (fun x => x = e) M20 M32 := by rw [e32, e29, e26]; exact ((Fr.uI (A := fun x => x = e) rfl).t2 (Fr.uI rfl)).t2 (Fr.uJ rfl)
        refine ih M32 (f20'.t2 (g.mono (fun x hx => by simp only [spA]; omega))) (t20.fr g (by omega) (by omega)) ⟨?_, ?_⟩ (fun _ => ⟨?_, ?_, ?_⟩)
        · rw [e32, mI_uJ, e29, mI_uI, if_pos rfl, if_neg (by decide), e26, mI_uI, if_pos rfl, if_neg (by decide)]; exact sl20.1
        · rw [g.I (by omega), g.I (by omega)]; exact sl20.2
        · rw [hb1, e32, mI_uJ, e29, mI_uI, if_pos rfl, if_neg (by decide), e26, mI_uI, if_pos rfl, if_pos rfl]
        · rw [hb1, e32, mI_uJ, e29, mI_uI, if_pos rfl, if_pos rfl]
        · rw [hb1, e32, mJ_uJ, if_pos rfl, if_pos rfl]
      have e0 : nI u = (0 : Int32) ↔ u = 0 := nI_eq (b := 0) (by omega) (by omega)
      refine ⟨fun z => put ?_, fun z => ⟨by rw [f20'.K]; exact hp.1, ?_⟩⟩
      · have z := e0.mp z
        subst z
        rfl
      · have z := mt e0.mpr z
        obtain ⟨b1, b2, b3⟩ := hb (by omega)
        rw [kJ20 2 (by decide), b3]
        refine ⟨fun y => ?_, fun y => put ?_⟩
        · have hb1 : bst (thV σ n L) (u + 1) = bst (thV σ n L) u := by
            show (if u = 0 then 0 else if _ then _ else u) = _
            rw [if_neg z, if_pos y]
          unfold jn_X5_findBest_147
          rw [nI_1]
          refine ih M20 f20' t20 sl20 (fun _ => ?_)
          rw [hb1, kI20 0 (by decide), kI20 1 (by decide), kJ20 2 (by decide)]
          exact ⟨b1, b2, b3⟩
        · show (if u = 0 then 0 else if _ then _ else u) = _
          rw [if_neg z, if_neg y]
  · have hr1 : hr = 1 := by
      rcases hhr with h | h
      · exact h
      · subst h; exact absurd q (by decide)
    subst hr1
    have hF : fbF σ n L 1 = pkF σ (sCh σ) 0 0 n L := if_pos rfl
    rw [hF] at hQ
    rw [p4.2.1.2.2.1]
    refine S_X5_pick (g := 0) p4 sl4 (by omega) (by omega) (by omega) s4 hap h4 (by decide) (Or.inl rfl) (by omega) (fun M41 f41 sl41 kI41 kJ41 p41 j41 => ?_)
    have bl := bst_lt (f := pkF σ (sCh σ) 0 0 n L) (bse L L) (by omega)
    generalize bst (pkF σ (sCh σ) 0 0 n L) (bse L L) = u at *
    have f41' : Fr (spA e) M M41 := f4'.t2 (f41.mono (fun x hx => by simp only [spA, pkA] at *; omega))
    obtain ⟨k1, ⟨r4, r5, -⟩, ⟨kk1, kn1, kk2, kn2⟩, -⟩ := hp.fr f41'
    obtain ⟨s1, s2⟩ := sl41.2 u bl
    rw [r4, p41, kn1, nI_clamp (by omega), s1, pk_mul]
    refine ⟨k1, kk1, vp_in_nI (by omega) (by omega), fun M42 e42 => ?_⟩
    have i42 : mI M42 e 10 = nI u := by rw [e42, mI_uI, if_pos rfl, if_neg (by decide)]; exact p41
    have a42 : mI M42 (e + 2) u = nI (pA L u) := by rw [e42, mI_uI, if_neg (by omega)]; exact s2
    have r42 : mR M42 e 5 = e + 2 := by rw [e42]; exact r5
    have n42 : mN M42 (e + 2) = 55 := by rw [e42]; exact kn2
    rw [i42, r42, n42, nI_clamp (by omega), a42, pk_mul]
    refine ⟨by rw [e42]; exact kk2, vp_in_nI (by omega) (by omega), fun M45 e45 M48 e48 => ?_⟩
    have eD : spA e e := by simp only [spA]; omega
    refine hQ M48 ?_ ?_ ?_ ?_
    · rw [e48, e45, e42]; exact ((f41'.t2 (Fr.uI eD)).t2 (Fr.uI eD)).t2 (Fr.uJ eD)
    · rw [e48, mI_uJ, e45, mI_uI, if_pos rfl, if_neg (by decide), e42, mI_uI, if_pos rfl, if_pos rfl]
    · rw [e48, mI_uJ, e45, mI_uI, if_pos rfl, if_pos rfl]
    · rw [e48, mJ_uJ, if_pos rfl, if_pos rfl, e45, mJ_uI, e42, mJ_uI]; exact j41
end STEPS
