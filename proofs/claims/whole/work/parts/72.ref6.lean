/-! THE REFERENCE: beside another one -/
def gnR (σ : StT) (hi lo : Nat) (s b : Bool) (i j : Nat) : Int := if alw σ 0 (sDeal σ j (sVa σ i) hi lo) = 1 then (if s = true then (lo : Int) - sVa σ i - sCo σ else 0) else if alw σ 0 (sDeal σ j (sVa σ i) hi lo) = 2 then (if b = true then (sVa σ i : Int) - hi - sCo σ else 0) else 0
def tmR (σ : StT) (hi lo : Nat) (s b : Bool) (i j : Nat) : Int := (sCh σ i : Int) * sPt σ j * gnR σ hi lo s b i j
theorem alw_0 {σ : StT} {d : Nat} (hd : d ≤ 2) : alw σ 0 d = if 0 < sMo σ then d else 0 := by
  have a1 : (-(sMo σ : Int) < 0) ↔ 0 < sMo σ := by omega
  have a2 : ((0 : Int) < (sMo σ : Int)) ↔ 0 < sMo σ := by omega
  unfold alw
  simp only [a1, a2]
  have hd3 : d = 0 ∨ d = 1 ∨ d = 2 := by omega
  rcases hd3 with rfl | rfl | rfl
  · simp
  · simp
  · simp
theorem tmR_B {σ : StT} {hi lo i j : Nat} {s b : Bool} {se bu : Prop} [Decidable se] [Decidable bu] (h1 : s = true ↔ se) (h2 : b = true ↔ bu) : tmR σ hi lo s b i j = if 0 < sMo σ then tmB σ hi lo se bu i j else 0 := by
  have hd : sDeal σ j (sVa σ i) hi lo ≤ 2 := dealN_le _ _ _ _ _
  unfold tmR tmB gnR gnB
  rw [alw_0 hd]
  have hs : (if s = true then (lo : Int) - sVa σ i - sCo σ else 0) = (if se then (lo : Int) - sVa σ i - sCo σ else 0) := by
    by_cases c : se
    · rw [if_pos (h1.mpr c), if_pos c]
    · rw [if_neg (mt h1.mp c), if_neg c]
  have hb : (if b = true then (sVa σ i : Int) - hi - sCo σ else 0) = (if bu then (sVa σ i : Int) - hi - sCo σ else 0) := by
    by_cases c : bu
    · rw [if_pos (h2.mpr c), if_pos c]
    · rw [if_neg (mt h2.mp c), if_neg c]
  rw [hs, hb]
  by_cases m : 0 < sMo σ
  · rw [if_pos m, if_pos m]
    generalize (if sDeal σ j (sVa σ i) hi lo = 1 then (if se then (lo : Int) - sVa σ i - sCo σ else 0) else if sDeal σ j (sVa σ i) hi lo = 2 then (if bu then (sVa σ i : Int) - hi - sCo σ else 0) else 0) = X
    rw [Int.mul_comm, Int.mul_assoc]
  · rw [if_neg m, if_neg m]
    simp
section REF
variable {M : Mem} {σ : StT} {c : CT} {w : Nat → Nat} {Q : Int32 → Mem → Prop} {QJ0 : Int64 → Mem → Prop} {QV0 : Mem → Prop}
theorem mbr_in {hi lo bid ask i : Nat} {s b : Bool} {acc : Int} {K : Nat → Int32 → Int32 → Int32 → Int32 → Int32 → Int32 → Int64 → Int32 → Mem → Prop} (hm : MdOK M) (hr : RS M σ) (h1 : hi ≤ 100) (h2 : lo ≤ 100) (hs : s = true → lo = ask) (hb : b = true → hi = bid) (hi6 : i < sN σ)
    (hk : K 87 (nI bid) (nI ask) (nI lo) (nI hi) (bI s) (bI b) (jI (acc + sumZ (fun j => tmR σ hi lo s b i j) (sS σ))) (nI (i + 1)) M) : ∃ n, lp_X13_meanBeside_90 K QJ0 n 87 (nI bid) (nI ask) (nI lo) (nI hi) (bI s) (bI b) (jI acc) (nI i) 0 M := by
  obtain ⟨w1, w2, w3, w4, w5, w6, wm, wc, -⟩ := hr.1
  obtain ⟨hch1, hch, hva⟩ := w2 i hi6
  have hin : vp_in (nI i) 6 := vp_in_nI (by omega) (by omega)
  refine for_up (fun m j => lp_X13_meanBeside_90 K QJ0 m 87 (nI bid) (nI ask) (nI lo) (nI hi) (bI s) (bI b) (jI (acc + sumZ (fun j => tmR σ hi lo s b i j) j)) (nI i) (nI j) M) (sS σ) (fun m => ?_) (fun m j hj ih => ?_) |> fun ⟨m, h⟩ => ⟨m, by
    have h := h
    simp only [sumZ, Int.add_zero] at h
    exact h⟩
  · unfold lp_X13_meanBeside_90
    refine ⟨hm.1, fun _ => ?_, fun hn => absurd (by rw [hr.2.1.2.1]; exact nI_le (Nat.le_refl _) (by omega)) hn⟩
    rw [nI_1]; exact hk
  · have hpt := (w4 j hj).2.1
    have hd : sDeal σ j (sVa σ i) hi lo ≤ 2 := dealN_le _ _ _ _ _
    have he : alw σ 0 (sDeal σ j (sVa σ i) hi lo) ≤ 2 := alw_le hd
    have fin : ∀ g : Int, g = gnR σ hi lo s b i j → -1000 ≤ g ∧ g ≤ 1000 → jn_X13_meanBeside_180 K (fun fx0 fx1 fx2 fx6 fx7 fx8 fx9 fx10 fx12 fx13 fM => lp_X13_meanBeside_90 K QJ0 m fx0 fx1 fx2 fx6 fx7 fx8 fx9 fx10 fx12 fx13 fM) QJ0 87 (nI bid) (nI ask) (nI lo) (nI hi) (bI s) (bI b) (jI (acc + sumZ (fun j => tmR σ hi lo s b i j) j)) (nI i) (nI j) (iI g) M := by
      intro g eg hg
      unfold jn_X13_meanBeside_180
      rw [hm.r1, hm.n1, hm.r5, hm.n5, nI_clamp (by omega), nI_clamp (by omega), (hr.2.2.1 i hi6).1, (hr.2.2.2 j hj).2.1]
      refine ⟨hm.1, hm.k1, hin, hm.k5, vp_in_nI (by omega) (by omega), fun y hy => ?_⟩
      rw [hy, nI_l (by omega), nI_l (by omega), lN_jI, lN_jI, iI_jI (by omega) (by omega), jI_mul, jI_mul, jI_add, nI_1]
      have e : acc + sumZ (fun j => tmR σ hi lo s b i j) j + (sCh σ i : Int) * sPt σ j * g = acc + sumZ (fun j => tmR σ hi lo s b i j) (j + 1) := by
        rw [eg, Int.add_assoc]; rfl
      rw [e]
      exact ih
    unfold lp_X13_meanBeside_90
    refine ⟨hm.1, fun hle => absurd (by rw [hr.2.1.2.1] at hle; exact hle) (nI_ge hj (by omega)), fun _ => ?_⟩
    rw [hm.r2, hm.n2, nI_clamp (by omega), (hr.2.2.1 i hi6).2]
    refine ⟨hm.k2, hin, S_R_dealt hm hr hj hva h1 h2 ⟨hm.1, S_R_alw (h := 0) hm hr hd (by omega) ?_⟩⟩
    rw [hm.r2, hm.n2, (hr.2.2.1 i hi6).2, hr.2.1.2.2.2.1]
    have e1 : nI (alw σ 0 (sDeal σ j (sVa σ i) hi lo)) = (1 : Int32) ↔ alw σ 0 (sDeal σ j (sVa σ i) hi lo) = 1 := nI_eq (b := 1) (by omega) (by omega)
    have e2 : nI (alw σ 0 (sDeal σ j (sVa σ i) hi lo)) = (2 : Int32) ↔ alw σ 0 (sDeal σ j (sVa σ i) hi lo) = 2 := nI_eq (b := 2) (by omega) (by omega)
    unfold gnR at fin
    have mid : ¬ (alw σ 0 (sDeal σ j (sVa σ i) hi lo) = 1 ∧ s = true) → jn_X13_meanBeside_151 K (fun fx0 fx1 fx2 fx6 fx7 fx8 fx9 fx10 fx12 fx13 fM => lp_X13_meanBeside_90 K QJ0 m fx0 fx1 fx2 fx6 fx7 fx8 fx9 fx10 fx12 fx13 fM) QJ0 87 (nI bid) (nI ask) (nI lo) (nI hi) (bI s) (bI b) (jI (acc + sumZ (fun j => tmR σ hi lo s b i j) j)) (nI i) (nI j) (nI (alw σ 0 (sDeal σ j (sVa σ i) hi lo))) M := by
      intro hn
      refine ⟨fun z => fin 0 ?_ (by omega), fun z => ⟨fun y => fin 0 ?_ (by omega), fun y => ?_⟩⟩
      · have z := mt e2.mpr z
        by_cases c : alw σ 0 (sDeal σ j (sVa σ i) hi lo) = 1
        · rw [if_pos c, if_neg (fun q => hn ⟨c, q⟩)]
        · rw [if_neg c, if_neg z]
      · have z := e2.mp z
        rw [if_neg (by omega), if_pos z, if_neg (bI_0.mp y)]
      · have z := e2.mp z
        have yb : b = true := by cases b; (exact absurd rfl y); rfl
        rw [hm.r2, hm.n2, nI_clamp (by omega), (hr.2.2.1 i hi6).2, hr.2.1.2.2.2.1]
        refine ⟨hm.1, hm.k2, hin, ?_⟩
        have ev : nI (sVa σ i) - nI bid - nI (sCo σ) = iI ((sVa σ i : Int) - bid - sCo σ) := by rw [nI_iI, nI_iI, nI_iI, iI_sub, iI_sub]
        rw [ev]
        have hbid := hb yb
        exact fin _ (by rw [if_neg (by omega), if_pos z, if_pos yb, hbid]) (by omega)
    refine ⟨fun z => mid (fun q => z (e1.mpr q.1)), fun z => ⟨fun y => mid (fun q => bI_0.mp y q.2), fun y => ?_⟩⟩
    have z := e1.mp z
    have ys : s = true := by cases s; (exact absurd rfl y); rfl
    refine ⟨hm.1, hm.k2, hin, ?_⟩
    have ev : nI ask - nI (sVa σ i) - nI (sCo σ) = iI ((ask : Int) - sVa σ i - sCo σ) := by rw [nI_iI, nI_iI, nI_iI, iI_sub, iI_sub]
    rw [ev]
    have hask := hs ys
    exact fin _ (by rw [if_pos z, if_pos ys, hask]) (by omega)
theorem mbr_go {hi lo bid ask : Nat} {s b : Bool} (hm : MdOK M) (hr : RS M σ) (h1 : hi ≤ 100) (h2 : lo ≤ 100) (hs : s = true → lo = ask) (hb : b = true → hi = bid)
    (hk : QJ0 (jI (sumZ (fun i => sumZ (fun j => tmR σ hi lo s b i j) (sS σ)) (sN σ))) M) : jn_X13_meanBeside_70 QJ0 87 (nI bid) (nI ask) (nI lo) (nI hi) (bI s) (bI b) M := by
  have w1 := hr.1.1
  refine for_up (fun m i => lp_X13_meanBeside_78 QJ0 m 87 (nI bid) (nI ask) (nI lo) (nI hi) (bI s) (bI b) (jI (sumZ (fun i => sumZ (fun j => tmR σ hi lo s b i j) (sS σ)) i)) (nI i) M) (sN σ) (fun m => ?_) (fun m i hi6 ih => ?_)
  · unfold lp_X13_meanBeside_78
    exact ⟨hm.1, fun _ => hk, fun hn => absurd (by rw [hr.2.1.1]; exact nI_le (Nat.le_refl _) (by omega)) hn⟩
  · unfold lp_X13_meanBeside_78
    exact ⟨hm.1, fun hle => absurd (by rw [hr.2.1.1] at hle; exact hle) (nI_ge hi6 (by omega)), fun _ => mbr_in hm hr h1 h2 hs hb hi6 ih⟩
theorem S_R_meanBeside {bid ask ob oa : Nat} {al : Bool} (hm : MdOK M) (hr : RS M σ) (h1 : bid ≤ 100) (h2 : ask ≤ 100) (h3 : ob ≤ 100) (h4 : oa ≤ 100) (hQ : QJ0 (jI (mbB σ bid ask ob oa al)) M) : wp_X13_meanBeside 87 (nI bid) (nI ask) (nI ob) (nI oa) (bI al) M QJ0 := by
  have fin : ∀ s b : Bool, (s = true ↔ (ask < oa ∨ (al = true ∧ ask = oa))) → (b = true ↔ (ob < bid ∨ (al = true ∧ bid = ob))) → jn_X13_meanBeside_70 QJ0 87 (nI bid) (nI ask) (nI (min ask oa)) (nI (max bid ob)) (bI s) (bI b) M := by
    intro s b es eb
    refine mbr_go hm hr (by omega) (by omega) (fun q => by have := es.mp q; omega) (fun q => by have := eb.mp q; omega) ?_
    unfold mbB at hQ
    have e : sumZ (fun i => sumZ (fun j => tmR σ (max bid ob) (min ask oa) s b i j) (sS σ)) (sN σ) = if 0 < sMo σ then sumZ (fun j => sumZ (fun i => tmB σ (max bid ob) (min ask oa) (ask < oa ∨ (al = true ∧ ask = oa)) (ob < bid ∨ (al = true ∧ bid = ob)) i j) (sN σ)) (sS σ) else 0 := by
      have e1 : ∀ i j, tmR σ (max bid ob) (min ask oa) s b i j = if 0 < sMo σ then tmB σ (max bid ob) (min ask oa) (ask < oa ∨ (al = true ∧ ask = oa)) (ob < bid ∨ (al = true ∧ bid = ob)) i j else 0 := fun i j => tmR_B es eb
      simp only [e1]
      by_cases m : 0 < sMo σ
      · simp only [if_pos m]
        exact (sumZ_swap (fun i j => tmB σ (max bid ob) (min ask oa) (ask < oa ∨ (al = true ∧ ask = oa)) (ob < bid ∨ (al = true ∧ bid = ob)) i j) (sN σ) (sS σ)).symm
      · simp only [if_neg m, sumZ_0]
    rw [e]
    exact hQ
  have eA : nI oa ≤ nI ask ↔ oa ≤ ask := nI_le31 (by omega) (by omega)
  have eB : nI bid ≤ nI ob ↔ bid ≤ ob := nI_le31 (by omega) (by omega)
  have eA2 : nI ask < nI oa ↔ ask < oa := nI_lt31 (by omega) (by omega)
  have eB2 : nI ob < nI bid ↔ ob < bid := nI_lt31 (by omega) (by omega)
  have eA3 : nI ask = nI oa ↔ ask = oa := nI_eq (by omega) (by omega)
  have eB3 : nI bid = nI ob ↔ bid = ob := nI_eq (by omega) (by omega)
  have nal : bI al = 0 → ¬ al = true := fun z => bI_0.mp z
  have yal : ¬ bI al = 0 → al = true := fun z => by cases al; (exact absurd rfl z); rfl
  have p48 : ∀ s : Bool, (s = true ↔ (ask < oa ∨ (al = true ∧ ask = oa))) → jn_X13_meanBeside_48 QJ0 87 (nI bid) (nI ask) (nI ob) (bI al) (nI (min ask oa)) (nI (max bid ob)) (bI s) M := by
    intro s es
    have t : (ob < bid ∨ (al = true ∧ bid = ob)) → jn_X13_meanBeside_65 QJ0 87 (nI bid) (nI ask) (nI (min ask oa)) (nI (max bid ob)) (bI s) M := fun q => fin s true es ⟨fun _ => q, fun _ => rfl⟩
    have f : ¬ (ob < bid ∨ (al = true ∧ bid = ob)) → jn_X13_meanBeside_69 QJ0 87 (nI bid) (nI ask) (nI (min ask oa)) (nI (max bid ob)) (bI s) M := fun q => fin s false es ⟨fun z => (by cases z), fun z => absurd z q⟩
    exact ⟨fun z => t (Or.inl (eB2.mp z)), fun z => ⟨fun y => f (fun q => by have := mt eB2.mpr z; have := nal y; rcases q with q | q; (omega); exact this q.1), fun y => ⟨fun x => f (fun q => by have := mt eB2.mpr z; have := mt eB3.mpr x; omega), fun x => t (Or.inr ⟨yal y, eB3.mp x⟩)⟩⟩⟩
  have p24 : jn_X13_meanBeside_24 QJ0 87 (nI bid) (nI ask) (nI ob) (nI oa) (bI al) (nI (min ask oa)) (nI (max bid ob)) M := by
    have t : (ask < oa ∨ (al = true ∧ ask = oa)) → jn_X13_meanBeside_43 QJ0 87 (nI bid) (nI ask) (nI ob) (bI al) (nI (min ask oa)) (nI (max bid ob)) M := fun q => p48 true ⟨fun _ => q, fun _ => rfl⟩
    have f : ¬ (ask < oa ∨ (al = true ∧ ask = oa)) → jn_X13_meanBeside_47 QJ0 87 (nI bid) (nI ask) (nI ob) (bI al) (nI (min ask oa)) (nI (max bid ob)) M := fun q => p48 false ⟨fun z => (by cases z), fun z => absurd z q⟩
    exact ⟨fun z => t (Or.inl (eA2.mp z)), fun z => ⟨fun y => f (fun q => by have := mt eA2.mpr z; have := nal y; rcases q with q | q; (omega); exact this q.1), fun y => ⟨fun x => f (fun q => by have := mt eA2.mpr z; have := mt eA3.mpr x; omega), fun x => t (Or.inr ⟨yal y, eA3.mp x⟩)⟩⟩⟩
  have p12 : jn_X13_meanBeside_12 QJ0 87 (nI bid) (nI ask) (nI ob) (nI oa) (bI al) (nI (min ask oa)) M := by
    refine ⟨fun z => ?_, fun z => ?_⟩
    · rw [show max bid ob = ob by have := eB.mp z; omega] at p24; exact p24
    · rw [show max bid ob = bid by have := mt eB.mpr z; omega] at p24; exact p24
  refine ⟨fun z => ?_, fun z => ?_⟩
  · rw [show min ask oa = oa by have := eA.mp z; omega] at p12; exact p12
  · rw [show min ask oa = ask by have := mt eA.mpr z; omega] at p12; exact p12
theorem S_X13_beside {b a ob oa : Int32} (h : AbsR M c) (hQ : ∀ M', Fg mdC8 M M' → AbsR M' c → QJ0 (aBeside c b a ob oa) M') : wp_X13_beside 87 b a ob oa M QJ0 := by
  unfold aBeside at hQ
  refine th0 h (fun M1 h1 f1 z1 => ?_)
  have q := hQ M1 f1 h1
  refine S_R_isSlate (fun p => ⟨fun z => absurd z (by decide), fun _ => S_R_isSlate (fun p2 => ⟨fun _ => ⟨h1.1.1, S_R_isReady h1.1 h1.2.1 (fun r => ⟨fun z => absurd z (by decide), fun _ => ⟨h1.1.1, ?_⟩⟩) (fun r => ⟨fun _ => ?_, fun z => absurd rfl z⟩)⟩, fun z => absurd z (by decide)⟩) (fun p2 => ⟨fun z => absurd rfl z, fun _ => ?_⟩)⟩) (fun p => ⟨fun _ => ?_, fun z => absurd rfl z⟩)
  · rw [if_pos ⟨p, p2⟩, if_pos r] at q
    obtain ⟨p3, p4⟩ := p
    obtain ⟨p5, p6⟩ := p2
    obtain ⟨a, ha, rfl⟩ := ix_ex (x := a) (n := 101) (by omega) (by omega)
    obtain ⟨b, hb, rfl⟩ := ix_ex (x := b) (n := 101) (by omega) (by omega)
    obtain ⟨oa, hoa, rfl⟩ := ix_ex (x := oa) (n := 101) (by omega) (by omega)
    obtain ⟨ob, hob, rfl⟩ := ix_ex (x := ob) (n := 101) (by omega) (by omega)
    rw [ix_nI (by omega), ix_nI (by omega), ix_nI (by omega), ix_nI (by omega)] at q
    exact S_R_meanBeside (al := false) h1.1 h1.2.1 (by omega) (by omega) (by omega) (by omega) q
  · rw [if_pos ⟨p, p2⟩, if_neg r] at q; exact q
  · rw [if_neg (fun z => p2 z.2)] at q; exact q
  · rw [if_neg (fun z => p z.1)] at q; exact q
end REF
