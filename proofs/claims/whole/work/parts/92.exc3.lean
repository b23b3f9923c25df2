/-! TOSS AND ELEMENT, ANSWERED -/
section EXS
variable {M : Mem} {c : CT} {Q : Int32 → Mem → Prop} {QJ0 : Int64 → Mem → Prop}
theorem gr_kp {M : Mem} {n : Nat} : Kp (fun _ => False) M (gr M n) := ⟨Nat.le_add_right _ _, fun _ _ _ => ⟨rfl, rfl, rfl, rfl, rfl⟩⟩
theorem AbsC.gr {n : Nat} (h : AbsC M c) : AbsC (gr M n) c := h.kp gr_kp (fun a q => absurd q id)
theorem wayK_inj : ∀ x, x ≤ 5 → ∀ y, y ≤ 5 → wayK x = wayK y → x = y := by decide
theorem S_X12_toss {d : Int32} (h : AbsC M c) (hQ : ∀ M', Kp (fun _ => False) M M' → AbsC M' c → Q (aToss c d) M') : wp_X12_toss 2 d M Q := by
  unfold aToss wk wf at hQ
  refine ⟨h.1.1, S_X12_wayOn h (fun hn => ⟨fun z => absurd rfl z, fun _ => ⟨h.1.1, S_X12_whyNo h ?_⟩⟩) (fun i a hi e g1 g2 g3 g4 g5 => ⟨fun _ => ?_, fun z => absurd z g2⟩)⟩
  · have q := hQ M Kp.rf h
    rw [if_neg (fun q => by
      obtain ⟨j, hj, e⟩ := (inN_ix (by omega)).mpr q.1
      have q2 := q.2
      rw [e, ix_nI (by omega)] at q2
      exact hn j hj e q2)] at q
    exact q
  · have ei : ix d = i := by rw [e, ix_nI (by omega)]
    have hQ2 : ∀ M', Kp (fun _ => False) M M' → AbsC M' c → Q (if (cG c i).2.1 = 5 ∨ (cG c i).2.2.1 = 0 then -15 else if (cG c i).2.1 = 2 then nI (100 + (cG c i).2.2.1) else if (cG c i).2.1 = 4 then nI (200 + (100 - (cG c i).2.2.1) / 2) else nI (cG c i).2.2.1) M' := fun M' k9 c9 => by
      have q := hQ M' k9 c9
      rw [ei, if_pos ⟨hi, g1⟩] at q
      exact q
    clear hQ
    have hc := @AbsC.gr M c
    generalize (cG c i).2.1 = k at *
    generalize (cG c i).2.2.1 = f at *
    have W0 := g5
    obtain ⟨w1, w2, w3, w4⟩ := g5
    have A : (mK M a = 11 ∨ mI M a 0 ≤ 0) ↔ (k = 5 ∨ f = 0) := by
      have a1 : mK M a = 11 ↔ k = 5 := by
        rw [w1]
        exact ⟨fun z => wayK_inj k w3 5 (by omega) z, fun z => by rw [z]; rfl⟩
      have a2 : mI M a 0 ≤ 0 ↔ f = 0 := by
        rw [w2]
        exact (nI_le31 (b := 0) (by omega) (by omega)).trans ⟨fun z => by omega, fun z => by omega⟩
      rw [a1, a2]
    refine ⟨W0.isW, fun z => ?_, fun z n => ?_⟩
    · have q := hQ2 M Kp.rf h
      rw [if_pos (A.mp z)] at q
      exact q
    · have W : WayAt (gr M n) a k f := ⟨w1, w2, w3, w4⟩
      have q := hQ2 (gr M n) gr_kp (hc h)
      have z := mt A.mpr z
      rw [if_neg z] at q
      have I : mI (gr M n) a 0 = nI f := w2
      have K : mK (gr M n) a = wayK k := w1
      have ke : ∀ j, j ≤ 5 → mK (gr M n) a = wayK j → k = j := fun j hj y => wayK_inj k w3 j hj (K.symm.trans y)
      have b1 : k ≠ 2 → k ≠ 4 → wp_X11_failureNumber a (gr M n) (fun x M2 => Q x M2) := fun h1 h2 => by
        rw [if_neg h1, if_neg h2] at q
        refine ⟨W.isW, ?_⟩
        rw [I]
        exact q
      refine ⟨W.isW, fun y => ?_, fun y => ?_, fun y => ?_, fun y => ?_, fun y => ?_, fun y => ?_⟩
      · have e := ke 0 (by omega) y
        exact b1 (by omega) (by omega)
      · have e := ke 1 (by omega) y
        exact b1 (by omega) (by omega)
      · have e := ke 2 (by omega) y
        rw [if_pos e] at q
        refine ⟨y, W.isW, ?_⟩
        rw [I]
        show Q (nI f + nI 100) (gr M n)
        rw [nI_add, Nat.add_comm]
        exact q
      · have e := ke 3 (by omega) y
        exact b1 (by omega) (by omega)
      · have e := ke 4 (by omega) y
        rw [if_neg (show ¬ k = 2 by omega), if_pos e] at q
        refine ⟨y, (S_width (Q := fun r3 M2 => Q (200 + r3) M2) W ?_).2.2.2.2.1 y⟩
        show Q (200 + nI (widN k f)) (gr M n)
        rw [show (200 : Int32) = nI 200 from rfl, nI_add, e]
        exact q
      · have e := ke 5 (by omega) y
        exact absurd (Or.inl e) z
theorem S_X12_element {d i : Int32} {A B : Mem → Prop} (h : AbsC M c) (hQ : ∀ M', Kp (fun _ => False) M M' → AbsC M' c → (kEl c d i = 0 → QJ0 (vEl c d i) M') ∧ (kEl c d i = 1 → A M') ∧ (kEl c d i = 2 → B M')) : wp_X12_element 2 d i M QJ0 A B := by
  have b2 : kEl c d i = 2 → ∀ n, B (gr M n) := fun z n => (hQ (gr M n) gr_kp h.gr).2.2 z
  refine S_X12_isShelf (fun j hj e => ⟨fun z => absurd z (by decide), fun _ => ⟨h.1.1, S_X12_rowOn h (fun hn => ⟨fun _ => b2 ?_, fun z => absurd rfl z⟩) (fun k hk e2 hr g1 => ⟨fun z => by omega, fun _ => ?_⟩)⟩⟩) (fun hn => ⟨fun _ n => (hQ (gr M n) gr_kp h.gr).2.1 ?_, fun z => absurd rfl z⟩)
  · have ed : ix d = j := by rw [e, ix_nI (by omega)]
    unfold kEl
    rw [if_pos (by omega), if_neg (fun q => hn ⟨by omega, q.1⟩)]
  · have ed : ix d = k := by rw [e2, ix_nI (by omega)]
    obtain ⟨r1, r2, r3, r4, r5⟩ := row_at h hk g1
    have g := h.2.2.2.2.2.1 k hk
    have el : rL c d = (cG c k).2.2.1 := by unfold rL; rw [ed]
    refine ⟨g.1.1, S_X4_hasPlace g.1.1 r4 r1 (fun t ht et => ⟨fun z => absurd z (by decide), fun _ => ⟨g.1.1, ?_, ?_, ?_⟩⟩) (fun hn => ⟨fun _ => b2 ?_, fun z => absurd rfl z⟩)⟩
    · rw [g.1.2.1]; exact g.1.2.2.1
    · rw [g.1.2.1, g.1.2.2.2, et]; exact vp_in_nI (by omega) (by omega)
    · have ei : ix i = t := by rw [et, ix_nI (by omega)]
      have q := (hQ M Kp.rf h).1
      have k0 : kEl c d i = 0 := by
        unfold kEl
        rw [if_pos (by omega), if_pos ⟨by rw [ed]; exact g1, by rw [el, ei]; exact ht⟩]
      have q := q k0
      unfold vEl at q
      rw [if_pos k0, ed, ei] at q
      rw [g.1.2.1, et, nI_clamp (by omega), (r5 t ht).2, iI_jI (r5 t ht).1.1 (r5 t ht).1.2]
      exact q
    · unfold kEl
      rw [if_pos (by omega), if_neg (fun q => by
        have q2 := q.2
        rw [el] at q2
        exact hn (ix i) q2 ((ix_eq (by omega)).mpr rfl))]
  · unfold kEl
    rw [if_neg (fun q => hn ((inN_ix (by omega)).mpr q))]
/-- the law's element: 0 with the answer in out, 1, 2 -/
theorem S_L_element {d i : Int32} {o : Nat} (h : AbsC M c) (ho : mK M o = 21 ∧ mN M o = 1 ∧ o < mT M) (hO : o = 120) (hQ : ∀ M', Kp (fun a => a = 120) M M' → (mK M' 120 = mK M 120 ∧ mN M' 120 = mN M 120) → AbsC M' c → (kEl c d i = 0 → mJ M' 120 0 = vEl c d i) → Q (nI (kEl c d i)) M') : wp_L_element 2 d i o M Q := by
  subst hO
  refine ⟨h.1.1, S_X12_element h (fun M1 k1 c1 => ⟨fun z => ?_, fun z => ?_, fun z => ?_⟩)⟩
  · obtain ⟨e1, e2, -, -, -⟩ := k1.2 120 id ho.2.2
    have kJ : Kp (fun a => a = 120) M1 (uJ M1 120 0 (vEl c d i)) := ⟨Nat.le_refl _, fun a ha _ => ⟨rfl, rfl, rfl, rfl, by
      funext j
      rw [mJ_uJ, if_neg ha]⟩⟩
    refine ⟨by rw [e1]; exact ho.1, by rw [e2, ho.2.1]; exact vp_in_nI (n := 0) (by omega) (by omega), ?_⟩
    have q := hQ (uJ M1 120 0 (vEl c d i)) (Kp.tr (M1 := M1) ⟨k1.1, fun a ha hm => k1.2 a id hm⟩ kJ) ⟨e1, e2⟩ (c1.kp kJ (fun a q => by omega)) (fun _ => by rw [mJ_uJ, if_pos rfl, if_pos rfl])
    rw [z] at q
    exact q
  · obtain ⟨e1, e2, -, -, -⟩ := k1.2 120 id ho.2.2
    have q := hQ M1 ⟨k1.1, fun a ha hm => k1.2 a id hm⟩ ⟨e1, e2⟩ c1 (fun y => by omega)
    rw [z] at q
    exact q
  · obtain ⟨e1, e2, -, -, -⟩ := k1.2 120 id ho.2.2
    have q := hQ M1 ⟨k1.1, fun a ha hm => k1.2 a id hm⟩ ⟨e1, e2⟩ c1 (fun y => by omega)
    rw [z] at q
    exact q
end EXS
