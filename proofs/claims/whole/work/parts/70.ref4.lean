/-! THE REFERENCE: calls that look only -/
theorem ix_eq {x : Int32} {k : Nat} (hk : k < 2147483648) : x = nI k ↔ ix x = k := by
  constructor
  · intro e; rw [e, ix_nI hk]
  · intro e
    obtain ⟨j, hj, rfl⟩ := ix_ex (x := x) (n := k + 1) (by omega) (by omega)
    rw [ix_nI (by omega)] at e
    rw [e]
theorem ix_vp {x : Int32} {n N : Nat} (h : ix x < n) (hn : n ≤ N) (hN : N < 2147483648) : vp_in x N := by
  obtain ⟨j, hj, rfl⟩ := ix_ex h (by omega)
  exact vp_in_nI (by omega) hN
theorem ix_cl {x : Int32} {n : Nat} (h : ix x < n) (hn : n ≤ 2147483648) : x.toNatClampNeg = ix x := by
  obtain ⟨j, hj, rfl⟩ := ix_ex h hn
  rw [ix_nI (by omega), nI_clamp (by omega)]
theorem rdy_pos {c : CT} (h : rdy c) : 0 < sN (cS c) := by
  rcases Nat.eq_zero_or_pos (sN (cS c)) with e | e
  · have h : sumN (sCh (cS c)) (sN (cS c)) = 100 := h
    rw [e] at h; exact absurd (show (0 : Nat) = 100 from h) (by decide)
  · exact e
section REF
variable {M : Mem} {σ : StT} {c : CT} {w : Nat → Nat} {Q : Int32 → Mem → Prop} {QJ0 : Int64 → Mem → Prop} {QV0 : Mem → Prop}
theorem AbsR.mi {M' : Mem} (h : AbsR M c) (f : Fg miC M M') : AbsR M' c := h.fg f (fun a k q => by simp only [miC] at q; simp only [coC]; omega)
theorem Fg.m8 {P : Nat → Nat → Prop} {M M' : Mem} (f : Fg P M M') (hP : ∀ a k, P a k → 87 ≤ a ∧ a < 120) : Fg mdC8 M M' := f.mono hP
theorem Fg.mi8 {M M' : Mem} (f : Fg miC M M') : Fg mdC8 M M' := f.mono (fun a k q => by simp only [miC] at q; simp only [mdC8]; omega)
theorem S_X13_worth {x y : Int32} (h : AbsR M c) (hQ : ∀ M', Fg mdC8 M M' → AbsR M' c → Q (aWorth c x y) M') : wp_X13_worth 87 x y M Q := by
  unfold aWorth at hQ
  refine th0 h (fun M1 h1 f1 z1 => ?_)
  have q := hQ M1 f1 h1
  have h6 := h1.2.1.1.1
  refine S_R_isWorth h1.1 h1.2.1 (fun a => ⟨fun z => absurd z (by decide), fun _ => S_inX 1 (by omega) rfl (fun b => ⟨fun z => absurd z (by decide), fun _ => ⟨fun y0 => ?_, fun y0 => ?_⟩⟩) (fun b => ⟨fun _ => ?_, fun z => absurd rfl z⟩)⟩) (fun a => ⟨fun _ => ?_, fun z => absurd rfl z⟩)
  · rw [if_pos ⟨a, by omega⟩, if_neg (mt (ix_eq (k := 0) (by omega)).mpr y0)] at q
    rw [h1.1.r2, h1.1.n2, ix_cl a (by omega), (h1.2.1.2.2.1 _ a).2]
    exact ⟨h1.1.1, h1.1.k2, ix_vp a h6 (by omega), q⟩
  · rw [if_pos ⟨a, by omega⟩, if_pos ((ix_eq (k := 0) (by omega)).mp y0)] at q
    rw [h1.1.r1, h1.1.n1, ix_cl a (by omega), (h1.2.1.2.2.1 _ a).1]
    exact ⟨h1.1.1, h1.1.k1, ix_vp a h6 (by omega), q⟩
  · rw [if_neg (fun z => b (by omega))] at q; exact q
  · rw [if_neg (fun z => a z.1)] at q; exact q
theorem S_X13_sort {x y : Int32} (h : AbsR M c) (hQ : ∀ M', Fg mdC8 M M' → AbsR M' c → Q (aSort c x y) M') : wp_X13_sort 87 x y M Q := by
  unfold aSort at hQ
  refine th0 h (fun M1 h1 f1 z1 => ?_)
  have q := hQ M1 f1 h1
  have h6 := h1.2.1.1.2.2.1
  refine S_inM (sS (cS c)) (by omega) h1.2.1.2.1.2.1 (fun a => ⟨fun z => absurd z (by decide), fun _ => S_inX 2 (by omega) rfl (fun b => ⟨fun _ => ⟨fun y0 => ⟨fun y1 => ?_, fun y1 => ?_⟩, fun y0 => ?_⟩, fun z => absurd z (by decide)⟩) (fun b => ⟨fun z => absurd rfl z, fun _ => ?_⟩)⟩) (fun a => ⟨fun _ => ?_, fun z => absurd rfl z⟩)
  · rw [if_pos ⟨a, by omega⟩, if_neg (mt (ix_eq (k := 0) (by omega)).mpr y0), if_neg (mt (ix_eq (k := 1) (by omega)).mpr y1)] at q
    rw [h1.1.r6, h1.1.n6, ix_cl a (by omega), (h1.2.1.2.2.2 _ a).2.2]
    exact ⟨h1.1.1, h1.1.k6, ix_vp a h6 (by omega), q⟩
  · rw [if_pos ⟨a, by omega⟩, if_neg (mt (ix_eq (k := 0) (by omega)).mpr y0), if_pos ((ix_eq (k := 1) (by omega)).mp y1)] at q
    rw [h1.1.r5, h1.1.n5, ix_cl a (by omega), (h1.2.1.2.2.2 _ a).2.1]
    exact ⟨h1.1.1, h1.1.k5, ix_vp a h6 (by omega), q⟩
  · rw [if_pos ⟨a, by omega⟩, if_pos ((ix_eq (k := 0) (by omega)).mp y0)] at q
    rw [h1.1.r4, h1.1.n4, ix_cl a (by omega), (h1.2.1.2.2.2 _ a).1]
    exact ⟨h1.1.1, h1.1.k4, ix_vp a h6 (by omega), q⟩
  · rw [if_neg (fun z => b (by omega))] at q; exact q
  · rw [if_neg (fun z => a z.1)] at q; exact q
theorem S_X13_does {s w b a : Int32} (h : AbsR M c) (hQ : ∀ M', Fg mdC8 M M' → AbsR M' c → Q (aDoes c s w b a) M') : wp_X13_does 87 s w b a M Q := by
  unfold aDoes at hQ
  refine th0 h (fun M1 h1 f1 z1 => ?_)
  have q := hQ M1 f1 h1
  have h6 := h1.2.1.1.2.2.1
  have h7 := h1.2.1.1.1
  refine S_inM (sS (cS c)) (by omega) h1.2.1.2.1.2.1 (fun p1 => ⟨fun z => absurd z (by decide), fun _ => ⟨h1.1.1, S_R_isWorth h1.1 h1.2.1 (fun p2 => ⟨fun z => absurd z (by decide), fun _ => S_R_isSlate (fun p3 => ⟨fun z => absurd z (by decide), fun _ => ?_⟩) (fun p3 => ⟨fun _ => ?_, fun z => absurd rfl z⟩)⟩) (fun p2 => ⟨fun _ => ?_, fun z => absurd rfl z⟩)⟩⟩) (fun p1 => ⟨fun _ => ?_, fun z => absurd rfl z⟩)
  · rw [if_pos ⟨p1, p2, p3⟩] at q
    have hv := (h1.2.1.1.2.1 _ p2).2.2
    rw [h1.1.r2, h1.1.n2, ix_cl p2 (by omega), (h1.2.1.2.2.1 _ p2).2]
    refine ⟨h1.1.1, h1.1.k2, ix_vp p2 h7 (by omega), ?_⟩
    obtain ⟨p4, p5⟩ := p3
    generalize sVa (cS c) (ix w) = v at *
    obtain ⟨j, hj, rfl⟩ := ix_ex p1 (by omega)
    obtain ⟨a, ha, rfl⟩ := ix_ex (x := a) (n := 101) (by omega) (by omega)
    obtain ⟨b, hb, rfl⟩ := ix_ex (x := b) (n := 101) (by omega) (by omega)
    rw [ix_nI (by omega), ix_nI (by omega), ix_nI (by omega)] at q
    exact S_R_dealt h1.1 h1.2.1 hj hv (by omega) (by omega) q
  · rw [if_neg (fun z => p3 z.2.2)] at q; exact q
  · rw [if_neg (fun z => p2 z.2.1)] at q; exact q
  · rw [if_neg (fun z => p1 z.1)] at q; exact q
theorem S_X13_chance {e w b a : Int32} (h : AbsR M c) (hQ : ∀ M', Fg mdC8 M M' → AbsR M' c → Q (aChance c e w b a) M') : wp_X13_chance 87 e w b a M Q := by
  unfold aChance at hQ
  refine th0 h (fun M1 h1 f1 z1 => ?_)
  have q := hQ M1 f1 h1
  have h7 := h1.2.1.1.1
  refine S_inX 2 (by omega) rfl (fun p1 => ⟨fun z => absurd z (by decide), fun _ => ⟨h1.1.1, S_R_isWorth h1.1 h1.2.1 (fun p2 => ⟨fun z => absurd z (by decide), fun _ => S_R_isSlate (fun p3 => ⟨fun z => absurd z (by decide), fun _ => ⟨h1.1.1, ?_⟩⟩) (fun p3 => ⟨fun _ => ?_, fun z => absurd rfl z⟩)⟩) (fun p2 => ⟨fun _ => ?_, fun z => absurd rfl z⟩)⟩⟩) (fun p1 => ⟨fun _ => ?_, fun z => absurd rfl z⟩)
  · rw [if_pos ⟨by omega, p2, p3⟩] at q
    obtain ⟨p4, p5⟩ := p3
    obtain ⟨e, he, rfl⟩ := ix_ex p1 (by omega)
    obtain ⟨j, hj, rfl⟩ := ix_ex p2 (by omega)
    obtain ⟨a, ha, rfl⟩ := ix_ex (x := a) (n := 101) (by omega) (by omega)
    obtain ⟨b, hb, rfl⟩ := ix_ex (x := b) (n := 101) (by omega) (by omega)
    rw [ix_nI (by omega), ix_nI (by omega)] at p4
    rw [ix_nI (by omega), ix_nI (by omega), ix_nI (by omega), ix_nI (by omega), odds_hun h1.2.1.1 (by omega) p4] at q
    rw [h1.2.2.1.1]
    have := h1.2.2.1.2.1
    exact S_R_hun h1.1 h1.2.1 (by omega) hj (by omega) (by omega) (by omega) q
  · rw [if_neg (fun z => p3 z.2.2)] at q; exact q
  · rw [if_neg (fun z => p2 z.2.1)] at q; exact q
  · rw [if_neg (fun z => p1 (by omega))] at q; exact q
theorem S_X13_held (h : AbsR M c) (hQ : ∀ M', Fg mdC8 M M' → AbsR M' c → Q (iI (cH c)) M') : wp_X13_held 87 M Q := by
  refine th0 h (fun M1 h1 f1 z1 => ?_)
  rw [h1.2.2.1.1]
  exact hQ M1 f1 h1
theorem S_X13_count {x : Int32} (h : AbsR M c) (hQ : ∀ M', Fg mdC8 M M' → AbsR M' c → Q (aCount c x) M') : wp_X13_count 87 x M Q := by
  unfold aCount at hQ
  refine th0 h (fun M1 h1 f1 z1 => ?_)
  have q := hQ M1 f1 h1
  refine ⟨fun z => ?_, fun z => ?_, fun z => ?_, fun z => S_R_chances h1.1 h1.2.1 ?_, fun z => S_R_parts h1.1 h1.2.1 ?_, fun z => ?_, fun z => ?_⟩
  · have no : ∀ k : Nat, k ≤ 5 → x ≠ nI k := fun k hk e => by rw [e, nI_toInt (by omega)] at z; omega
    rw [if_neg (show ¬ x = 0 from no 0 (by omega)), if_neg (show ¬ x = 1 from no 1 (by omega)), if_neg (show ¬ x = 2 from no 2 (by omega)), if_neg (show ¬ x = 3 from no 3 (by omega)), if_neg (show ¬ x = 4 from no 4 (by omega)), if_neg (show ¬ x = 5 from no 5 (by omega))] at q
    exact q
  · subst z; rw [h1.2.1.2.1.1]; exact q
  · subst z; rw [h1.2.1.2.1.2.1]; exact q
  · subst z; exact q
  · subst z; exact q
  · subst z; rw [h1.2.1.2.1.2.2.1]; exact q
  · subst z; rw [h1.2.1.2.1.2.2.2.2]; exact q
theorem S_X13_streets {b a ob oa : Int32} (h : AbsR M c) (hQ : ∀ M', Fg mdC8 M M' → AbsR M' c → Q (aStreets b a ob oa) M') : wp_X13_streets 87 b a ob oa M Q := by
  unfold aStreets at hQ
  refine th0 h (fun M1 h1 f1 z1 => ?_)
  have q := hQ M1 f1 h1
  refine S_R_isSlate (fun p => ⟨fun z => absurd z (by decide), fun _ => S_R_isSlate (fun p2 => ⟨fun _ y hy y2 hy2 => ?_, fun z => absurd z (by decide)⟩) (fun p2 => ⟨fun z => absurd rfl z, fun _ => ?_⟩)⟩) (fun p => ⟨fun _ => ?_, fun z => absurd rfl z⟩)
  · rw [if_pos ⟨p, p2⟩] at q
    obtain ⟨p3, p4⟩ := p
    obtain ⟨p5, p6⟩ := p2
    obtain ⟨a, ha, rfl⟩ := ix_ex (x := a) (n := 101) (by omega) (by omega)
    obtain ⟨b, hb, rfl⟩ := ix_ex (x := b) (n := 101) (by omega) (by omega)
    obtain ⟨oa, hoa, rfl⟩ := ix_ex (x := oa) (n := 101) (by omega) (by omega)
    obtain ⟨ob, hob, rfl⟩ := ix_ex (x := ob) (n := 101) (by omega) (by omega)
    simp only [ix_nI (show a < 2147483648 by omega), ix_nI (show b < 2147483648 by omega), ix_nI (show oa < 2147483648 by omega), ix_nI (show ob < 2147483648 by omega)] at q
    have e1 : y = iI ((ob : Int) - a) := by rw [hy, nI_iI, nI_iI, iI_sub]
    have e2 : y2 = iI ((b : Int) - oa) := by rw [hy2, nI_iI, nI_iI, iI_sub]
    have c1 : iI ((ob : Int) - a) ≤ iI ((b : Int) - oa) ↔ (ob : Int) - a ≤ (b : Int) - oa := iI_le (by omega) (by omega)
    have fin : ∀ x : Int, -1000 ≤ x ∧ x ≤ 1000 → x = max ((ob : Int) - a) ((b : Int) - oa) → jn_X13_streets_49 Q (iI x) M1 := by
      intro x hx ex
      have c2 : iI x ≤ (0 : Int32) ↔ x ≤ 0 := iI_le (b := 0) (by omega) (by omega)
      refine ⟨fun z => ?_, fun z => ?_⟩
      · rw [show max 0 (max ((ob : Int) - a) ((b : Int) - oa)) = 0 by have := c2.mp z; omega] at q; exact q
      · rw [show max 0 (max ((ob : Int) - a) ((b : Int) - oa)) = x by have := mt c2.mpr z; omega] at q; exact q
    rw [e1, e2]
    exact ⟨fun z => fin _ (by omega) (by have := c1.mp z; omega), fun z => fin _ (by omega) (by have := mt c1.mpr z; omega)⟩
  · rw [if_neg (fun z => p2 z.2)] at q; exact q
  · rw [if_neg (fun z => p z.1)] at q; exact q
theorem S_X13_fair {p : Int32} (h : AbsR M c) (hQ : ∀ M', Fg mdC8 M M' → AbsR M' c → Q (aFair c p) M') : wp_X13_fair 87 p M Q := by
  unfold aFair at hQ
  refine th0 h (fun M1 h1 f1 z1 => ?_)
  refine S_inX 1 (by omega) rfl (fun a => ⟨fun _ => ⟨h1.1.1, S_R_isReady h1.1 h1.2.1 (fun r => ⟨fun _ => ⟨h1.1.1, S_R_setMind h1.1 h1.2.1 h1.2.2.1 (fun M2 f2 m2 => ?_)⟩, fun z => absurd z (by decide)⟩) (fun r => ⟨fun z => absurd rfl z, fun _ => ?_⟩)⟩, fun z => absurd z (by decide)⟩) (fun a => ⟨fun z => absurd rfl z, fun _ => ?_⟩)
  · have h2 := h1.mi f2
    have q := hQ M2 (f1.t2 f2.mi8) h2
    rw [if_pos (by omega), if_pos r] at q
    have wl : ∀ i, i < sN (cS c) → cW c i ≤ 100000000000 := fun i hi => (h1.2.2.1.2.2 i hi).1
    refine ⟨fun z => ⟨h2.1.1, S_R_fairBid h2.1 h2.2.1 m2 wl ?_⟩, fun z => ⟨h2.1.1, S_R_fairAsk h2.1 h2.2.1 m2 wl ?_⟩⟩
    · rw [if_neg (mt (ix_eq (k := 0) (by omega)).mpr z)] at q; exact q
    · rw [if_pos ((ix_eq (k := 0) (by omega)).mp z)] at q; exact q
  · have q := hQ M1 f1 h1
    rw [if_pos (by omega), if_neg r] at q; exact q
  · have q := hQ M1 f1 h1
    rw [if_neg (by omega)] at q; exact q
theorem S_X13_apart (h : AbsR M c) (hQ : ∀ M', Fg mdC8 M M' → AbsR M' c → Q (aApart c) M') : wp_X13_apart 87 M Q := by
  unfold aApart at hQ
  refine th0 h (fun M1 h1 f1 z1 => ?_)
  refine S_R_isReady h1.1 h1.2.1 (fun r => ⟨fun _ => ⟨h1.1.1, S_R_setMind h1.1 h1.2.1 h1.2.2.1 (fun M2 f2 m2 => ?_)⟩, fun z => absurd z (by decide)⟩) (fun r => ⟨fun z => absurd rfl z, fun _ => ?_⟩)
  · have h2 := h1.mi f2
    have q := hQ M2 (f1.t2 f2.mi8) h2
    rw [if_pos r] at q
    have wl : ∀ i, i < sN (cS c) → cW c i ≤ 100000000000 := fun i hi => (h1.2.2.1.2.2 i hi).1
    have gA := fairA_rng (σ := cS c) (w := cW c)
    have gB := fairB_rng (σ := cS c) (w := cW c)
    have eA : iI (fairA (cS c) (cW c)) < (0 : Int32) ↔ fairA (cS c) (cW c) < 0 := iI_lt (b := 0) (by omega) (by omega)
    have eB : (0 : Int32) ≤ iI (fairB (cS c) (cW c)) ↔ 0 ≤ fairB (cS c) (cW c) := iI_le (a := 0) (by omega) (by omega)
    refine ⟨h2.1.1, S_R_fairAsk h2.1 h2.2.1 m2 wl ⟨h2.1.1, S_R_fairBid h2.1 h2.2.1 m2 wl ⟨fun z => ?_, fun z => ⟨fun y => ?_, fun y => ?_⟩⟩⟩⟩
    · rw [if_pos (Or.inl (by have := eA.mp z; omega))] at q; exact q
    · rw [if_neg (by have := mt eA.mpr z; have := eB.mp y; omega)] at q
      rw [iI_sub]; exact q
    · rw [if_pos (Or.inr (by have := mt eB.mpr y; omega))] at q; exact q
  · have q := hQ M1 f1 h1
    rw [if_neg r] at q; exact q
theorem S_X13_think {x p : Int32} (h : AbsR M c) (hk : cOK c) (hQ : ∀ M', Fg mdC8 M M' → AbsR M' c → QJ0 (aThink c x p) M') : wp_X13_think 87 x p M QJ0 := by
  unfold aThink at hQ
  refine th0 h (fun M1 h1 f1 z1 => ?_)
  have q := hQ M1 f1 h1
  have h6 := h1.2.1.1.1
  refine S_R_isWorth h1.1 h1.2.1 (fun a => ⟨fun z => absurd z (by decide), fun _ => S_inX 1 (by omega) rfl (fun b => ⟨fun _ => ⟨h1.1.1, S_R_isReady h1.1 h1.2.1 (fun r => ⟨fun _ => ?_, fun z => absurd z (by decide)⟩) (fun r => ⟨fun z => absurd rfl z, fun _ => ?_⟩)⟩, fun z => absurd z (by decide)⟩) (fun b => ⟨fun z => absurd rfl z, fun _ => ?_⟩)⟩) (fun a => ⟨fun _ => ?_, fun z => absurd rfl z⟩)
  · rw [if_pos ⟨a, by omega⟩, if_pos r] at q
    have hp := hk.1 (rdy_pos r)
    have wl : ∀ i, i < sN (cS c) → cW c i ≤ 100000000000 := fun i hi => (h1.2.2.1.2.2 i hi).1
    have ws := sumN_le' wl h6 (sN (cS c)) (Nat.le_refl _)
    refine for_up (fun m i => lp_X13_think_43 QJ0 m 87 x p (lN (sumN (cW c) i)) (nI i) M1) (sN (cS c)) (fun m => ?_) (fun m i hi ih => ?_)
    · unfold lp_X13_think_43
      refine ⟨h1.1.1, fun _ => ?_, fun hn => absurd (by rw [h1.2.1.2.1.1]; exact nI_le (Nat.le_refl _) (by omega)) hn⟩
      rw [h1.1.r10, h1.1.n10, ix_cl a (by omega), (h1.2.2.1.2.2 _ a).2]
      have wx := wl _ a
      have eW := (h1.2.2.1.2.2 _ a).2
      generalize sumN (cW c) (sN (cS c)) = S at *
      generalize cW c (ix x) = W at *
      refine ⟨h1.1.k10, ix_vp a h6 (by omega), S_R_divisor (by omega) (by omega) ?_⟩
      have gp : 0 < Nat.gcd W S := Nat.gcd_pos_of_pos_right _ hp
      have gl : Nat.gcd W S ≤ S := Nat.gcd_le_right _ hp
      have nz : ¬ lN (Nat.gcd W S) = (0 : Int64) := fun z => by
        have := (pk_lEQ (by omega) (b := 0) (by omega)).mp z
        omega
      refine ⟨fun z => ⟨nz, ?_⟩, fun z => ⟨h1.1.1, ?_⟩⟩
      · rw [if_neg (mt (ix_eq (k := 0) (by omega)).mpr z)] at q
        rw [pk_lDiv (by omega) gp (by omega)]; exact q
      · rw [if_pos ((ix_eq (k := 0) (by omega)).mp z)] at q
        rw [h1.1.r10, h1.1.n10, eW]
        refine ⟨h1.1.k10, ix_vp a h6 (by omega), nz, ?_⟩
        rw [pk_lDiv (by omega) gp (by omega)]; exact q
    · unfold lp_X13_think_43
      refine ⟨h1.1.1, fun hle => absurd (by rw [h1.2.1.2.1.1] at hle; exact hle) (nI_ge hi (by omega)), fun _ => ?_⟩
      rw [h1.1.r10, h1.1.n10, nI_clamp (by omega), (h1.2.2.1.2.2 _ hi).2]
      refine ⟨h1.1.k10, vp_in_nI (by omega) (by omega), fun y hy => ?_⟩
      rw [hy, lN_add, nI_1]
      exact ih
  · rw [if_pos ⟨a, by omega⟩, if_neg r] at q; exact q
  · rw [if_neg (fun z => b (by omega))] at q; exact q
  · rw [if_neg (fun z => a z.1)] at q; exact q
/-- what stands on a shelf, where a way is wanted, a row -/
theorem S_R_wrongWay {x : Int32} (h : AbsR M c) (hN : ¬ ix x < 8 → Q (-1) M) (h0 : ix x < 8 → (cG c (ix x)).1 = 0 → Q (-11) M) (h1 : ix x < 8 → (cG c (ix x)).1 = 1 → mI M 114 (ix x) = nI (cG c (ix x)).2.1 → (cG c (ix x)).2.1 ≤ 5 → mI M 115 (ix x) = nI (cG c (ix x)).2.2.1 → (cG c (ix x)).2.2.1 ≤ 49 → Q 0 M) (h2 : ix x < 8 → (cG c (ix x)).1 = 2 → Q (-12) M) : wp_X13_wrongWay 87 x M Q := by
  refine S_inX 7 (by omega) rfl (fun a => ⟨fun _ => ?_, fun z => absurd z (by decide)⟩) (fun a => ⟨fun z => absurd rfl z, fun _ => hN a⟩)
  rw [h.1.r49, h.1.n49, ix_cl a (by omega)]
  refine ⟨h.1.1, h.1.k49, ix_vp a (by omega) (by omega), ?_⟩
  rcases h.2.2.2.2.2 _ a with ⟨a1, a2⟩ | ⟨a1, a2, a3, a4, a5, a6⟩ | ⟨a1, a2, -⟩
  · rw [a2]; exact ⟨fun z => absurd rfl z, fun _ => h0 a a1⟩
  · rw [a2]; exact ⟨fun _ => ⟨ix_vp a (by omega) (by omega), fun _ => h1 a a1 a3 a4 a5 a6, fun z => absurd rfl z⟩, fun z => absurd z (by decide)⟩
  · rw [a2]; exact ⟨fun _ => ⟨ix_vp a (by omega) (by omega), fun z => absurd z (by decide), fun _ => h2 a a1⟩, fun z => absurd z (by decide)⟩
theorem S_R_wrongRow {x : Int32} (h : AbsR M c) (hN : ¬ ix x < 8 → Q (-1) M) (h0 : ix x < 8 → (cG c (ix x)).1 = 0 → Q (-11) M) (h1 : ix x < 8 → (cG c (ix x)).1 = 1 → Q (-12) M) (h2 : ix x < 8 → (cG c (ix x)).1 = 2 → (cG c (ix x)).2.1 ≤ 2 → mI M 116 (ix x) = nI (cG c (ix x)).2.1 → (cG c (ix x)).2.2.1 ≤ 100 → mI M 117 (ix x) = nI (cG c (ix x)).2.2.1 → (∀ i, i < (cG c (ix x)).2.2.1 → (-2147483648 ≤ (cG c (ix x)).2.2.2 i ∧ (cG c (ix x)).2.2.2 i < 2147483648 ∧ ((cG c (ix x)).2.1 = 0 → -128 ≤ (cG c (ix x)).2.2.2 i ∧ (cG c (ix x)).2.2.2 i < 128)) ∧ mJ M 118 (100 * ix x + i) = jI ((cG c (ix x)).2.2.2 i)) → Q 0 M) : wp_X13_wrongRow 87 x M Q := by
  refine S_inX 7 (by omega) rfl (fun a => ⟨fun _ => ?_, fun z => absurd z (by decide)⟩) (fun a => ⟨fun z => absurd rfl z, fun _ => hN a⟩)
  rw [h.1.r49, h.1.n49, ix_cl a (by omega)]
  refine ⟨h.1.1, h.1.k49, ix_vp a (by omega) (by omega), ?_⟩
  rcases h.2.2.2.2.2 _ a with ⟨a1, a2⟩ | ⟨a1, a2, -⟩ | ⟨a1, a2, a3, a4, a5, a6, a7⟩
  · rw [a2]; exact ⟨fun z => absurd rfl z, fun _ => h0 a a1⟩
  · rw [a2]; exact ⟨fun _ => ⟨ix_vp a (by omega) (by omega), fun z => absurd z (by decide), fun _ => h1 a a1⟩, fun z => absurd z (by decide)⟩
  · rw [a2]; exact ⟨fun _ => ⟨ix_vp a (by omega) (by omega), fun _ => h2 a a1 a3 a4 a5 a6 a7, fun z => absurd rfl z⟩, fun z => absurd z (by decide)⟩
theorem AbsR.ca {M' : Mem} (h : AbsR M c) (f : Fg caC M M') : AbsR M' c := h.fg f (fun a k q => by simp only [caC] at q; simp only [coC]; omega)
theorem S_X13_calls {d p : Int32} (h : AbsR M c) (hk : cOK c) (hQ : ∀ M', Fg mdC8 M M' → AbsR M' c → Q (aCalls c d p) M') : wp_X13_calls 87 d p M Q := by
  unfold aCalls wNR at hQ
  refine th0 h (fun M1 h1 f1 z1 => ?_)
  have q := hQ M1 f1 h1
  refine S_inX 1 (by omega) rfl (fun a => ⟨fun _ => ⟨h1.1.1, S_R_wrongWay h1 (fun g => ?_) (fun g g1 => ?_) (fun g g1 g2 g3 g4 g5 => ?_) (fun g g1 => ?_)⟩, fun z => absurd z (by decide)⟩) (fun a => ⟨fun z => absurd rfl z, fun _ => ?_⟩)
  · rw [if_pos (by omega), if_neg (fun z => g z.1), if_neg g] at q
    exact ⟨fun z => absurd z (by decide), fun _ => q⟩
  · rw [if_pos (by omega), if_neg (fun z => by have := z.2.1; omega), if_pos g, if_pos g1] at q
    exact ⟨fun z => absurd z (by decide), fun _ => q⟩
  · refine ⟨fun _ => ⟨h1.1.1, S_R_isReady h1.1 h1.2.1 (fun r => ⟨fun _ => ⟨h1.1.1, S_R_findChanceMean h1.1 h1.2.1 (fun M2 f2 e2 => ?_)⟩, fun z => absurd z (by decide)⟩) (fun r => ⟨fun z => absurd rfl z, fun _ => ?_⟩)⟩, fun z => absurd (by decide) z⟩
    · have h2 : AbsR M2 c := h1.fg f2 (fun a k q => by simp only [coC]; omega)
      refine ⟨h2.1.1, S_R_setMind h2.1 h2.2.1 h2.2.2.1 (fun M3 f3 m3 => ?_)⟩
      have h3 := h2.mi f3
      have e3 : mI M3 87 26 = nI (mbc (cS c)) := by rw [f3.I (by simp only [miC]; omega)]; exact e2
      rw [h3.1.r50, h3.1.n50, h3.1.r51, h3.1.n51, ix_cl g (by omega), h3.2.2.1.1]
      have w4 : mI M3 114 (ix d) = nI (cG c (ix d)).2.1 := by rw [f3.I (by simp only [miC]; omega), f2.I (by omega)]; exact g2
      have w5 : mI M3 115 (ix d) = nI (cG c (ix d)).2.2.1 := by rw [f3.I (by simp only [miC]; omega), f2.I (by omega)]; exact g4
      rw [w4, w5]
      refine ⟨h3.1.1, h3.1.k50, ix_vp g (by omega) (by omega), h3.1.k51, ix_vp g (by omega) (by omega), S_R_call h3.1 h3.2.1 m3 (fun i hi => (h3.2.2.1.2.2 i hi).1) (hk.1 (rdy_pos r)) e3 g3 g5 h3.2.2.1.2.1 (fun M4 f4 x4 x5 => ?_)⟩
      have h4 := h3.ca f4
      have q := hQ M4 (((f1.t2 (f2.m8 (fun a k q => by omega))).t2 f3.mi8).t2 (f4.m8 (fun a k q => by simp only [caC] at q; omega))) h4
      rw [if_pos (by omega), if_pos ⟨g, g1, r⟩] at q
      refine ⟨fun z => ⟨h4.1.1, ?_⟩, fun z => ⟨h4.1.1, ?_⟩⟩
      · rw [if_neg (mt (ix_eq (k := 0) (by omega)).mpr z)] at q; rw [x5]; exact q
      · rw [if_pos ((ix_eq (k := 0) (by omega)).mp z)] at q; rw [x4]; exact q
    · rw [if_pos (by omega), if_neg (fun z => r z.2.2), if_pos g, if_neg (by omega), if_pos g1] at q; exact q
  · rw [if_pos (by omega), if_neg (fun z => by have := z.2.1; omega), if_pos g, if_neg (by omega), if_neg (by omega)] at q
    exact ⟨fun z => absurd z (by decide), fun _ => q⟩
  · rw [if_neg (by omega)] at q
    exact ⟨fun z => absurd z (by decide), fun _ => q⟩
theorem S_R_spreadOf {x : Int32} {k f : Nat} (hm : MdOK M) (hx : ix x < 8) (h4 : mI M 114 (ix x) = nI k) (h5 : mI M 115 (ix x) = nI f) (hk : k ≤ 5) (hf : f ≤ 49) (hQ : Q (nI (widN k f)) M) : wp_X13_spreadOf 87 x M Q := by
  unfold wp_X13_spreadOf
  rw [hm.r50, hm.r51, hm.n50, hm.n51, ix_cl hx (by omega), h4, h5]
  have hin := ix_vp hx (N := 8) (by omega) (by omega)
  refine ⟨hm.1, hm.k51, hin, fun y hy => ?_⟩
  subst hy
  unfold widN at hQ
  have ke : ∀ j : Nat, j ≤ 5 → (nI k = nI j ↔ k = j) := fun j hj => nI_eq (by omega) (by omega)
  have e2 : (2 : Int32) * nI f = nI (2 * f) := pk_mul 2 f
  refine ⟨hm.k50, hin, fun z => ?_, fun z => ?_, fun z => ?_, fun z => ?_, fun z => ?_, fun z => ?_⟩
  · rw [nI_toInt (by omega)] at z
    rw [if_neg (by omega), if_neg (by omega), if_neg (by omega), if_neg (by omega), if_pos (by omega)] at hQ
    rw [e2, show (7 : Int32) = nI 7 from rfl, nI_add]; exact hQ
  · have z := (ke 0 (by omega)).mp z
    rw [if_neg (by omega), if_neg (by omega), if_neg (by omega), if_neg (by omega), if_neg (by omega)] at hQ
    exact hQ
  · have z := (ke 1 (by omega)).mp z
    rw [if_pos (by omega)] at hQ
    rw [e2]; exact hQ
  · have z := (ke 2 (by omega)).mp z
    rw [if_neg (by omega), if_pos (by omega)] at hQ
    rw [e2, nI_1]; exact hQ
  · have z := (ke 3 (by omega)).mp z
    rw [if_neg (by omega), if_neg (by omega), if_pos (by omega)] at hQ
    rw [show (100 : Int32) = nI 100 from rfl, pk_sub (by omega)]; exact hQ
  · have z := (ke 4 (by omega)).mp z
    rw [if_neg (by omega), if_neg (by omega), if_neg (by omega), if_pos (by omega)] at hQ
    rw [show (100 : Int32) = nI 100 from rfl, pk_sub (by omega), show (2 : Int32) = nI 2 from rfl, pk_div (by omega) (by omega) (by omega)]; exact hQ
theorem S_X13_spread {d : Int32} (h : AbsR M c) (hQ : ∀ M', Fg mdC8 M M' → AbsR M' c → Q (aSpread c d) M') : wp_X13_spread 87 d M Q := by
  unfold aSpread wNo at hQ
  refine th0 h (fun M1 h1 f1 z1 => ?_)
  have q := hQ M1 f1 h1
  have no : (¬ ix d < 8 → Q (-1) M1) ∧ (ix d < 8 → (cG c (ix d)).1 = 0 → Q (-11) M1) ∧ (ix d < 8 → (cG c (ix d)).1 = 2 → Q (-12) M1) := by
    refine ⟨fun g => ?_, fun g g1 => ?_, fun g g1 => ?_⟩
    · rw [if_neg (fun z => g z.1), if_neg g] at q; exact q
    · rw [if_neg (fun z => by have := z.2; omega), if_pos g, if_pos g1] at q; exact q
    · rw [if_neg (fun z => by have := z.2; omega), if_pos g, if_neg (by omega)] at q; exact q
  refine S_R_wrongWay h1 (fun g => ⟨fun z => absurd z (by decide), fun _ => ⟨h1.1.1, S_R_wrongWay h1 no.1 (fun g => absurd g ‹_›) (fun g => absurd g ‹_›) (fun g => absurd g ‹_›)⟩⟩) (fun g g1 => ⟨fun z => absurd z (by decide), fun _ => ⟨h1.1.1, S_R_wrongWay h1 no.1 no.2.1 (fun _ g2 => by omega) no.2.2⟩⟩) (fun g g1 g2 g3 g4 g5 => ⟨fun _ => ⟨h1.1.1, S_R_spreadOf h1.1 g g2 g4 g3 g5 ?_⟩, fun z => absurd (by decide) z⟩) (fun g g1 => ⟨fun z => absurd z (by decide), fun _ => ⟨h1.1.1, S_R_wrongWay h1 no.1 no.2.1 (fun _ g2 => by omega) no.2.2⟩⟩)
  rw [if_pos ⟨g, g1⟩] at q
  exact q
def aToss (c : CT) (d : Int32) : Int32 := if ix d < 8 ∧ (cG c (ix d)).1 = 1 then (if wk c d = 5 ∨ wf c d = 0 then -15 else if wk c d = 2 then nI (100 + wf c d) else if wk c d = 4 then nI (200 + (100 - wf c d) / 2) else nI (wf c d)) else wNo c d
theorem S_X13_toss {d : Int32} (h : AbsR M c) (hQ : ∀ M', Fg mdC8 M M' → AbsR M' c → Q (aToss c d) M') : wp_X13_toss 87 d M Q := by
  unfold aToss wNo at hQ
  refine th0 h (fun M1 h1 f1 z1 => ?_)
  have q := hQ M1 f1 h1
  have no : (¬ ix d < 8 → Q (-1) M1) ∧ (ix d < 8 → (cG c (ix d)).1 = 0 → Q (-11) M1) ∧ (ix d < 8 → (cG c (ix d)).1 = 2 → Q (-12) M1) := by
    refine ⟨fun g => ?_, fun g g1 => ?_, fun g g1 => ?_⟩
    · rw [if_neg (fun z => g z.1), if_neg g] at q; exact q
    · rw [if_neg (fun z => by have := z.2; omega), if_pos g, if_pos g1] at q; exact q
    · rw [if_neg (fun z => by have := z.2; omega), if_pos g, if_neg (by omega)] at q; exact q
  refine S_R_wrongWay h1 (fun g => ⟨fun z => absurd z (by decide), fun _ => ⟨h1.1.1, S_R_wrongWay h1 no.1 (fun g => absurd g ‹_›) (fun g => absurd g ‹_›) (fun g => absurd g ‹_›)⟩⟩) (fun g g1 => ⟨fun z => absurd z (by decide), fun _ => ⟨h1.1.1, S_R_wrongWay h1 no.1 no.2.1 (fun _ g2 => by omega) no.2.2⟩⟩) (fun g g1 g2 g3 g4 g5 => ⟨fun _ => ?_, fun z => absurd (by decide) z⟩) (fun g g1 => ⟨fun z => absurd z (by decide), fun _ => ⟨h1.1.1, S_R_wrongWay h1 no.1 no.2.1 (fun _ g2 => by omega) no.2.2⟩⟩)
  rw [if_pos ⟨g, g1⟩] at q
  unfold wk wf at q
  have hin := ix_vp g (N := 8) (by omega) (by omega)
  rw [h1.1.r50, h1.1.r51, h1.1.n50, h1.1.n51, ix_cl g (by omega), g2, g4]
  generalize hkk : (cG c (ix d)).2.1 = k at *
  generalize hff : (cG c (ix d)).2.2.1 = f at *
  have ke : ∀ j : Nat, j ≤ 5 → (nI k = nI j ↔ k = j) := fun j hj => nI_eq (by omega) (by omega)
  refine ⟨h1.1.1, h1.1.k51, hin, fun y hy => ?_⟩
  subst hy
  have f0 : nI f = (0 : Int32) ↔ f = 0 := nI_eq (b := 0) (by omega) (by omega)
  refine ⟨h1.1.k50, hin, fun z => ?_, fun z => ⟨fun y => ⟨hin, fun x => ⟨hin, fun v => ?_, fun v => S_R_spreadOf h1.1 g g2 g4 g3 g5 ?_⟩, fun x => ?_⟩, fun y => ?_⟩⟩
  · rw [if_pos (Or.inl ((ke 5 (by omega)).mp z))] at q; exact q
  · have z := mt (ke 5 (by omega)).mpr z
    have y := mt f0.mpr y
    have x := mt (ke 2 (by omega)).mpr x
    have v := mt (ke 4 (by omega)).mpr v
    rw [if_neg (by omega), if_neg x, if_neg v] at q; exact q
  · have z := mt (ke 5 (by omega)).mpr z
    have y := mt f0.mpr y
    have x := mt (ke 2 (by omega)).mpr x
    have v := (ke 4 (by omega)).mp v
    rw [if_neg (by omega), if_neg x, if_pos v] at q
    have e : widN k f = (100 - f) / 2 := by unfold widN; rw [if_neg (by omega), if_neg (by omega), if_neg (by omega), if_pos v]
    rw [e, show (200 : Int32) = nI 200 from rfl, nI_add]; exact q
  · have z := mt (ke 5 (by omega)).mpr z
    have y := mt f0.mpr y
    have x := (ke 2 (by omega)).mp x
    rw [if_neg (by omega), if_pos x] at q
    rw [show (100 : Int32) = nI 100 from rfl, nI_add]; exact q
  · rw [if_pos (Or.inr (f0.mp y))] at q; exact q
end REF
