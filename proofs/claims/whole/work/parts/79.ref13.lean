/-! THE REFERENCE: the best of ways, rows copied -/
theorem jI_S {x : Int} {M : Mem} {Q : Int32 → Mem → Prop} {hi : Int64} (k : Nat) (hx : -2147483648 ≤ x ∧ x < 2147483648) (hk : k < 2147483648) (e : hi = lN k) (h1 : 0 ≤ x ∧ x < (k : Int) + 1 → Q 1 M) (h0 : ¬ (0 ≤ x ∧ x < (k : Int) + 1) → Q 0 M) : wp_X13_in (jI x) 0 hi M Q := by
  have a1 : (jI x).toInt = x := jI_toInt (by omega) (by omega)
  have a2 : hi.toInt = (k : Int) := by rw [e]; exact lN_toInt hk
  have a3 : (0 : Int64).toInt = 0 := rfl
  refine S_in (fun q => h1 ?_) (fun q => h0 (fun z => q ?_))
  · rw [a1, a2, a3] at q; omega
  · rw [a1, a2, a3]; omega
section REF
variable {M : Mem} {σ : StT} {c : CT} {w p : Nat → Nat} {hh g : Int} {Q : Int32 → Mem → Prop} {QJ0 : Int64 → Mem → Prop} {QV0 : Mem → Prop}
/-- of a row in the reference: what lies where -/
def RwAt (M : Mem) (d L : Nat) (e : Nat → Int) : Prop := L ≤ 100 ∧ mI M 117 d = nI L ∧ ∀ i, i < L → (-2147483648 ≤ e i ∧ e i < 2147483648) ∧ mJ M 118 (100 * d + i) = jI (e i)
theorem RwAt.fg {P : Nat → Nat → Prop} {M M' : Mem} {d L : Nat} {e : Nat → Int} (h : RwAt M d L e) (f : Fg P M M') (hP : ∀ a k, P a k → ¬ (117 ≤ a ∧ a ≤ 118)) : RwAt M' d L e := by
  refine ⟨h.1, ?_, fun i hi => ⟨(h.2.2 i hi).1, ?_⟩⟩
  · rw [f.I (fun q => hP 117 d q (by omega))]; exact h.2.1
  · rw [f.J (fun q => hP 118 _ q (by omega))]; exact (h.2.2 i hi).2
theorem bw_go {L f dd : Nat} {e : Nat → Int} (h : AbsR M c) (hdd : dd < 8) (hL : 1 ≤ L) (hr : RwAt M dd L e) (he : ∀ i, i < L → 0 ≤ e i ∧ e i < 6) (hf : f ≤ 49) (hrd : 0 < sumN (sCh (cS c)) (sN (cS c)))
    (hQ : ∀ M', Fg gaC M M' → Q (nI (bst (fun i => jI (meanX (cS c) (e i).toNat f)) L)) M') : ∃ n, lp_X13_bestWay_150 Q n 87 (nI dd) (nI f) (-1) 0 0 M := by
  have hin : vp_in (nI dd) 8 := vp_in_nI hdd (by omega)
  have hl := hr.1
  refine for_up (fun m i => ∀ M', Fg gaC M M' → lp_X13_bestWay_150 Q m 87 (nI dd) (nI f) (if i = 0 then -1 else nI (bst (fun i => jI (meanX (cS c) (e i).toNat f)) i)) (if i = 0 then 0 else jI (meanX (cS c) (e (bst (fun i => jI (meanX (cS c) (e i).toNat f)) i)).toNat f)) (nI i) M') L (fun m M' fr => ?_) (fun m i hi ih M' fr => ?_) |> fun ⟨m, hx⟩ => ⟨m, hx M Fg.rf⟩
  · have h4 := h.ga fr
    have r4 := hr.fg fr (fun a k q => by simp only [gaC] at q; omega)
    unfold lp_X13_bestWay_150
    rw [h4.1.r53, h4.1.n53, nI_clamp (by omega), r4.2.1, if_neg (by omega)]
    exact ⟨h4.1.1, h4.1.k53, hin, fun _ => hQ M' fr, fun z => absurd (nI_le (Nat.le_refl _) (by omega)) z⟩
  · have h4 := h.ga fr
    have r4 := hr.fg fr (fun a k q => by simp only [gaC] at q; omega)
    obtain ⟨e1, e2⟩ := he i hi
    unfold lp_X13_bestWay_150
    rw [h4.1.r53, h4.1.n53, h4.1.r54, h4.1.n54, at118 hdd (by omega), nI_clamp (by omega), nI_clamp (by omega), r4.2.1, (r4.2.2 i hi).2, jI_iI, show iI (e i) = nI (e i).toNat by rw [nI_iI]; congr 1; omega]
    refine ⟨h4.1.1, h4.1.k53, hin, fun z => absurd z (nI_ge hi (by omega)), fun _ => ⟨h4.1.k54, vp_in_nI (by omega) (by omega), S_R_goAll h4.1 h4.2.1 hrd (by omega) hf (fun M5 f5 xA xB => ?_)⟩⟩
    have h5 := h4.ga f5
    have fr5 := fr.t2 f5
    have ih := ih M5 fr5
    rw [if_neg (by omega), if_neg (by omega)] at ih
    have bs : bst (fun i => jI (meanX (cS c) (e i).toNat f)) (i + 1) = if i = 0 then 0 else if jI (meanX (cS c) (e i).toNat f) ≤ jI (meanX (cS c) (e (bst (fun i => jI (meanX (cS c) (e i).toNat f)) i)).toNat f) then bst (fun i => jI (meanX (cS c) (e i).toNat f)) i else i := rfl
    rw [bs] at ih
    have bl : 0 < i → bst (fun i => jI (meanX (cS c) (e i).toNat f)) i < i := bst_lt i
    generalize bst (fun i => jI (meanX (cS c) (e i).toNat f)) i = B at *
    by_cases i0 : i = 0
    · subst i0
      rw [if_pos rfl, if_pos rfl]
      rw [if_pos rfl, ← nI_1] at ih
      refine ⟨fun _ => ⟨h5.1.1, fun y hy => ?_⟩, fun z => absurd (by decide) z⟩
      rw [hy, xA]
      exact ih
    · rw [if_neg i0, if_neg i0]
      rw [if_neg i0, ← nI_1] at ih
      refine ⟨fun z => absurd z (nI_pos (by have := bl (by omega); omega)), fun _ => ⟨h5.1.1, ?_⟩⟩
      rw [xA]
      refine ⟨fun z => ?_, fun z => ⟨h5.1.1, fun y hy => ?_⟩⟩
      · rw [if_pos z] at ih; exact ih
      · rw [if_neg z] at ih
        rw [hy, xA]; exact ih
theorem S_X13_bestWay {d f : Int32} (h : AbsR M c) (hQ : ∀ M', Fg mdC8 M M' → AbsR M' c → Q (aBestWay c d f) M') : wp_X13_bestWay 87 d f M Q := by
  unfold aBestWay wNo at hQ
  refine th0 h (fun M1 h1 f1 z1 => ?_)
  have q := hQ M1 f1 h1
  have no : ix f < 50 → (¬ ix d < 8 → Q (-1) M1) ∧ (ix d < 8 → (cG c (ix d)).1 = 0 → Q (-11) M1) ∧ (ix d < 8 → (cG c (ix d)).1 = 1 → Q (-12) M1) := by
    intro p2
    refine ⟨fun g => ?_, fun g g1 => ?_, fun g g1 => ?_⟩
    · rw [if_pos p2, if_neg (fun z => g z.1), if_neg g] at q; exact q
    · rw [if_pos p2, if_neg (fun z => by have := z.2.1; omega), if_pos g, if_pos g1] at q; exact q
    · rw [if_pos p2, if_neg (fun z => by have := z.2.1; omega), if_pos g, if_neg (by omega)] at q; exact q
  refine S_inX 7 (by omega) rfl (fun p1 => ⟨fun z => absurd z (by decide), fun _ => S_inX 49 (by omega) rfl (fun p2 => ⟨fun _ => ⟨h1.1.1, S_R_wrongRow h1 (fun g => absurd p1 g) (fun g g1 => ⟨fun z => absurd z (by decide), fun _ => ⟨h1.1.1, S_R_wrongRow h1 (fun g => absurd p1 g) (no (by omega)).2.1 (fun _ g2 => by omega) (fun _ g2 => by omega)⟩⟩) (fun g g1 => ⟨fun z => absurd z (by decide), fun _ => ⟨h1.1.1, S_R_wrongRow h1 (fun g => absurd p1 g) (fun _ g2 => by omega) (no (by omega)).2.2 (fun _ g2 => by omega)⟩⟩) (fun g g1 g2 g3 g4 g5 g6 => ⟨fun _ => ?_, fun z => absurd (by decide) z⟩)⟩, fun z => absurd z (by decide)⟩) (fun p2 => ⟨fun z => absurd rfl z, fun _ => ?_⟩)⟩) (fun p1 => ⟨fun _ => ?_, fun z => absurd rfl z⟩)
  · have hin := ix_vp g (N := 8) (by omega) (by omega)
    rw [h1.1.r52, h1.1.n52, h1.1.r53, h1.1.n53, ix_cl g (by omega), g3, g5]
    have e0 : nI (cG c (ix d)).2.1 = (0 : Int32) ↔ (cG c (ix d)).2.1 = 0 := nI_eq (b := 0) (by omega) (by omega)
    refine ⟨h1.1.1, h1.1.k52, hin, fun z => ⟨h1.1.k53, hin, ?_⟩, fun z => ?_⟩
    · have z := e0.mp z
      have br : bR c d := ⟨g, g1, z⟩
      simp only [if_pos (show ix f < 50 by omega), if_pos br] at hQ
      have bi : bwC c d ↔ (1 ≤ (cG c (ix d)).2.2.1 ∧ (cG c (ix d)).2.2.1 ≤ 6) ∧ ∀ i, i < (cG c (ix d)).2.2.1 → 0 ≤ (cG c (ix d)).2.2.2 i ∧ (cG c (ix d)).2.2.2 i < 6 := ⟨fun q => ⟨⟨q.1, q.2.1⟩, q.2.2⟩, fun q => ⟨q.1.1, q.1.2, q.2⟩⟩
      have rw1 : RwAt M1 (ix d) (cG c (ix d)).2.2.1 (cG c (ix d)).2.2.2 := ⟨g4, g5, fun i hi => ⟨⟨(g6 i hi).1.1, (g6 i hi).1.2.1⟩, (g6 i hi).2⟩⟩
      have hA : bwC c d → rdy c → ∀ M', Fg mdC8 M M' → AbsR M' c → Q (nI (bst (fun i => jI (meanX (cS c) ((cG c (ix d)).2.2.2 i).toNat (ix f))) (cG c (ix d)).2.2.1)) M' := fun b r M' fr ha => by
        have q := hQ M' fr ha
        rw [if_pos b, if_pos r] at q; exact q
      have hB : bwC c d → ¬ rdy c → ∀ M', Fg mdC8 M M' → AbsR M' c → Q (-3) M' := fun b r M' fr ha => by
        have q := hQ M' fr ha
        rw [if_pos b, if_neg r] at q; exact q
      have hC : ¬ bwC c d → Q (-13) M1 := fun b => by
        have q := hQ M1 f1 h1
        rw [if_neg b] at q; exact q
      clear hQ q no
      generalize bwC c d = BW at *
      obtain ⟨dd, hdd, rfl⟩ := ix_ex g (by omega)
      obtain ⟨ff, hff, rfl⟩ := ix_ex p2 (by omega)
      rw [ix_nI (by omega)] at g2 g3 g4 g5 rw1 bi hA ⊢
      rw [ix_nI (by omega)] at hA
      generalize (cG c dd).2.2.1 = L at *
      generalize (cG c dd).2.2.2 = e at *
      have rng : ∀ x : Bool, (x = true ↔ (1 ≤ L ∧ L ≤ 6)) → ∃ n, lp_X13_bestWay_75 Q n 87 (nI dd) (nI ff) (bI x) 0 M1 := by
        intro x hx
        refine for_up (fun m i => ∀ y : Bool, (y = true ↔ ((1 ≤ L ∧ L ≤ 6) ∧ ∀ j, j < i → 0 ≤ e j ∧ e j < 6)) → lp_X13_bestWay_75 Q m 87 (nI dd) (nI ff) (bI y) (nI i) M1) L (fun m y hy => ?_) (fun m i hi ih y hy => ?_) |> fun ⟨m, h⟩ => ⟨m, h x ⟨fun q => ⟨hx.mp q, fun j hj => absurd hj (by omega)⟩, fun q => hx.mpr q.1⟩⟩
        · unfold lp_X13_bestWay_75
          rw [h1.1.r53, h1.1.n53, nI_clamp (by omega), g5]
          refine ⟨h1.1.1, h1.1.k53, vp_in_nI hdd (by omega), fun _ => ⟨fun z => ?_, fun z => ?_⟩, fun z => absurd (nI_le (Nat.le_refl _) (by omega)) z⟩
          · have yy : y = true := by cases y; (exact absurd rfl z); rfl
            have hc := hy.mp yy
            refine S_R_isReady h1.1 h1.2.1 (fun r => ⟨fun _ => ?_, fun z => absurd z (by decide)⟩) (fun r => ⟨fun z => absurd rfl z, fun _ => ?_⟩)
            · exact bw_go h1 hdd hc.1.1 rw1 hc.2 (by omega) (by omega) (fun M2 f2 => hA (bi.mpr hc) r M2 (f1.t2 (f2.m8 (fun a k q => ga8 q))) (h1.ga f2))
            · exact hB (bi.mpr hc) r M1 f1 h1
          · have hc := mt hy.mpr (bI_0.mp z)
            exact hC (mt bi.mp hc)
        · unfold lp_X13_bestWay_75
          rw [h1.1.r53, h1.1.n53, h1.1.r54, h1.1.n54, at118 hdd (by omega), nI_clamp (by omega), nI_clamp (by omega), g5, (rw1.2.2 i hi).2]
          refine ⟨h1.1.1, h1.1.k53, vp_in_nI hdd (by omega), fun z => absurd z (nI_ge hi (by omega)), fun _ => ⟨fun z => ?_, fun z => ⟨h1.1.k54, vp_in_nI (by omega) (by omega), jI_S 5 (rw1.2.2 i hi).1 (by omega) rfl (fun r => ⟨fun z => absurd z (by decide), fun _ => ?_⟩) (fun r => ⟨fun _ => ?_, fun z => absurd rfl z⟩)⟩⟩⟩
          · have hc := mt hy.mpr (bI_0.mp z)
            have q := ih false ⟨fun z => (by cases z), fun z => absurd ⟨z.1, fun j hj => z.2 j (by omega)⟩ hc⟩
            rw [← nI_1] at q
            exact q
          · have yy : y = true := by cases y; (exact absurd rfl z); rfl
            have hc := hy.mp yy
            have q := ih true ⟨fun _ => ⟨hc.1, fun j hj => by
              by_cases ej : j = i
              · rw [ej]; exact ⟨r.1, by omega⟩
              · exact hc.2 j (by omega)⟩, fun _ => rfl⟩
            rw [← nI_1] at q
            exact q
          · have q := ih false ⟨fun z => (by cases z), fun z => absurd (z.2 i (by omega)) (by omega)⟩
            rw [← nI_1] at q
            exact q
      refine S_inY 1 6 (by omega) (by omega) rfl rfl (fun q => rng true ⟨fun _ => ?_, fun _ => rfl⟩) (fun q => rng false ⟨fun z => (by cases z), fun z => absurd ?_ q⟩)
      · rw [ix_nI (by omega)] at q; exact q
      · rw [ix_nI (by omega)]; exact z
    · have z := mt e0.mpr z
      rw [if_pos (by omega), if_neg (fun y => z y.2.2), if_pos g, if_neg (by omega)] at q; exact q
  · rw [if_neg (by omega)] at q; exact q
  · by_cases p2 : ix f < 50
    · exact (no p2).1 (by omega)
    · rw [if_neg p2] at q; exact q
theorem S_X13_copy {d i e j n : Int32} (h : AbsR M c) (hQ : ∀ M', Fg mdC8 M M' → AbsR M' (nCopy c d i e j n) → Q (aCopy c d i e j n) M') : wp_X13_copy 87 d i e j n M Q := by
  unfold nCopy aCopy at hQ
  refine th0 h (fun M1 h1 f1 z1 => ?_)
  have q := hQ M1 f1
  refine S_inX 7 (by omega) rfl (fun p1 => ⟨fun z => absurd z (by decide), fun _ => S_inX 7 (by omega) rfl (fun p2 => ⟨fun _ => ?_, fun z => absurd z (by decide)⟩) (fun p2 => ⟨fun z => absurd rfl z, fun _ => ?_⟩)⟩) (fun p1 => ⟨fun _ => ?_, fun z => absurd rfl z⟩)
  · have hd := ix_vp p1 (N := 8) (by omega) (by omega)
    have he := ix_vp p2 (N := 8) (by omega) (by omega)
    have gd := h1.2.2.2.2.2 (ix d) (by omega)
    have ge := h1.2.2.2.2.2 (ix e) (by omega)
    have kd : ∃ x : Nat, mI M1 113 (ix d) = nI x ∧ x ≤ 2 ∧ x = (cG c (ix d)).1 := by
      rcases gd with ⟨a1, a2⟩ | ⟨a1, a2, -⟩ | ⟨a1, a2, -⟩
      · exact ⟨0, a2, by omega, a1.symm⟩
      · exact ⟨1, a2, by omega, a1.symm⟩
      · exact ⟨2, a2, by omega, a1.symm⟩
    have ke : ∃ x : Nat, mI M1 113 (ix e) = nI x ∧ x ≤ 2 ∧ x = (cG c (ix e)).1 := by
      rcases ge with ⟨a1, a2⟩ | ⟨a1, a2, -⟩ | ⟨a1, a2, -⟩
      · exact ⟨0, a2, by omega, a1.symm⟩
      · exact ⟨1, a2, by omega, a1.symm⟩
      · exact ⟨2, a2, by omega, a1.symm⟩
    obtain ⟨xd, d1, d2, d3⟩ := kd
    obtain ⟨xe, e1, e2, e3⟩ := ke
    have pp : ix d < 8 ∧ ix e < 8 := ⟨by omega, by omega⟩
    rw [h1.1.r49, h1.1.n49, h1.1.r52, h1.1.n52, h1.1.r53, h1.1.n53, ix_cl p1 (by omega), ix_cl p2 (by omega), d1, e1]
    have xd0 : nI xd = (0 : Int32) ↔ xd = 0 := nI_eq (b := 0) (by omega) (by omega)
    have xe0 : nI xe = (0 : Int32) ↔ xe = 0 := nI_eq (b := 0) (by omega) (by omega)
    have xd2 : nI xd = (2 : Int32) ↔ xd = 2 := nI_eq (b := 2) (by omega) (by omega)
    have xe2 : nI xe = (2 : Int32) ↔ xe = 2 := nI_eq (b := 2) (by omega) (by omega)
    have n11 : (xd = 0 ∨ xe = 0) → Q (-11) M1 := fun o => by
      rw [if_neg (fun z => by have := z.1.2; have := z.2.1.2; omega), if_pos pp, if_pos (by omega)] at q; exact q h1
    have n12 : ¬ (xd = 0 ∨ xe = 0) → ¬ (xd = 2 ∧ xe = 2 ∧ (cG c (ix d)).2.1 = (cG c (ix e)).2.1) → Q (-12) M1 := fun o o2 => by
      rw [if_neg (fun z => o2 ⟨by have := z.1.2; omega, by have := z.2.1.2; omega, z.2.2.1⟩), if_pos pp, if_neg (by omega), if_neg (fun z => o2 ⟨by have := z.1.2; omega, by have := z.2.1.2; omega, z.2.2⟩)] at q; exact q h1
    refine ⟨h1.1.1, h1.1.k49, hd, fun z => n11 (Or.inl (xd0.mp z)), fun z => ⟨he, fun y => ⟨hd, fun x => n12 (fun o => ?_) (fun o => x (xd2.mpr o.1)), fun x => ⟨he, fun v => n12 (fun o => ?_) (fun o => v (xe2.mpr o.2.1)), fun v => ⟨h1.1.k52, hd, he, fun u => ?_, fun u => n12 (fun o => ?_) (fun o => u ?_)⟩⟩⟩, fun y => n11 (Or.inr (xe0.mp y))⟩⟩
    · rcases o with o | o
      · exact z (xd0.mpr o)
      · exact y (xe0.mpr o)
    · rcases o with o | o
      · exact z (xd0.mpr o)
      · exact y (xe0.mpr o)
    · have x := xd2.mp x
      have v := xe2.mp v
      rcases gd with ⟨a1, -⟩ | ⟨a1, -⟩ | ⟨a1, a2, a3, a4, a5, a6, a7⟩
      · omega
      · omega
      rcases ge with ⟨b1, -⟩ | ⟨b1, -⟩ | ⟨b1, b2, b3, b4, b5, b6, b7⟩
      · omega
      · omega
      rw [a4, b4] at u
      have u := (nI_eq (by omega) (by omega)).mp u
      have rr : rwR c d ∧ rwR c e ∧ (cG c (ix d)).2.1 = (cG c (ix e)).2.1 := ⟨⟨pp.1, a1⟩, ⟨pp.2, b1⟩, u⟩
      have n0 : ¬ ((cG c (ix d)).1 = 0 ∨ (cG c (ix e)).1 = 0) := by omega
      rw [if_pos pp, if_neg n0, if_pos rr] at hQ
      have n13 : ¬ cpC c d i e j n → Q (-13) M1 := fun o => by
        have q := hQ M1 f1
        rw [if_neg (fun z => o z.2.2.2), if_neg o] at q; exact q h1
      have cc : ∀ z : Int32, z < 0 → ¬ ix z < 2147483648 := fun z hz => by unfold ix; rw [if_pos hz]; omega
      rw [a6, b6]
      refine ⟨fun t => n13 (fun o => cc n t o.2.2.1), fun t => ⟨fun t2 => n13 (fun o => cc i t2 o.1), fun t2 => ⟨fun t3 => n13 (fun o => cc j t3 o.2.1), fun t3 => ⟨h1.1.k53, hd, fun t4 => n13 (fun o => ?_), fun t4 => ⟨he, fun t5 => ?_, fun t5 => n13 (fun o => ?_)⟩⟩⟩⟩⟩
      · obtain ⟨nn, hn, rfl⟩ := nI_of t
        obtain ⟨ii, hi, rfl⟩ := nI_of t2
        have o4 := o.2.2.2.1
        rw [ix_nI hi, ix_nI hn] at o4
        unfold rL at o4
        rw [pk_sub (by omega)] at t4
        have := (nI_lt31 (by omega) (by omega)).mp t4
        omega
      · obtain ⟨nn, hn, rfl⟩ := nI_of t
        obtain ⟨ii, hi, rfl⟩ := nI_of t2
        obtain ⟨jj, hj, rfl⟩ := nI_of t3
        have t4 : (ii : Int) ≤ ((cG c (ix d)).2.2.1 : Int) - nn := by
          have t4 := t4
          rw [nI_iI, nI_iI, nI_iI, iI_sub, iI_lt (by omega) (by omega)] at t4
          omega
        have t5 : (jj : Int) ≤ ((cG c (ix e)).2.2.1 : Int) - nn := by
          have t5 := t5
          rw [nI_iI, nI_iI, nI_iI, iI_sub, iI_le (by omega) (by omega)] at t5
          omega
        have oc : cpC c d (nI ii) e (nI jj) (nI nn) := by
          unfold cpC rL
          rw [ix_nI hi, ix_nI hj, ix_nI hn]
          omega
        rw [if_pos ⟨rr.1, rr.2.1, rr.2.2, oc⟩, if_pos oc, ix_nI hi, ix_nI hj, ix_nI hn] at hQ
        obtain ⟨dd, hdd, rfl⟩ := ix_ex p1 (by omega)
        obtain ⟨ee, hee, rfl⟩ := ix_ex p2 (by omega)
        rw [ix_nI (by omega)] at a1 a2 a3 a4 a5 a6 a7 t4
        rw [ix_nI (by omega)] at b1 b2 b3 b4 b5 b6 b7 t5
        simp only [ix_nI (show dd < 2147483648 by omega), ix_nI (show ee < 2147483648 by omega)] at hQ u
        -- out into the row between
        refine for_up (fun m k => ∀ M', Fg (fun a _k => a = 119) M1 M' → (∀ x, x < k → mJ M' 119 x = jI ((cG c dd).2.2.2 (ii + x))) → lp_X13_copy_137 Q m 87 (nI dd) (nI ii) (nI ee) (nI jj) (nI nn) (nI k) M') nn (fun m M' f hz => ?_) (fun m k hk ih M' f hz => ?_) |> fun ⟨m, hx⟩ => ⟨m, hx M1 Fg.rf (fun x hx => absurd hx (by omega))⟩
        · unfold lp_X13_copy_137
          refine ⟨fun _ => ?_, fun z => absurd (nI_le (Nat.le_refl _) (by omega)) z⟩
          -- and in
          refine for_up (fun m k => ∀ M2, Fg (fun a x => a = 118 ∧ 100 * ee + jj ≤ x ∧ x < 100 * ee + jj + nn) M' M2 → (∀ x, x < k → mJ M2 118 (100 * ee + jj + x) = jI ((cG c dd).2.2.2 (ii + x))) → lp_X13_copy_174 Q m 87 (nI ee) (nI jj) (nI nn) (nI k) M2) nn (fun m M2 f2 hz2 => ?_) (fun m k hk ih M2 f2 hz2 => ?_) |> fun ⟨m, hx⟩ => ⟨m, hx M' Fg.rf (fun x hx => absurd hx (by omega))⟩
          · unfold lp_X13_copy_174
            refine ⟨fun _ => ?_, fun z => absurd (nI_le (Nat.le_refl _) (by omega)) z⟩
            have hM' : AbsR M' c := h1.fg f (fun a k q => by simp only [coC]; omega)
            have f2s : Fg (shC ee) M' M2 := f2.mono (fun a k q => Or.inr (by omega))
            refine hQ M2 ((f1.t2 (f.m8 (fun a k q => by omega))).t2 (f2.m8 (fun a k q => by omega))) (hM'.shelf f2s (Or.inr (Or.inr ⟨b1, ?_, b3, ?_, b5, ?_, fun x hx => ?_⟩)))
            · rw [f2.I (by omega), f.I (by omega)]; exact b2
            · rw [f2.I (by omega), f.I (by omega)]; exact b4
            · rw [f2.I (by omega), f.I (by omega)]; exact b6
            · unfold cpyG
              change x < (cG c ee).2.2.1 at hx
              by_cases cx : jj ≤ x ∧ x < jj + nn
              · simp only [if_pos cx]
                have a9 := (a7 (ii + (x - jj)) (by omega)).1
                refine ⟨⟨a9.1, a9.2.1, fun z => a9.2.2 (by omega)⟩, ?_⟩
                have := hz2 (x - jj) (by omega)
                rw [show 100 * ee + x = 100 * ee + jj + (x - jj) by omega]
                exact this
              · simp only [if_neg cx]
                refine ⟨(b7 x hx).1, ?_⟩
                rw [f2.J (by omega), f.J (by omega)]
                exact (b7 x hx).2
          · have hM' : AbsR M' c := h1.fg f (fun a k q => by simp only [coC]; omega)
            have m2 := hM'.1.fg f2
            unfold lp_X13_copy_174
            refine ⟨fun z => absurd z (nI_ge hk (by omega)), fun _ => ?_⟩
            have ea : (100 : Int32) * nI ee + nI jj + nI k = nI (100 * ee + jj + k) := by rw [at118 hee (by omega), nI_add]
            rw [m2.r55, m2.n55, m2.r54, m2.n54, ea, nI_clamp (by omega), nI_clamp (by omega), f2.J (by omega), hz k hk]
            refine ⟨m2.1, m2.k55, vp_in_nI (by omega) (by omega), m2.k54, vp_in_nI (by omega) (by omega), fun M3 em => ?_⟩
            rw [nI_1]
            refine ih M3 (by rw [em]; exact f2.sJ ⟨rfl, by omega, by omega⟩) (fun x hx => ?_)
            rw [em, mJ_uJ, if_pos rfl]
            by_cases ex : x = k
            · rw [if_pos (by omega), ex]
            · rw [if_neg (by omega)]; exact hz2 x (by omega)
        · have m2 := h1.1.fg f
          unfold lp_X13_copy_137
          refine ⟨fun z => absurd z (nI_ge hk (by omega)), fun _ => ?_⟩
          have ea : (100 : Int32) * nI dd + nI ii + nI k = nI (100 * dd + (ii + k)) := by rw [at118 hdd (by omega), nI_add, Nat.add_assoc]
          rw [m2.r54, m2.n54, m2.r55, m2.n55, ea, nI_clamp (by omega), nI_clamp (by omega), f.J (by omega), (a7 (ii + k) (by omega)).2]
          refine ⟨m2.1, m2.k54, vp_in_nI (by omega) (by omega), m2.k55, vp_in_nI (by omega) (by omega), fun M3 em => ?_⟩
          rw [nI_1]
          refine ih M3 (by rw [em]; exact f.sJ rfl) (fun x hx => ?_)
          rw [em, mJ_uJ, if_pos rfl]
          by_cases ex : x = k
          · rw [if_pos ex, ex]
          · rw [if_neg ex]; exact hz x (by omega)
      · obtain ⟨nn, hn, rfl⟩ := nI_of t
        obtain ⟨jj, hj, rfl⟩ := nI_of t3
        have o4 := o.2.2.2.2
        rw [ix_nI hj, ix_nI hn] at o4
        unfold rL at o4
        rw [pk_sub (by omega)] at t5
        have := mt (nI_le31 (by omega) (by omega)).mpr t5
        omega
    · rcases o with o | o
      · exact z (xd0.mpr o)
      · exact y (xe0.mpr o)
    · rcases gd with ⟨a1, -⟩ | ⟨a1, -⟩ | ⟨a1, a2, a3, a4, -⟩
      · omega
      · omega
      rcases ge with ⟨b1, -⟩ | ⟨b1, -⟩ | ⟨b1, b2, b3, b4, -⟩
      · omega
      · omega
      rw [a4, b4, o.2.2]
  · rw [if_neg (fun z => p2 (by have := z.2.1.1; omega)), if_neg (fun z => p2 (by have := z.2; omega))] at q; exact q h1
  · rw [if_neg (fun z => p1 (by have := z.1.1; omega)), if_neg (fun z => p1 (by have := z.1; omega))] at q; exact q h1
end REF
