/-! THE REFERENCE: a day -/
theorem evU_0 {σ : StT} {h : Int} {va b a dr : Nat} : ∀ j, ¬ dr < sumN (sPt σ) j → evU σ h va b a dr j = 0
  | 0, _ => rfl
  | j + 1, hj => by
    have : sumN (sPt σ) j ≤ sumN (sPt σ) (j + 1) := sumN_mono (by omega)
    show (if dr < sumN (sPt σ) j then evU σ h va b a dr j else if dr < sumN (sPt σ) (j + 1) then alw σ h (sDeal σ j va b a) else 0) = 0
    rw [if_neg (by omega), if_neg hj]
abbrev ddC (a k : Nat) : Prop := a = 99 ∨ (a = 87 ∧ (k = 24 ∨ k = 25 ∨ k = 26))
theorem dd_st {a k : Nat} (q : ddC a k) : ¬ stC a k := by simp only [ddC] at q; simp only [stC]; omega
section REF
variable {M : Mem} {σ : StT} {c : CT} {w p : Nat → Nat} {hh g : Int} {Q : Int32 → Mem → Prop} {QJ0 : Int64 → Mem → Prop} {QV0 : Mem → Prop}
theorem AbsR.dd {M' : Mem} (h : AbsR M c) (f : Fg ddC M M') : AbsR M' c := h.fg f (fun a k q => by simp only [ddC] at q; simp only [coC]; omega)
theorem day_in {i0 b a dr e : Nat} {d ww what z has gain deals x10 : Int32} {K84 : Nat → Int32 → Int32 → Int32 → Int32 → Int32 → Int32 → Int32 → Int32 → Mem → Prop} (hm : MdOK M) (hr : RS M σ) (hi : i0 < sN σ) (hba : b < a) (ha : a ≤ 100) (hh2 : -20 ≤ hh ∧ hh ≤ 20) (hd : dr < 100) (hM : Mi M (sN σ) w) (hw : ∀ i, i < sN σ → w i ≤ 100000000000) (ee : e = evU σ hh (sVa σ i0) b a dr (sS σ)) (hcan : 0 < sumN (flw σ w hh e b a) (sN σ)) (eww : ww = nI i0) (ehas : has = iI hh)
    (hk : ∀ M', Fg miC M M' → Mi M' (sN σ) (stl (sN σ) (flw σ w hh e b a)) → K84 87 d ww what z (iI (hA e hh)) (gain + iI (tkI e b a - (sCo σ * (hA e hh).natAbs : Nat))) (deals + nI (if e = 0 then 0 else 1)) (x10 + 1) M') : ∃ n, lp_X13_day_162 K84 Q n 87 d ww what z has gain deals x10 (nI b) (nI a) (nI dr) 0 0 0 0 M := by
  obtain ⟨w1, w2, w3, w4, w5, w6, w7, w8, -⟩ := hr.1
  have hva := (w2 i0 hi).2.2
  subst eww
  subst ehas
  refine for_up (fun m j => lp_X13_day_162 K84 Q m 87 d (nI i0) what z (iI hh) gain deals x10 (nI b) (nI a) (nI dr) (nI (evU σ hh (sVa σ i0) b a dr j)) (nI (sumN (sPt σ) j)) (if dr < sumN (sPt σ) j then 1 else 0) (nI j) M) (sS σ) (fun m => ?_) (fun m j hj ih => ?_) |> fun ⟨m, h⟩ => ⟨m, by
    have h := h
    rw [if_neg (show ¬ dr < sumN (sPt σ) 0 from by show ¬ dr < 0; omega)] at h
    exact h⟩
  · unfold lp_X13_day_162
    rw [← ee]
    have he2 : e ≤ 2 := by rw [ee]; exact evU_le _
    have e1 : nI e = (1 : Int32) ↔ e = 1 := nI_eq (b := 1) (by omega) (by omega)
    have e2 : nI e = (2 : Int32) ↔ e = 2 := nI_eq (b := 2) (by omega) (by omega)
    have e0 : nI e ≤ (0 : Int32) ↔ e ≤ 0 := nI_le31 (b := 0) (by omega) (by omega)
    have h3 := hA_rng hr.1 hh2 hcan
    refine ⟨hm.1, fun _ => S_R_goesOn hm hr hM hw he2 hba ha hh2 (fun hp M2 f2 i2 => S_R_heldBy he2 ?_) (fun hp => absurd hcan hp), fun hn => absurd (by rw [hr.2.1.2.1]; exact nI_le (Nat.le_refl _) (by omega)) hn⟩
    have m2 := hm.fg f2
    have r2 := hr.fg f2 (fun a k q => mi_st q)
    have hk := hk M2 f2 i2
    have fin : ∀ t : Int, t = tkI e b a → jn_X13_day_277 K84 Q 87 d (nI i0) what z (iI (hA e hh)) deals x10 (nI e) 1 (iI t) gain M2 := by
      intro t et y70 h70
      have nb : ∀ x : Int, x = ((hA e hh).natAbs : Int) → jn_X13_day_299 K84 Q 87 d (nI i0) what z (iI (hA e hh)) deals x10 (nI e) 1 (iI x) (mI M2 87 8) y70 M2 := by
        intro x ex y77 h77
        have eg : y77 = gain + iI (tkI e b a - (sCo σ * (hA e hh).natAbs : Nat)) := by
          rw [h77, h70, r2.2.1.2.2.2.1, nI_iI, iI_mul, et, ex, Int32.sub_eq_add_neg, Int32.add_assoc, ← Int32.sub_eq_add_neg, iI_sub]
          congr 2
        subst eg
        refine ⟨fun z0 y hy => ?_, fun z0 => ⟨fun z1 => absurd z1 (by decide), fun _ y hy => ?_⟩⟩
        · have z0 := e0.mp z0
          rw [if_pos (by omega)] at hk
          rw [hy]; exact hk
        · have z0 := mt e0.mpr z0
          rw [if_neg (by omega)] at hk
          rw [hy]; exact hk
      have c0 : (0 : Int32) ≤ iI (hA e hh) ↔ 0 ≤ hA e hh := iI_le (a := 0) (by omega) (by omega)
      refine ⟨m2.1, fun z => nb _ (by have := c0.mp z; omega), fun z => ?_⟩
      rw [iI_neg]
      exact nb _ (by have := mt c0.mpr z; omega)
    refine ⟨fun z => ⟨fun y => fin 0 ?_, fun y => ?_⟩, fun z => ?_⟩
    · unfold tkI; rw [if_neg (mt e1.mpr z), if_neg (mt e2.mpr y)]
    · rw [nI_iI b, iI_neg]
      exact fin _ (by unfold tkI; rw [if_neg (mt e1.mpr z), if_pos (e2.mp y)])
    · rw [nI_iI a]
      exact fin _ (by unfold tkI; rw [if_pos (e1.mp z)])
  · have hpt := (w4 j hj).2.1
    have hle : sumN (sPt σ) (j + 1) ≤ sumN (sPt σ) (sS σ) := sumN_mono (by omega)
    have hmo : sumN (sPt σ) j ≤ sumN (sPt σ) (j + 1) := sumN_mono (by omega)
    have eu : evU σ hh (sVa σ i0) b a dr (j + 1) = if dr < sumN (sPt σ) j then evU σ hh (sVa σ i0) b a dr j else if dr < sumN (sPt σ) (j + 1) then alw σ hh (sDeal σ j (sVa σ i0) b a) else 0 := rfl
    unfold lp_X13_day_162
    refine ⟨hm.1, fun hle => absurd (by rw [hr.2.1.2.1] at hle; exact hle) (nI_ge hj (by omega)), fun _ => ?_⟩
    rw [hm.r5, hm.n5, nI_clamp (by omega), (hr.2.2.2 j hj).2.1]
    refine ⟨hm.k5, vp_in_nI (by omega) (by omega), fun y hy => ?_⟩
    have ey : y = nI (sumN (sPt σ) (j + 1)) := by rw [hy, nI_add]; rfl
    subst ey
    have c1 : nI (sumN (sPt σ) (j + 1)) ≤ nI dr ↔ sumN (sPt σ) (j + 1) ≤ dr := nI_le31 (by omega) (by omega)
    refine ⟨fun z => ?_, fun z => ⟨fun y => ?_, fun y => ?_⟩⟩
    · have q : dr < sumN (sPt σ) j := by
        by_cases q : dr < sumN (sPt σ) j
        · exact q
        · rw [if_neg q] at z; exact absurd rfl z
      rw [if_pos (by omega), eu, if_pos q, ← nI_1] at ih
      rw [if_pos q]
      exact ih
    · have q : ¬ dr < sumN (sPt σ) j := fun q => by rw [if_pos q] at z; exact absurd z (by decide)
      have y := c1.mp y
      rw [if_neg (by omega), eu, if_neg q, if_neg (by omega), ← nI_1] at ih
      rw [if_neg q, evU_0 j q]
      exact ih
    · have q : ¬ dr < sumN (sPt σ) j := fun q => by rw [if_pos q] at z; exact absurd z (by decide)
      have y := mt c1.mpr y
      rw [if_pos (by omega), eu, if_neg q, if_pos (by omega), ← nI_1] at ih
      rw [hm.r2, hm.n2, nI_clamp (by omega), (hr.2.2.1 i0 hi).2]
      exact ⟨hm.k2, vp_in_nI (by omega) (by omega), S_R_dealt hm hr hj hva (by omega) ha ⟨hm.1, S_R_alw hm hr (dealN_le _ _ _ _ _) (by omega) ih⟩⟩
theorem S_X13_day {d ww z p : Int32} (h : AbsR M c) (hQ : ∀ M', Fg mdC8 M M' → AbsR M' c → Q (aDay c d ww z p) M') : wp_X13_day 87 d ww z p M Q := by
  unfold aDay wNR at hQ
  refine th0 h (fun M1 h1 f1 z1 => ?_)
  have q := hQ M1 f1 h1
  have h6 := h1.2.1.1.1
  have who := h1.2.1.1.2.2.2.2.2.2.2.2
  have no : ∀ x : Int32, ¬ (0 : Int32) ≤ x → Q (x - 1000000000) M1 → jn_X13_day_35 Q 87 d ww z p x M1 := fun x hx hq => ⟨fun y => absurd y hx, fun _ => hq⟩
  refine S_R_isWorth h1.1 h1.2.1 (fun a => ⟨fun z => absurd z (by decide), fun _ => S_inX 2 (by omega) rfl (fun b => ⟨fun _ => ⟨h1.1.1, S_R_wrongWay h1 (fun g => no _ (by decide) ?_) (fun g g1 => no _ (by decide) ?_) (fun g g1 g2 g3 g4 g5 => ?_) (fun g g1 => no _ (by decide) ?_)⟩, fun z => absurd z (by decide)⟩) (fun b => ⟨fun z => absurd rfl z, fun _ => no _ (by decide) ?_⟩)⟩) (fun a => ⟨fun _ => no _ (by decide) ?_, fun z => absurd rfl z⟩)
  · rw [if_pos ⟨a, by omega⟩, if_neg (fun z => g z.1), if_neg g] at q; exact q
  · rw [if_pos ⟨a, by omega⟩, if_neg (fun z => by have := z.2.1; omega), if_pos g, if_pos g1] at q; exact q
  · refine ⟨fun _ => ⟨h1.1.1, S_R_isReady h1.1 h1.2.1 (fun r => ⟨fun _ => ⟨h1.1.1, S_R_findChanceMean h1.1 h1.2.1 (fun M2 f2 e26 => ?_)⟩, fun z => absurd z (by decide)⟩) (fun r => ⟨fun z => absurd rfl z, fun _ => ?_⟩)⟩, fun z => absurd (by decide) z⟩
    · have f2d : Fg ddC M1 M2 := f2.mono (fun a k q => by simp only [ddC]; omega)
      have h2 := h1.dd f2d
      refine ⟨h2.1.1, S_R_setChances h2.1 h2.2.1 (fun M3 f3 i3 => ?_)⟩
      have f3d : Fg ddC M1 M3 := f2d.t2 (f3.mono (fun a k q => Or.inl q))
      have v26 : mI M3 87 26 = nI (mbc (cS c)) := by rw [f3.I (by simp only [miC]; omega)]; exact e26
      have hy : wyR c d := ⟨g, g1, r⟩
      simp only [if_pos (show ix ww < sN (cS c) ∧ ix p < 3 from ⟨a, by omega⟩), if_pos hy] at hQ
      have kk : (cG c (ix d)).2.1 = wk c d := rfl
      have ff : (cG c (ix d)).2.2.1 = wf c d := rfl
      rw [kk] at g2 g3
      rw [ff] at g4 g5
      generalize wk c d = k at *
      generalize wf c d = f at *
      obtain ⟨i0, hi0, rfl⟩ := ix_ex a (by omega)
      rw [ix_nI (by omega)] at hQ
      have hin := ix_vp g (N := 8) (by omega) (by omega)
      refine for_up (fun m j => ∀ M', Fg ddC M1 M' → mI M' 87 26 = nI (mbc (cS c)) → Mi M' (sN (cS c)) (lvN (cS c) k f (sVa (cS c) i0) z j).1 → (∀ i, i < sN (cS c) → (lvN (cS c) k f (sVa (cS c) i0) z j).1 i ≤ 100000000000) → (-20 ≤ (lvN (cS c) k f (sVa (cS c) i0) z j).2.1 ∧ (lvN (cS c) k f (sVa (cS c) i0) z j).2.1 ≤ 20) → lp_X13_day_84 Q m 87 d (nI i0) p (lvN (cS c) k f (sVa (cS c) i0) z j).2.2.2.2 (iI (lvN (cS c) k f (sVa (cS c) i0) z j).2.1) (iI (lvN (cS c) k f (sVa (cS c) i0) z j).2.2.1) (nI (lvN (cS c) k f (sVa (cS c) i0) z j).2.2.2.1) (nI j) M') (sHo (cS c)) (fun m M' fr x26 xi xw xh => ?_) (fun m j hj ih M' fr x26 xi xw xh => ?_) |> fun ⟨m, hx⟩ => ⟨m, hx M3 f3d v26 i3 (fun i hi => Nat.le_trans (h1.2.1.1.2.1 i hi).2.1 (by omega)) (by show (-20 : Int) ≤ 0 ∧ (0 : Int) ≤ 20; omega)⟩
      · have h4 := h1.dd fr
        have q := hQ M' (f1.t2 (fr.m8 (fun a k q => by simp only [ddC] at q; omega))) h4
        unfold lp_X13_day_84
        refine ⟨h4.1.1, fun _ => ⟨fun y0 => ⟨fun y1 => ?_, fun y1 => ?_⟩, fun y0 => ?_⟩, fun hn => absurd (by rw [h4.2.1.2.1.2.2.2.2]; exact nI_le (Nat.le_refl _) (by omega)) hn⟩
        · rw [if_neg (mt (ix_eq (k := 0) (by omega)).mpr y0), if_neg (mt (ix_eq (k := 1) (by omega)).mpr y1)] at q; exact q
        · rw [if_neg (mt (ix_eq (k := 0) (by omega)).mpr y0), if_pos ((ix_eq (k := 1) (by omega)).mp y1)] at q; exact q
        · rw [if_pos ((ix_eq (k := 0) (by omega)).mp y0)] at q
          rw [h4.1.r2, h4.1.n2, nI_clamp (by omega), (h4.2.1.2.2.1 i0 hi0).2, nI_iI (sVa (cS c) i0), iI_mul, iI_add]
          exact ⟨h4.1.k2, vp_in_nI (by omega) (by omega), q⟩
      · have h4 := h1.dd fr
        have w4 : mI M' 114 (ix d) = nI k := by rw [fr.I (by simp only [ddC]; omega)]; exact g2
        have w5 : mI M' 115 (ix d) = nI f := by rw [fr.I (by simp only [ddC]; omega)]; exact g4
        have lp := lv_pos (k := k) (f := f) h1.2.1.1 hi0 (z := z) j
        have lc := lv_can (k := k) (f := f) h1.2.1.1 (z := z) hi0 lp
        have lS : lvN (cS c) k f (sVa (cS c) i0) z (j + 1) = lvS (cS c) k f (sVa (cS c) i0) (lvN (cS c) k f (sVa (cS c) i0) z j) := rfl
        rw [lS] at ih
        generalize lvN (cS c) k f (sVa (cS c) i0) z j = x at *
        have xp : 0 < sumN x.1 (sN (cS c)) := (sumN_pos _).mpr ⟨i0, hi0, lp⟩
        unfold lp_X13_day_84
        refine ⟨h4.1.1, fun hle => absurd (by rw [h4.2.1.2.1.2.2.2.2] at hle; exact hle) (nI_ge hj (by omega)), fun _ => ?_⟩
        rw [h4.1.r50, h4.1.n50, h4.1.r51, h4.1.n51, ix_cl g (by omega), w4, w5]
        refine ⟨h4.1.k50, hin, h4.1.k51, hin, S_R_call h4.1 h4.2.1 xi xw xp x26 g3 g5 xh (fun M5 f5 x4 x5 => ?_)⟩
        have f5d : Fg ddC M' M5 := f5.mono (fun a k q => by simp only [caC] at q; simp only [ddC]; omega)
        have h5 := h4.dd f5d
        rw [x4, x5]
        refine ⟨h5.1.1, fun y1 e1 y2 e2 y3 e3 y4 e4 => ?_⟩
        subst e1
        subst e2
        have e3 : y3 = zN x.2.2.2.2 := e3
        subst e3
        have hz : ((zN x.2.2.2.2 &&& 2147483647) / 65536) - ((zN x.2.2.2.2 &&& 2147483647) / 65536) / 100 * 100 = nI (drw (zN x.2.2.2.2)) := by
          rw [pk_and (zN x.2.2.2.2) 31 (by decide), show (65536 : Int32) = nI 65536 from rfl, show (100 : Int32) = nI 100 from rfl, pk_div (by omega) (by omega) (by omega), pk_rem (by omega) (by omega) (by omega)]
          rfl
        rw [hz] at e4
        subst e4
        have xi5 : Mi M5 (sN (cS c)) x.1 := xi.fg f5 (fun k => by simp only [caC]; omega)
        obtain ⟨hba, hal⟩ := askW_le (σ := cS c) (w := x.1) (hh := x.2.1) (k := k) (f := f)
        have h3 := hA_rng h1.2.1.1 xh lc
        obtain ⟨b1, b2⟩ := flw_b h1.2.1.1 xw lc
        refine day_in h5.1 h5.2.1 hi0 hba hal xh (by unfold drw; omega) xi5 xw rfl lc rfl rfl (fun M6 f6 i6 => ?_)
        rw [nI_1, iI_add, nI_add]
        refine ih M6 ((fr.t2 f5d).t2 (f6.mono (fun a k q => Or.inl q))) ?_ i6 b1 h3
        rw [f6.I (by simp only [miC]; omega), f5.I (by simp only [caC]; omega)]; exact x26
    · rw [if_pos ⟨a, by omega⟩, if_neg (fun z => r z.2.2), if_pos g, if_neg (by omega), if_pos g1] at q; exact q
  · rw [if_pos ⟨a, by omega⟩, if_neg (fun z => by have := z.2.1; omega), if_pos g, if_neg (by omega), if_neg (by omega)] at q; exact q
  · rw [if_neg (fun z => b (by omega))] at q; exact q
  · rw [if_neg (fun z => a z.1)] at q; exact q
end REF
