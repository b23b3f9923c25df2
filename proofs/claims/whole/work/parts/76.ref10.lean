/-! THE REFERENCE: means of ways, the best of them -/
abbrev gaC (a k : Nat) : Prop := (a = 87 ∧ (k = 24 ∨ k = 25 ∨ k = 26 ∨ k = 35 ∨ k = 36)) ∨ (99 ≤ a ∧ a ≤ 107)
theorem ga8 {a k : Nat} (q : gaC a k) : 87 ≤ a ∧ a < 120 := by simp only [gaC] at q; omega
theorem ga_st {a k : Nat} (q : gaC a k) : ¬ stC a k := by simp only [gaC] at q; simp only [stC]; omega
theorem wNR_neg {c : CT} {x : Int32} : ¬ (0 : Int32) ≤ wNR c x := by
  unfold wNR
  split
  · split
    · decide
    · split <;> decide
  · decide
theorem wNR_far {c : CT} {x : Int32} : (-4000000000000000000 : Int64) + (wNR c x).toInt64 = (wNR c x).toInt64 - 4000000000000000000 := by
  unfold wNR
  split
  · split
    · decide
    · split <;> decide
  · decide
abbrev bwC (c : CT) (d : Int32) : Prop := 1 ≤ rL c d ∧ rL c d ≤ 6 ∧ ∀ i, i < rL c d → 0 ≤ (cG c (ix d)).2.2.2 i ∧ (cG c (ix d)).2.2.2 i < 6
def bwF (c : CT) (d f : Int32) (i : Nat) : Int64 := jI (meanX (cS c) ((cG c (ix d)).2.2.2 i).toNat (ix f))
def aBestWay (c : CT) (d f : Int32) : Int32 := if ix f < 50 then (if bR c d then (if bwC c d then (if rdy c then nI (bst (bwF c d f) (rL c d)) else -3) else -13) else wNo c d) else -1
section REF
variable {M : Mem} {σ : StT} {c : CT} {w p : Nat → Nat} {hh g : Int} {st : Bool} {h : Nat} {Q : Int32 → Mem → Prop} {QJ0 : Int64 → Mem → Prop} {QV0 : Mem → Prop}
theorem AbsR.ga {M' : Mem} (h : AbsR M c) (f : Fg gaC M M') : AbsR M' c := h.fg f (fun a k q => by simp only [gaC] at q; simp only [coC]; omega)
theorem S_R_goAll {k f : Nat} (hm : MdOK M) (hr : RS M σ) (hrd : 0 < sumN (sCh σ) (sN σ)) (hk : k ≤ 5) (hf : f ≤ 49) (hQ : ∀ M', Fg gaC M M' → mJ M' 87 35 = jI (meanX σ k f) → mJ M' 87 36 = jI (stuckX σ k f) → QV0 M') : wp_X13_goAll 87 (nI k) (nI f) M QV0 := by
  have w1 := hr.1.1
  have who := hr.1.2.2.2.2.2.2.2.2
  refine ⟨hm.1, S_R_findChanceMean hm hr (fun M2 f2 e26 => ⟨by rw [f2.K]; exact hm.1, fun M3 e3 M6 e6 => ?_⟩)⟩
  have f6 : Fg gaC M M6 := by
    rw [e6, e3]
    exact ((f2.mono (fun a k q => Or.inl ⟨q.1, by omega⟩)).sJ (Or.inl ⟨rfl, by omega⟩)).sJ (Or.inl ⟨rfl, by omega⟩)
  have b26 : mI M6 87 26 = nI (mbc σ) := by rw [e6, mI_uJ, e3, mI_uJ]; exact e26
  have b35 : mJ M6 87 35 = jI 0 := by rw [e6, mJ_uJ, if_pos rfl, if_neg (by decide), e3, mJ_uJ, if_pos rfl, if_pos rfl]; rfl
  have b36 : mJ M6 87 36 = jI 0 := by rw [e6, mJ_uJ, if_pos rfl, if_pos rfl]; rfl
  have m6 := hm.fg f6
  have r6 := hr.fg f6 (fun a k q => ga_st q)
  refine for_up (fun m i => ∀ M', Fg (fun a _k => a = 100 ∨ a = 101) M6 M' → (∀ j, j < i → mJ M' 100 j = lN (sCh σ j)) → (∀ j, j < i → mJ M' 101 j = lN (sCh σ j)) → lp_X13_goAll_16 QV0 m 87 (nI k) (nI f) (nI i) M') (sN σ) (fun m M' f' hz hz2 => ?_) (fun m i hi ih M' f' hz hz2 => ?_) |> fun ⟨m, hx⟩ => ⟨m, hx M6 Fg.rf (fun j hj => absurd hj (by omega)) (fun j hj => absurd hj (by omega))⟩
  · have r7 := r6.fg f' (fun a k q => by simp only [stC]; omega)
    have m7 := m6.fg f'
    have in0 : vp_in (0 : Int32) 7 := vp_in_nI (n := 0) (by omega) (by omega)
    have c0 : (0 : Int32).toNatClampNeg = 0 := rfl
    unfold lp_X13_goAll_16
    refine ⟨m7.1, fun _ => ?_, fun hn => absurd (by rw [r7.2.1.1]; exact nI_le (Nat.le_refl _) (by omega)) hn⟩
    rw [m7.r29, m7.n29, c0]
    refine ⟨m7.k29, in0, fun M13 e13 => ?_⟩
    have m13 : MdOK M13 := by rw [e13]; exact m7
    rw [m13.r30, m13.n30]
    refine ⟨m13.k30, in0, fun M16 e16 => ?_⟩
    have m16 : MdOK M16 := by rw [e16]; exact m13
    rw [m16.r34, m16.n34]
    refine ⟨m16.k34, in0, fun M19 e19 => ?_⟩
    have f19 : Fg (fun a _k => a = 100 ∨ a = 101 ∨ a = 102 ∨ a = 103 ∨ a = 107) M6 M19 := by
      rw [e19, e16, e13]
      exact (((f'.mono (fun a k q => by omega)).sI (by omega)).sI (by omega)).sI (by omega)
    have m19 := m6.fg f19
    have r19 := r6.fg f19 (fun a k q => by simp only [stC]; omega)
    have g26 : mI M19 87 26 = nI (mbc σ) := by rw [f19.I (by omega)]; exact b26
    have g35 : mJ M19 87 35 = jI 0 := by rw [f19.J (by omega)]; exact b35
    have g36 : mJ M19 87 36 = jI 0 := by rw [f19.J (by omega)]; exact b36
    have l19 : Lv M19 (sN σ) 0 (sCh σ) (sCh σ) 0 0 false := by
      refine ⟨fun i hi => ?_, fun i hi => ?_, ?_, ?_, ?_⟩
      · rw [e19, mJ_uI, e16, mJ_uI, e13, mJ_uI, show 6 * 0 + i = i by omega]; exact hz i hi
      · rw [e19, mJ_uI, e16, mJ_uI, e13, mJ_uI, show 6 * 0 + i = i by omega]; exact hz2 i hi
      · rw [e19, mI_uI, if_neg (by decide), e16, mI_uI, if_neg (by decide), e13, mI_uI, if_pos rfl, if_pos rfl]; rfl
      · rw [e19, mI_uI, if_neg (by decide), e16, mI_uI, if_pos rfl, if_pos rfl]; rfl
      · rw [e19, mI_uI, if_pos rfl, if_pos rfl]; rfl
    have wl : ∀ i, i < sN σ → sCh σ i ≤ 100000000000 := fun i hi => Nat.le_trans (hr.1.2.1 i hi).2.1 (by omega)
    refine S_R_openHour (h := 0) m19 r19 (by omega) l19 wl hrd g26 hk hf (by omega) (fun M23 f23 x5 x6 x4 => ?_)
    obtain ⟨r, er⟩ : ∃ r, sHo σ = r + 1 := ⟨sHo σ - 1, by omega⟩
    have r23 := r19.fg f23 (fun a k q => by simp only [ohC] at q; simp only [stC]; omega)
    have l23 : Lv M23 (sN σ) 0 (sCh σ) (sCh σ) 0 0 false := by
      obtain ⟨a1, a2, a3, a4, a5⟩ := l19
      refine ⟨fun i hi => ?_, fun i hi => ?_, ?_, ?_, ?_⟩
      · rw [f23.J (by simp only [ohC]; omega)]; exact a1 i hi
      · rw [f23.J (by simp only [ohC]; omega)]; exact a2 i hi
      · rw [f23.I (by simp only [ohC]; omega)]; exact a3
      · rw [f23.I (by simp only [ohC]; omega)]; exact a4
      · rw [f23.I (by simp only [ohC]; omega)]; exact a5
    refine ⟨1 + 3 * (1 + cst r) + 1, go_lv hk hf (by omega) r 0 (sCh σ) (sCh σ) 0 0 false 1 (by omega) wl (by omega) (by omega) 3 0 0 0 M23 rfl ⟨m19.fg f23, r23, by rw [f23.I (by simp only [ohC]; omega)]; exact g26, l23, x5, x6⟩ x4 (by rw [f23.J (by simp only [ohC]; omega)]; exact g35) (by rw [f23.J (by simp only [ohC]; omega)]; exact g36) (fun M5 f5 yA yB N hN => ?_) _ (Nat.le_refl _)⟩
    obtain ⟨n, rfl⟩ : ∃ n, N = n + 1 := ⟨N - 1, by omega⟩
    unfold lp_X13_goAll_86
    refine ⟨fun _ => hQ M5 ?_ ?_ ?_, fun z => absurd (by decide) z⟩
    · exact (((f6.t2 (f19.mono (fun a k q => Or.inr (by omega)))).t2 (f23.mono (fun a k q => by simp only [ohC] at q; simp only [gaC]; omega))).t2 (f5.mono (fun a k q => by simp only [gC] at q; simp only [gaC]; omega)))
    · rw [yA]; congr 1
      unfold meanX
      rw [er, goX_T]
      show 0 + (sumZ _ 3 - 0) = _
      omega
    · rw [yB]; congr 1
      unfold stuckX
      rw [er, goX_T]
      show 0 + (sumZ _ 3 - 0) = _
      omega
  · have r7 := r6.fg f' (fun a k q => by simp only [stC]; omega)
    have m7 := m6.fg f'
    have hc := (hr.1.2.1 i hi).2.1
    unfold lp_X13_goAll_16
    refine ⟨m7.1, fun hle => absurd (by rw [r7.2.1.1] at hle; exact hle) (nI_ge hi (by omega)), fun _ => ?_⟩
    rw [m7.r1, m7.n1, m7.r27, m7.n27, nI_clamp (by omega), (r7.2.2.1 i hi).1, nI_l (by omega)]
    refine ⟨m7.k1, vp_in_nI (by omega) (by omega), m7.k27, vp_in_nI (by omega) (by omega), fun M8 e8 => ?_⟩
    have f8 : Fg (fun a _k => a = 100 ∨ a = 101) M6 M8 := by rw [e8]; exact f'.sJ (Or.inl rfl)
    have m8 := m6.fg f8
    have r8 := r6.fg f8 (fun a k q => by simp only [stC]; omega)
    rw [m8.r1, m8.n1, m8.r28, m8.n28, (r8.2.2.1 i hi).1, nI_l (by omega)]
    refine ⟨m8.k1, vp_in_nI (by omega) (by omega), m8.k28, vp_in_nI (by omega) (by omega), fun M9 e9 => ?_⟩
    rw [nI_1]
    refine ih M9 (by rw [e9]; exact f8.sJ (Or.inr rfl)) (fun j hj => ?_) (fun j hj => ?_)
    · rw [e9, mJ_uJ, if_neg (by decide), e8]; exact fil (f := fun j => lN (sCh σ j)) hz rfl j hj
    · rw [e9]
      exact fil (f := fun j => lN (sCh σ j)) (fun j hj => by rw [e8, mJ_uJ, if_neg (by decide)]; exact hz2 j hj) rfl j hj
theorem S_R_wrongMean {d : Int32} (h : AbsR M c) (hY : wyR c d → mI M 114 (ix d) = nI (wk c d) → wk c d ≤ 5 → mI M 115 (ix d) = nI (wf c d) → wf c d ≤ 49 → Q 0 M) (hN : ¬ wyR c d → Q (wNR c d) M) : wp_X13_wrongMean 87 d M Q := by
  refine ⟨h.1.1, S_R_wrongWay h (fun g => ⟨fun z => absurd z (by decide), fun _ => ⟨h.1.1, S_R_wrongWay h (fun _ => ?_) (fun g => absurd g ‹_›) (fun g => absurd g ‹_›) (fun g => absurd g ‹_›)⟩⟩) (fun g g1 => ⟨fun z => absurd z (by decide), fun _ => ⟨h.1.1, S_R_wrongWay h (fun z => absurd g z) (fun _ _ => ?_) (fun _ g2 => by omega) (fun _ g2 => by omega)⟩⟩) (fun g g1 g2 g3 g4 g5 => ⟨fun _ => ⟨h.1.1, S_R_isReady h.1 h.2.1 (fun r => ⟨fun z => absurd z (by decide), fun _ => hY ⟨g, g1, r⟩ g2 g3 g4 g5⟩) (fun r => ⟨fun _ => ?_, fun z => absurd rfl z⟩)⟩, fun z => absurd (by decide) z⟩) (fun g g1 => ⟨fun z => absurd z (by decide), fun _ => ⟨h.1.1, S_R_wrongWay h (fun z => absurd g z) (fun _ g2 => by omega) (fun _ g2 => by omega) (fun _ _ => ?_)⟩⟩)⟩
  · have q := hN (fun z => absurd z.1 ‹_›)
    unfold wNR at q
    rw [if_neg ‹¬ ix d < 8›] at q; exact q
  · have q := hN (fun z => by have := z.2.1; omega)
    unfold wNR at q
    rw [if_pos g, if_pos g1] at q; exact q
  · have q := hN (fun z => r z.2.2)
    unfold wNR at q
    rw [if_pos g, if_neg (by omega), if_pos g1] at q; exact q
  · have q := hN (fun z => by have := z.2.1; omega)
    unfold wNR at q
    rw [if_pos g, if_neg (by omega), if_neg (by omega)] at q; exact q
theorem S_X13_mean {d : Int32} (h : AbsR M c) (hQ : ∀ M', Fg mdC8 M M' → AbsR M' c → QJ0 (aMean c d) M') : wp_X13_mean 87 d M QJ0 := by
  unfold aMean at hQ
  refine th0 h (fun M1 h1 f1 z1 => S_R_wrongMean h1 (fun hy g2 g3 g4 g5 => ⟨fun _ => ?_, fun z => absurd (by decide) z⟩) (fun hn => ⟨fun z => absurd z wNR_neg, fun _ => ⟨h1.1.1, S_R_wrongMean h1 (fun hy => absurd hy hn) (fun _ => ?_)⟩⟩))
  · have hin := ix_vp hy.1 (N := 8) (by omega) (by omega)
    have hrd : 0 < sumN (sCh (cS c)) (sN (cS c)) := by have r : sumN (sCh (cS c)) (sN (cS c)) = 100 := hy.2.2; omega
    rw [h1.1.r50, h1.1.n50, h1.1.r51, h1.1.n51, ix_cl hy.1 (by omega), g2, g4]
    refine ⟨h1.1.1, h1.1.k50, hin, h1.1.k51, hin, S_R_goAll h1.1 h1.2.1 hrd g3 g5 (fun M2 f2 xA xB => ?_)⟩
    have h2 := h1.ga f2
    have q := hQ M2 (f1.t2 (f2.m8 (fun a k q => ga8 q))) h2
    rw [if_pos hy] at q
    rw [xA]
    exact ⟨h2.1.1, q⟩
  · have q := hQ M1 f1 h1
    rw [if_neg hn, ← wNR_far] at q; exact q
theorem S_X13_stuck {d : Int32} (h : AbsR M c) (hQ : ∀ M', Fg mdC8 M M' → AbsR M' c → QJ0 (aStuck c d) M') : wp_X13_stuck 87 d M QJ0 := by
  unfold aStuck at hQ
  refine th0 h (fun M1 h1 f1 z1 => S_R_wrongMean h1 (fun hy g2 g3 g4 g5 => ⟨fun _ => ?_, fun z => absurd (by decide) z⟩) (fun hn => ⟨fun z => absurd z wNR_neg, fun _ => ⟨h1.1.1, S_R_wrongMean h1 (fun hy => absurd hy hn) (fun _ => ?_)⟩⟩))
  · have hin := ix_vp hy.1 (N := 8) (by omega) (by omega)
    have hrd : 0 < sumN (sCh (cS c)) (sN (cS c)) := by have r : sumN (sCh (cS c)) (sN (cS c)) = 100 := hy.2.2; omega
    rw [h1.1.r50, h1.1.n50, h1.1.r51, h1.1.n51, ix_cl hy.1 (by omega), g2, g4]
    refine ⟨h1.1.1, h1.1.k50, hin, h1.1.k51, hin, S_R_goAll h1.1 h1.2.1 hrd g3 g5 (fun M2 f2 xA xB => ?_)⟩
    have h2 := h1.ga f2
    have q := hQ M2 (f1.t2 (f2.m8 (fun a k q => ga8 q))) h2
    rw [if_pos hy] at q
    rw [xB]
    exact ⟨h2.1.1, q⟩
  · have q := hQ M1 f1 h1
    rw [if_neg hn, ← wNR_far] at q; exact q
theorem S_X13_limit {d : Int32} (h : AbsR M c) (hQ : ∀ M', Fg mdC8 M M' → AbsR M' c → QJ0 (aLimit c d) M') : wp_X13_limit 87 d M QJ0 := by
  unfold aLimit at hQ
  refine th0 h (fun M1 h1 f1 z1 => S_R_wrongMean h1 (fun hy g2 g3 g4 g5 => ⟨fun _ => ?_, fun z => absurd (by decide) z⟩) (fun hn => ⟨fun z => absurd z wNR_neg, fun _ => ⟨h1.1.1, S_R_wrongMean h1 (fun hy => absurd hy hn) (fun _ => ?_)⟩⟩))
  · have hin := ix_vp hy.1 (N := 8) (by omega) (by omega)
    have hrd : 0 < sumN (sCh (cS c)) (sN (cS c)) := by have r : sumN (sCh (cS c)) (sN (cS c)) = 100 := hy.2.2; omega
    rw [h1.1.r50, h1.1.n50, h1.1.r51, h1.1.n51, ix_cl hy.1 (by omega), g2, g4]
    refine ⟨h1.1.1, h1.1.k50, hin, h1.1.k51, hin, S_R_goAll h1.1 h1.2.1 hrd g3 g5 (fun M2 f2 xA xB => ?_)⟩
    have h2 := h1.ga f2
    refine ⟨h2.1.1, fun y1 hy1 y2 hy2 M3 e3 => ?_⟩
    have f3 : Fg (fun a k => a = 87 ∧ k = 7) M2 M3 := by rw [e3]; exact Fg.pI ⟨rfl, rfl⟩
    have m3 := h2.1.fg f3
    have r3 : RS M3 (setM (cS c) 20) := by
      obtain ⟨w, ⟨a1, a2, a3, a4, a5⟩, b, b2⟩ := h2.2.1
      refine ⟨setM_wf w (by omega), ⟨?_, ?_, ?_, ?_, ?_⟩, fun i hi => ?_, fun j hj => ?_⟩
      · rw [f3.I (by omega)]; exact a1
      · rw [f3.I (by omega)]; exact a2
      · rw [e3, mI_uI, if_pos rfl, if_pos rfl]; rfl
      · rw [f3.I (by omega)]; exact a4
      · rw [f3.I (by omega)]; exact a5
      · rw [f3.I (by omega), f3.I (by omega)]; exact b i hi
      · rw [f3.I (by omega), f3.I (by omega), f3.I (by omega)]; exact b2 j hj
    have g2b : mI M3 114 (ix d) = nI (wk c d) := by rw [f3.I (by omega), f2.I (by simp only [gaC]; omega)]; exact g2
    have g4b : mI M3 115 (ix d) = nI (wf c d) := by rw [f3.I (by omega), f2.I (by simp only [gaC]; omega)]; exact g4
    rw [m3.r50, m3.n50, m3.r51, m3.n51, g2b, g4b]
    refine ⟨m3.k50, hin, m3.k51, hin, S_R_goAll m3 r3 hrd g3 g5 (fun M4 f4 yA yB => ?_)⟩
    have m4 := m3.fg f4
    refine ⟨m4.1, fun M5 e5 => ?_⟩
    have h5 : AbsR M5 c := by
      have a7 : mI M2 87 7 = nI (sMo (cS c)) := h2.2.1.2.1.2.2.1
      rw [a7] at hy2
      have f5 : Fg gaC M2 M5 := by
        obtain ⟨q1, q2, q3, q4, q5⟩ := ((f3.mono (fun a k q => Or.inr q : ∀ a k, (a = 87 ∧ k = 7) → (gaC a k ∨ (a = 87 ∧ k = 7)))).t2 (f4.mono (fun a k q => Or.inl q))).t2 (M2 := M5) (by rw [e5]; exact Fg.pI (Or.inr ⟨rfl, rfl⟩))
        refine ⟨q1, q2, q3, q4, fun a k ha => ?_⟩
        by_cases c7 : a = 87 ∧ k = 7
        · rw [c7.1, c7.2]
          refine ⟨by rw [e5, mI_uI, if_pos rfl, if_pos rfl, hy2]; exact a7.symm, ?_⟩
          rw [e5, mJ_uI, f4.J (by simp only [gaC]; omega), e3, mJ_uI]
        · exact q5 a k (fun z => by rcases z with z | z; (exact ha z); exact c7 z)
      exact h2.ga f5
    have q := hQ M5 ?_ h5
    · rw [if_pos hy] at q
      rw [hy1, xA, show mJ M5 87 35 = mJ M4 87 35 by rw [e5]; rfl, yA]
      exact q
    · refine (f1.t2 (f2.m8 (fun a k q => ga8 q))).t2 ((f3.m8 (fun a k q => by omega)).t2 ((f4.m8 (fun a k q => ga8 q)).t2 ?_))
      rw [e5]; exact Fg.pI ⟨by omega, by omega⟩
  · have q := hQ M1 f1 h1
    rw [if_neg hn, ← wNR_far] at q; exact q
end REF
