/-! THE REFERENCE: the image -/
def sa (s : Nat) : Nat × Nat := if s < 6 then (87, if s = 0 then 0 else if s = 1 then 3 else if s = 2 then 7 else if s = 3 then 8 else if s = 4 then 9 else 11) else (if (s - 6) % 6 = 0 then 88 else if (s - 6) % 6 = 1 then 89 else if (s - 6) % 6 = 2 then 93 else if (s - 6) % 6 = 3 then 90 else if (s - 6) % 6 = 4 then 91 else 92, (s - 6) / 6)
abbrev isJ (s : Nat) : Prop := 6 ≤ s ∧ (s - 6) % 6 = 2
theorem sa_inj : ∀ s, s < 42 → ∀ t, t < 42 → sa s = sa t → s = t := by decide +kernel
theorem sa_rng : ∀ s, s < 42 → ((sa s).1 = 87 ∧ ((sa s).2 = 0 ∨ (sa s).2 = 3 ∨ (sa s).2 = 7 ∨ (sa s).2 = 8 ∨ (sa s).2 = 9 ∨ (sa s).2 = 11)) ∨ (88 ≤ (sa s).1 ∧ (sa s).1 ≤ 93) := by decide +kernel
abbrev mvC (a k : Nat) : Prop := (a = 87 ∧ (k = 0 ∨ k = 3 ∨ k = 7 ∨ k = 8 ∨ k = 9 ∨ k = 11 ∨ k = 47)) ∨ (88 ≤ a ∧ a ≤ 93) ∨ a = 112
def RV (M0 : Mem) (t : Bool) (s : Nat) : Int64 := if t = true then (if isJ s then mJ M0 (sa s).1 (sa s).2 else (mI M0 (sa s).1 (sa s).2).toInt64) else mJ M0 112 s
def Mv (M0 : Mem) (t : Bool) (M : Mem) (n : Nat) : Prop := MdOK M ∧ mI M 87 47 = nI n ∧ mI M 87 48 = bI t ∧ Fg mvC M0 M ∧ (∀ s, s < n → mJ M 112 s = RV M0 t s) ∧ (∀ s, n ≤ s → mJ M 112 s = mJ M0 112 s) ∧ (∀ s, s < n → ¬ isJ s → mI M (sa s).1 (sa s).2 = (RV M0 t s).toInt32) ∧ (∀ s, s < n → isJ s → mJ M (sa s).1 (sa s).2 = RV M0 t s) ∧ (∀ s, n ≤ s → s < 42 → mI M (sa s).1 (sa s).2 = mI M0 (sa s).1 (sa s).2 ∧ mJ M (sa s).1 (sa s).2 = mJ M0 (sa s).1 (sa s).2)
theorem sa_ne {s t : Nat} (hs : s < 42) (ht : t < 42) (h : s ≠ t) : ¬ ((sa s).1 = (sa t).1 ∧ (sa s).2 = (sa t).2) := fun q => h (sa_inj s hs t ht (Prod.ext q.1 q.2))
theorem up2_at {α : Type} {f : Nat → Nat → α} {a k b j : Nat} {v : α} (h : ¬ (b = a ∧ j = k)) : up2 f a k v b j = f b j := by
  unfold up2
  split
  · split
    · rename_i h1 h2; exact absurd ⟨h1, h2⟩ h
    · rfl
  · rfl
section REF
variable {M M0 : Mem} {σ : StT} {c : CT} {t : Bool} {n : Nat} {Q : Int32 → Mem → Prop} {QJ0 : Int64 → Mem → Prop} {QV0 : Mem → Prop}
/-- one slot goes into the image, or comes out of it -/
theorem S_R_moveLong {v : Int64} (hm : MdOK M) (h47 : mI M 87 47 = nI n) (hn : n < 42) (h48 : mI M 87 48 = bI t) (hQ : ∀ M', Fg (fun a k => (a = 87 ∧ k = 47) ∨ (a = 112 ∧ k = n)) M M' → mI M' 87 47 = nI (n + 1) → mJ M' 112 n = (if t = true then v else mJ M 112 n) → QJ0 (if t = true then v else mJ M 112 n) M') : wp_X13_moveLong 87 v M QJ0 := by
  have go : ∀ M1, Fg (fun a k => (a = 87 ∧ k = 47) ∨ (a = 112 ∧ k = n)) M M1 → mI M1 87 47 = nI n → mJ M1 112 n = (if t = true then v else mJ M 112 n) → jn_X13_moveLong_17 QJ0 87 M1 := by
    intro M1 f1 e47 e112
    have m1 := hm.fg f1
    refine ⟨m1.1, fun M5 e5 => ?_⟩
    have m5 : MdOK M5 := by rw [e5]; exact m1
    have v47 : mI M5 87 47 = nI (n + 1) := by rw [e5, mI_uI, if_pos rfl, if_pos rfl, e47, nI_1]
    have v112 : mJ M5 112 n = (if t = true then v else mJ M 112 n) := by rw [e5, mJ_uI]; exact e112
    rw [m5.r46, m5.n46, v47, nI_pred, nI_clamp (by omega), v112]
    exact ⟨m5.k46, vp_in_nI (by omega) (by omega), hQ M5 (by rw [e5]; exact f1.sI (Or.inl ⟨rfl, rfl⟩)) v47 v112⟩
  refine ⟨hm.1, ?_⟩
  rw [h48, hm.r46, hm.n46, h47, nI_clamp (by omega)]
  refine ⟨fun z => go M Fg.rf h47 (by rw [if_neg (bI_0.mp z)]), fun z => ⟨hm.k46, vp_in_nI (by omega) (by omega), fun M8 e8 => ?_⟩⟩
  have ty : t = true := by cases t; (exact absurd rfl z); rfl
  refine go M8 (by rw [e8]; exact Fg.pJ (Or.inr ⟨rfl, rfl⟩)) (by rw [e8, mI_uJ]; exact h47) ?_
  rw [e8, mJ_uJ, if_pos rfl, if_pos rfl, if_pos ty]
theorem mv_after {M1 M2 : Mem} (hn : n < 42) (h : Mv M0 t M n) (f1 : Fg (fun a k => (a = 87 ∧ k = 47) ∨ (a = 112 ∧ k = n)) M M1) (e47 : mI M1 87 47 = nI (n + 1)) (e112 : mJ M1 112 n = RV M0 t n)
    (f2 : Fg (fun a k => a = (sa n).1 ∧ k = (sa n).2) M1 M2) (hI : ¬ isJ n → mI M2 (sa n).1 (sa n).2 = (RV M0 t n).toInt32) (hJ : isJ n → mJ M2 (sa n).1 (sa n).2 = RV M0 t n) : Mv M0 t M2 (n + 1) := by
  obtain ⟨a1, a2, a3, a4, a5, a6, a7, a8, a9⟩ := h
  have rn := sa_rng n hn
  have no : ∀ s, s < 42 → ¬ (fun a k => (a = 87 ∧ k = 47) ∨ (a = 112 ∧ k = n)) (sa s).1 (sa s).2 := fun s hs => by have := sa_rng s hs; omega
  refine ⟨(a1.fg f1).fg f2, ?_, ?_, ?_, fun s hs => ?_, fun s hs => ?_, fun s hs hj => ?_, fun s hs hj => ?_, fun s hs h42 => ?_⟩
  · rw [f2.I (by omega)]; exact e47
  · rw [f2.I (by omega), f1.I (by omega)]; exact a3
  · refine (a4.t2 (f1.mono (fun a k q => by simp only [mvC]; omega))).t2 (f2.mono (fun a k q => by simp only [mvC]; omega))
  · rw [f2.J (by omega)]
    by_cases e : s = n
    · rw [e]; exact e112
    · rw [f1.J (by omega)]; exact a5 s (by omega)
  · rw [f2.J (by omega), f1.J (by omega)]; exact a6 s (by omega)
  · by_cases e : s = n
    · rw [e]; exact hI (by rw [← e]; exact hj)
    · rw [f2.I (sa_ne (by omega) hn e), f1.I (no s (by omega))]; exact a7 s (by omega) hj
  · by_cases e : s = n
    · rw [e]; exact hJ (by rw [← e]; exact hj)
    · rw [f2.J (sa_ne (by omega) hn e), f1.J (no s (by omega))]; exact a8 s (by omega) hj
  · rw [f2.I (sa_ne h42 hn (by omega)), f2.J (sa_ne h42 hn (by omega)), f1.I (no s h42), f1.J (no s h42)]; exact a9 s (by omega) h42
theorem mvI {a k : Nat} (h : Mv M0 t M n) (hn : n < 42) (es : sa n = (a, k)) (nj : ¬ isJ n) (hQ : ∀ r M1, MdOK M1 → (∀ M2, M2 = uI M1 a k r → Mv M0 t M2 (n + 1)) → Q r M1) : wp_X13_move 87 (mI M a k) M Q := by
  have h9 := h.2.2.2.2.2.2.2.2 n (Nat.le_refl _) hn
  have h6 := h.2.2.2.2.2.1 n (Nat.le_refl _)
  have e1 : (sa n).1 = a := by rw [es]
  have e2 : (sa n).2 = k := by rw [es]
  have ev : (if t = true then (mI M a k).toInt64 else mJ M 112 n) = RV M0 t n := by
    unfold RV
    rw [if_neg nj, e1, e2, h6]
    rw [e1, e2] at h9
    rw [h9.1]
  refine ⟨h.1.1, S_R_moveLong h.1 h.2.1 hn h.2.2.1 (fun M1 f1 e47 e112 => ?_)⟩
  rw [ev] at e112 ⊢
  refine hQ _ M1 (h.1.fg f1) (fun M2 em => mv_after hn h f1 e47 e112 ?_ (fun _ => ?_) (fun z => absurd z nj))
  · rw [em, e1, e2]; exact Fg.pI ⟨rfl, rfl⟩
  · rw [em, e1, e2, mI_uI, if_pos rfl, if_pos rfl]
theorem mvJ {a k : Nat} (h : Mv M0 t M n) (hn : n < 42) (es : sa n = (a, k)) (hj : isJ n) (hQ : ∀ r M1, MdOK M1 → (∀ M2, M2 = uJ M1 a k r → Mv M0 t M2 (n + 1)) → QJ0 r M1) : wp_X13_moveLong 87 (mJ M a k) M QJ0 := by
  have h9 := h.2.2.2.2.2.2.2.2 n (Nat.le_refl _) hn
  have h6 := h.2.2.2.2.2.1 n (Nat.le_refl _)
  have e1 : (sa n).1 = a := by rw [es]
  have e2 : (sa n).2 = k := by rw [es]
  have ev : (if t = true then mJ M a k else mJ M 112 n) = RV M0 t n := by
    unfold RV
    rw [if_pos hj, e1, e2, h6]
    rw [e1, e2] at h9
    rw [h9.2]
  refine S_R_moveLong h.1 h.2.1 hn h.2.2.1 (fun M1 f1 e47 e112 => ?_)
  rw [ev] at e112 ⊢
  refine hQ _ M1 (h.1.fg f1) (fun M2 em => mv_after hn h f1 e47 e112 ?_ (fun z => absurd hj z) (fun _ => ?_))
  · rw [em, e1, e2]; exact Fg.pJ ⟨rfl, rfl⟩
  · rw [em, e1, e2, mJ_uJ, if_pos rfl, if_pos rfl]
theorem sa6 {i j : Nat} (hj : j < 6) : sa (6 * i + 6 + j) = (if j = 0 then 88 else if j = 1 then 89 else if j = 2 then 93 else if j = 3 then 90 else if j = 4 then 91 else 92, i) := by
  unfold sa
  have e1 : (6 * i + 6 + j - 6) % 6 = j := by omega
  have e2 : (6 * i + 6 + j - 6) / 6 = i := by omega
  rw [if_neg (by omega), e1, e2]
theorem S_R_moveAll (hm : MdOK M0) (h48 : mI M0 87 48 = bI t) (hQ : ∀ M', Mv M0 t M' 42 → QV0 M') : wp_X13_moveAll 87 M0 QV0 := by
  refine ⟨hm.1, fun M1 e1 => ?_⟩
  have v0 : Mv M0 t M1 0 := by
    have f1 : Fg (fun a k => a = 87 ∧ k = 47) M0 M1 := by rw [e1]; exact Fg.pI ⟨rfl, rfl⟩
    refine ⟨hm.fg f1, by rw [e1, mI_uI, if_pos rfl, if_pos rfl]; rfl, by rw [f1.I (by omega)]; exact h48, f1.mono (fun a k q => by simp only [mvC]; omega), fun s hs => absurd hs (by omega), fun s _ => f1.J (by omega), fun s hs => absurd hs (by omega), fun s hs => absurd hs (by omega), fun s _ h42 => ?_⟩
    have := sa_rng s h42
    exact ⟨f1.I (by omega), f1.J (by omega)⟩
  refine mvI (n := 0) v0 (by omega) rfl (by decide) (fun r Ma ma n1 => ⟨ma.1, fun M7 e7 => ?_⟩)
  refine mvI (n := 1) (n1 M7 e7) (by omega) rfl (by decide) (fun r Mb mb n2 => ⟨mb.1, fun M13 e13 => ?_⟩)
  refine mvI (n := 2) (n2 M13 e13) (by omega) rfl (by decide) (fun r Mc mc n3 => ⟨mc.1, fun M19 e19 => ?_⟩)
  refine mvI (n := 3) (n3 M19 e19) (by omega) rfl (by decide) (fun r Md md n4 => ⟨md.1, fun M25 e25 => ?_⟩)
  refine mvI (n := 4) (n4 M25 e25) (by omega) rfl (by decide) (fun r Me me n5 => ⟨me.1, fun M31 e31 => ?_⟩)
  refine mvI (n := 5) (n5 M31 e31) (by omega) rfl (by decide) (fun r Mf mf n6 => ⟨mf.1, fun M37 e37 => ?_⟩)
  have v6 := n6 M37 e37
  refine for_up (fun m i => ∀ M, Mv M0 t M (6 * i + 6) → lp_X13_moveAll_79 QV0 m 87 (nI i) M) 6 (fun m M v => ?_) (fun m i hi ih M v => ?_) |> fun ⟨m, hx⟩ => ⟨m, hx M37 v6⟩
  · unfold lp_X13_moveAll_79
    exact ⟨fun _ => hQ M v, fun z => absurd (nI_le (a := 6) (b := 6) (Nat.le_refl _) (by omega)) z⟩
  · have hin : vp_in (nI i) 6 := vp_in_nI hi (by omega)
    have hm := v.1
    unfold lp_X13_moveAll_79
    refine ⟨fun z => absurd z (nI_ge (b := 6) hi (by omega)), fun _ => ?_⟩
    rw [hm.r1, hm.n1, nI_clamp (by omega)]
    refine ⟨hm.1, hm.k1, hin, mvI v (by omega) (sa6 (j := 0) (by omega)) (by simp only [isJ]; omega) (fun r Ma ma n1 => ?_)⟩
    rw [ma.n1]
    refine ⟨ma.k1, hin, fun M47 e47 => ?_⟩
    have v1 := n1 M47 e47
    have m1 := v1.1
    rw [m1.r2, m1.n2]
    refine ⟨m1.1, m1.k2, hin, mvI v1 (by omega) (sa6 (j := 1) (by omega)) (by simp only [isJ]; omega) (fun r Mb mb n2 => ?_)⟩
    rw [mb.n2]
    refine ⟨mb.k2, hin, fun M53 e53 => ?_⟩
    have v2 := n2 M53 e53
    have m2 := v2.1
    rw [m2.r10, m2.n10]
    refine ⟨m2.1, m2.k10, hin, mvJ v2 (by omega) (sa6 (j := 2) (by omega)) (by simp only [isJ]; omega) (fun r Mc mc n3 => ?_)⟩
    rw [mc.n10]
    refine ⟨mc.k10, hin, fun M59 e59 => ?_⟩
    have v3 := n3 M59 e59
    have m3 := v3.1
    rw [m3.r4, m3.n4]
    refine ⟨m3.1, m3.k4, hin, mvI v3 (by omega) (sa6 (j := 3) (by omega)) (by simp only [isJ]; omega) (fun r Md md n4 => ?_)⟩
    rw [md.n4]
    refine ⟨md.k4, hin, fun M65 e65 => ?_⟩
    have v4 := n4 M65 e65
    have m4 := v4.1
    rw [m4.r5, m4.n5]
    refine ⟨m4.1, m4.k5, hin, mvI v4 (by omega) (sa6 (j := 4) (by omega)) (by simp only [isJ]; omega) (fun r Me me n5 => ?_)⟩
    rw [me.n5]
    refine ⟨me.k5, hin, fun M71 e71 => ?_⟩
    have v5 := n5 M71 e71
    have m5 := v5.1
    rw [m5.r6, m5.n6]
    refine ⟨m5.1, m5.k6, hin, mvI v5 (by omega) (sa6 (j := 5) (by omega)) (by simp only [isJ]; omega) (fun r Mf mf n6 => ?_)⟩
    rw [mf.n6]
    refine ⟨mf.k6, hin, fun M77 e77 => ?_⟩
    rw [nI_1]
    exact ih M77 (n6 M77 e77)
/-- what stands where after all moves -/
theorem mv_at {i j : Nat} (h : Mv M0 t M 42) (hi : i < 6) (hj : j < 6) (nj : j ≠ 2) : mI M (if j = 0 then 88 else if j = 1 then 89 else if j = 2 then 93 else if j = 3 then 90 else if j = 4 then 91 else 92) i = (RV M0 t (6 * i + 6 + j)).toInt32 := by
  have q := h.2.2.2.2.2.2.1 (6 * i + 6 + j) (by omega) (by simp only [isJ]; omega)
  rw [sa6 hj] at q
  exact q
theorem mv_atJ {i : Nat} (h : Mv M0 t M 42) (hi : i < 6) : mJ M 93 i = RV M0 t (6 * i + 8) := by
  have q := h.2.2.2.2.2.2.2.1 (6 * i + 6 + 2) (by omega) (by simp only [isJ]; omega)
  rw [sa6 (by omega)] at q
  exact q
/-- a street, a thought come out of the slots -/
theorem mv_st {w : Nat → Nat} {h : Int} (v : Mv M0 t M 42) (hw : sWF σ) (e0 : RV M0 t 0 = lN (sN σ)) (e1 : RV M0 t 1 = lN (sS σ)) (e2 : RV M0 t 2 = lN (sMo σ)) (e3 : RV M0 t 3 = lN (sCo σ)) (e4 : RV M0 t 4 = lN (sHo σ)) (e5 : RV M0 t 5 = jI h) (hh : -20 ≤ h ∧ h ≤ 20)
    (ei : ∀ i, i < sN σ → RV M0 t (6 * i + 6) = lN (sCh σ i) ∧ RV M0 t (6 * i + 7) = lN (sVa σ i) ∧ RV M0 t (6 * i + 8) = lN (w i) ∧ w i ≤ 100000000000) (ej : ∀ j, j < sS σ → RV M0 t (6 * j + 9) = lN (sKd σ j) ∧ RV M0 t (6 * j + 10) = lN (sPt σ j) ∧ RV M0 t (6 * j + 11) = lN (sLi σ j)) : RS M σ ∧ RTh M (sN σ) w h ∧ RIm M σ w h := by
  have w1 := hw.1
  have w2 := hw.2.2.1
  have im : ∀ s, s < 42 → mJ M 112 s = RV M0 t s := v.2.2.2.2.1
  have sc : ∀ s, s < 6 → mI M (sa s).1 (sa s).2 = (RV M0 t s).toInt32 := fun s hs => v.2.2.2.2.2.2.1 s (by omega) (by simp only [isJ]; omega)
  refine ⟨⟨hw, ⟨?_, ?_, ?_, ?_, ?_⟩, fun i hi => ⟨?_, ?_⟩, fun j hj => ⟨?_, ?_, ?_⟩⟩, ⟨?_, hh, fun i hi => ⟨(ei i hi).2.2.2, ?_⟩⟩, hw, ⟨?_, ?_, ?_, ?_, ?_, ?_⟩, hh, fun i hi => ⟨?_, ?_, ?_, (ei i hi).2.2.2⟩, fun j hj => ⟨?_, ?_, ?_⟩⟩
  · have q := sc 0 (by omega); rw [e0, lN_i] at q; exact q
  · have q := sc 1 (by omega); rw [e1, lN_i] at q; exact q
  · have q := sc 2 (by omega); rw [e2, lN_i] at q; exact q
  · have q := sc 3 (by omega); rw [e3, lN_i] at q; exact q
  · have q := sc 4 (by omega); rw [e4, lN_i] at q; exact q
  · have q := mv_at (j := 0) v (show i < 6 by omega) (by omega) (by omega); rw [(ei i hi).1, lN_i] at q; exact q
  · have q := mv_at (j := 1) v (show i < 6 by omega) (by omega) (by omega); rw [(ei i hi).2.1, lN_i] at q; exact q
  · have q := mv_at (j := 3) v (show j < 6 by omega) (by omega) (by omega); rw [(ej j hj).1, lN_i] at q; exact q
  · have q := mv_at (j := 4) v (show j < 6 by omega) (by omega) (by omega); rw [(ej j hj).2.1, lN_i] at q; exact q
  · have q := mv_at (j := 5) v (show j < 6 by omega) (by omega) (by omega); rw [(ej j hj).2.2, lN_i] at q; exact q
  · have q := sc 5 (by omega); rw [e5, jI_iI] at q; exact q
  · rw [mv_atJ v (by omega)]; exact (ei i hi).2.2.1
  · rw [im _ (by omega)]; exact e0
  · rw [im _ (by omega)]; exact e1
  · rw [im _ (by omega)]; exact e2
  · rw [im _ (by omega)]; exact e3
  · rw [im _ (by omega)]; exact e4
  · rw [im _ (by omega)]; exact e5
  · rw [im _ (by omega)]; exact (ei i hi).1
  · rw [im _ (by omega)]; exact (ei i hi).2.1
  · rw [im _ (by omega)]; exact (ei i hi).2.2.1
  · rw [im _ (by omega)]; exact (ej j hj).1
  · rw [im _ (by omega)]; exact (ej j hj).2.1
  · rw [im _ (by omega)]; exact (ej j hj).2.2
theorem RV_I {s : Nat} {x : Nat} (hs : ¬ isJ s) (hx : x < 2 ^ 31) (e : mI M0 (sa s).1 (sa s).2 = nI x) : RV M0 true s = lN x := by
  unfold RV
  rw [if_pos rfl, if_neg hs, e, nI_l hx]
theorem RV_i {i j : Nat} {x : Nat} (hj : j < 6) (nj : j ≠ 2) (hx : x < 2 ^ 31) (e : mI M0 (if j = 0 then 88 else if j = 1 then 89 else if j = 2 then 93 else if j = 3 then 90 else if j = 4 then 91 else 92) i = nI x) : RV M0 true (6 * i + 6 + j) = lN x := by
  refine RV_I (by simp only [isJ]; omega) hx ?_
  rw [sa6 hj]; exact e
theorem S_X13_image (h : AbsR M c) (hQ : ∀ M', Fg mdC8 M M' → AbsR M' (setI c) → Q (nI (sN (cS c))) M') : wp_X13_image 87 M Q := by
  refine th0 h (fun M1 h1 f1 z1 M4 e4 M7 e7 => ?_)
  have f7 : Fg (fun a k => a = 87 ∧ (k = 45 ∨ k = 48)) M1 M7 := by rw [e7, e4]; exact (Fg.pI ⟨rfl, Or.inl rfl⟩).sI ⟨rfl, Or.inr rfl⟩
  have m7 := h1.1.fg f7
  have r7 := h1.2.1.fg f7 (fun a k q => by simp only [stC]; omega)
  have t7 := h1.2.2.1.fg f7 (by omega) (fun k => by omega)
  have v45 : mI M7 87 45 = 1 := by rw [e7, mI_uI, if_pos rfl, if_neg (by decide), e4, mI_uI, if_pos rfl, if_pos rfl]
  refine S_R_moveAll (t := true) m7 (by rw [e7, mI_uI, if_pos rfl, if_pos rfl]; rfl) (fun M8 v => ?_)
  obtain ⟨w1, w2, w3, w4, w5, w6, w7, w8, w9, w10⟩ := r7.1
  obtain ⟨b1, b2, b3, b4, b5⟩ := r7.2.1
  obtain ⟨x1, x2, x3⟩ := mv_st (w := cW c) (h := cH c) v r7.1 (RV_I (by decide) (by omega) b1) (RV_I (by decide) (by omega) b2) (RV_I (by decide) (by omega) b3) (RV_I (by decide) (by omega) b4) (RV_I (by decide) (by omega) b5)
    (by
      have t1 := t7.2.1
      unfold RV
      rw [if_pos rfl, if_neg (by decide), show mI M7 (sa 5).1 (sa 5).2 = mI M7 87 11 from rfl, t7.1, iI_jI (by omega) (by omega)]) t7.2.1
    (fun i hi => by
      have := w2 i hi
      refine ⟨RV_i (j := 0) (by omega) (by omega) (by omega) (r7.2.2.1 i hi).1, RV_i (j := 1) (by omega) (by omega) (by omega) (r7.2.2.1 i hi).2, ?_, (t7.2.2 i hi).1⟩
      unfold RV
      rw [if_pos rfl, if_pos (by simp only [isJ]; omega), show 6 * i + 8 = 6 * i + 6 + 2 from rfl, sa6 (by omega)]
      exact (t7.2.2 i hi).2)
    (fun j hj => by
      have := w4 j hj
      exact ⟨RV_i (j := 3) (by omega) (by omega) (by omega) (r7.2.2.2 j hj).1, RV_i (j := 4) (by omega) (by omega) (by omega) (r7.2.2.2 j hj).2.1, RV_i (j := 5) (by omega) (by omega) (by omega) (r7.2.2.2 j hj).2.2⟩)
  have f8 := v.2.2.2.1
  have h8 : AbsR M8 (setI c) := by
    refine ⟨v.1, x1, x2, ?_, fun _ => x3, fun d hd => ((h1.2.2.2.2.2 d hd).fg f7 (fun a k q => by omega)).fg f8 (fun a k q => by simp only [mvC] at q; omega)⟩
    rw [f8.I (by simp only [mvC]; omega), v45]; rfl
  refine ⟨v.1.1, ?_⟩
  rw [x1.2.1.1]
  exact hQ M8 ((f1.t2 (f7.m8 (fun a k q => by omega))).t2 (f8.m8 (fun a k q => by simp only [mvC] at q; omega))) h8
theorem S_X13_restore (h : AbsR M c) (hQ : ∀ M', Fg mdC8 M M' → AbsR M' (rstC c) → Q (aRestore c) M') : wp_X13_restore 87 M Q := by
  unfold rstC aRestore at hQ
  refine th0 h (fun M1 h1 f1 z1 => ?_)
  rw [h1.2.2.2.1]
  refine ⟨fun z M8 e8 => ?_, fun z => ?_⟩
  · have ty : cI c = true := by cases e : cI c; (rw [e] at z; exact absurd rfl z); rfl
    rw [if_pos ty, if_pos ty] at hQ
    obtain ⟨g1, ⟨g2, g3, g4, g5, g6, g7⟩, g8, g9, g10⟩ := h1.2.2.2.2.1 ty
    have f8 : Fg (fun a k => a = 87 ∧ k = 48) M1 M8 := by rw [e8]; exact Fg.pI ⟨rfl, rfl⟩
    refine S_R_moveAll (t := false) (h1.1.fg f8) (by rw [e8, mI_uI, if_pos rfl, if_pos rfl]; rfl) (fun M9 v => ?_)
    have rv : ∀ s, RV M8 false s = mJ M1 112 s := fun s => by
      unfold RV
      rw [if_neg (by decide), f8.J (by omega)]
    obtain ⟨x1, x2, x3⟩ := mv_st (w := cW2 c) (h := cH2 c) v g1 ((rv 0).trans g2) ((rv 1).trans g3) ((rv 2).trans g4) ((rv 3).trans g5) ((rv 4).trans g6) ((rv 5).trans g7) g8
      (fun i hi => ⟨(rv _).trans (g9 i hi).1, (rv _).trans (g9 i hi).2.1, (rv _).trans (g9 i hi).2.2.1, (g9 i hi).2.2.2⟩)
      (fun j hj => ⟨(rv _).trans (g10 j hj).1, (rv _).trans (g10 j hj).2.1, (rv _).trans (g10 j hj).2.2⟩)
    have f9 := v.2.2.2.1
    have h9 : AbsR M9 (cS2 c, cW2 c, cH2 c, cI c, cS2 c, cW2 c, cH2 c, cG c) := by
      refine ⟨v.1, x1, x2, ?_, fun _ => x3, fun d hd => ((h1.2.2.2.2.2 d hd).fg f8 (fun a k q => by omega)).fg f9 (fun a k q => by simp only [mvC] at q; omega)⟩
      rw [f9.I (by simp only [mvC]; omega), f8.I (by omega)]; exact h1.2.2.2.1
    refine ⟨v.1.1, ?_⟩
    rw [x1.2.1.1]
    exact hQ M9 ((f1.t2 (f8.m8 (fun a k q => by omega))).t2 (f9.m8 (fun a k q => by simp only [mvC] at q; omega))) h9
  · have tn : ¬ cI c = true := bI_0.mp z
    rw [if_neg tn, if_neg tn] at hQ
    exact hQ M1 f1 h1
end REF
