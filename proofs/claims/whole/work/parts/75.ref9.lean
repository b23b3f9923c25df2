/-! THE REFERENCE: a step into the next hour; all days -/
def goT (lf : Int → (Nat → Nat) → Int → Bool → Int) (σ : StT) (k f r : Nat) (w : Nat → Nat) (h : Int) (p : Nat → Nat) (g : Int) (st : Bool) (ev : Nat) : Int := if 0 < sumN (flw σ w h ev (bidW σ w h k f) (askW σ w h k f)) (sN σ) then goX lf σ k f r (stl (sN σ) (flw σ w h ev (bidW σ w h k f) (askW σ w h k f))) (hA ev h) (fun i => p i * odds σ h ev i (bidW σ w h k f) (askW σ w h k f)) (g + tkI ev (bidW σ w h k f) (askW σ w h k f) - (sCo σ * (hA ev h).natAbs : Nat)) (st || decide ((hA ev h).natAbs = sMo σ)) else 0
theorem goX_T {lf : Int → (Nat → Nat) → Int → Bool → Int} {σ : StT} {k f r : Nat} {w : Nat → Nat} {h : Int} {p : Nat → Nat} {g : Int} {st : Bool} : goX lf σ k f (r + 1) w h p g st = sumZ (goT lf σ k f r w h p g st) 3 := rfl
abbrev seC (h a k : Nat) : Prop := a = 99 ∨ ((a = 100 ∨ a = 101) ∧ 6 * h + 6 ≤ k) ∨ ((a = 102 ∨ a = 103 ∨ a = 107) ∧ k = h + 1)
section REF
variable {M : Mem} {σ : StT} {c : CT} {w p : Nat → Nat} {hh g : Int} {st : Bool} {h : Nat} {Q : Int32 → Mem → Prop} {QJ0 : Int64 → Mem → Prop} {QV0 : Mem → Prop}
theorem S_R_stepTo {ev b a : Nat} (hm : MdOK M) (hr : RS M σ) (h6 : h ≤ 5) (l : Lv M (sN σ) h w p hh g st) (eb : mI M 105 h = nI b) (ea : mI M 106 h = nI a) (hba : b < a) (ha : a ≤ 100) (hw : ∀ i, i < sN σ → w i ≤ 100000000000) (hr2 : -20 ≤ hh ∧ hh ≤ 20) (hev : ev ≤ 2)
    (hY : 0 < sumN (flw σ w hh ev b a) (sN σ) → ∀ M', Fg (seC h) M M' → Lv M' (sN σ) (h + 1) (stl (sN σ) (flw σ w hh ev b a)) (fun i => p i * odds σ hh ev i b a) (hA ev hh) (g + tkI ev b a - (sCo σ * (hA ev hh).natAbs : Nat)) (st || decide ((hA ev hh).natAbs = sMo σ)) → Q 1 M')
    (hN : ¬ 0 < sumN (flw σ w hh ev b a) (sN σ) → ∀ M', Fg miC M M' → Q 0 M') : wp_X13_stepTo 87 (nI h) (nI ev) M Q := by
  have w1 := hr.1.1
  have hin : vp_in (nI h) 7 := vp_in_nI (by omega) (by omega)
  have hin1 : vp_in (nI (h + 1)) 7 := vp_in_nI (by omega) (by omega)
  have wmo := hr.1.2.2.2.2.2.2.1
  refine ⟨hm.1, S_R_mindFrom hm hr (by omega) l.1 (fun M2 f2 i2 => ?_)⟩
  have m2 := hm.fg f2
  have r2 := hr.fg f2 (fun a k q => mi_st q)
  have l2 : Lv M2 (sN σ) h w p hh g st := l.fg w1 f2 (fun a k q => by simp only [miC] at q; simp only [gC]; omega)
  have eb2 : mI M2 105 h = nI b := by rw [f2.I (by simp only [miC]; omega)]; exact eb
  have ea2 : mI M2 106 h = nI a := by rw [f2.I (by simp only [miC]; omega)]; exact ea
  rw [m2.r32, m2.n32, m2.r33, m2.n33, m2.r29, m2.n29, nI_clamp (by omega), eb2, ea2, l2.2.2.1]
  refine ⟨m2.1, m2.k32, hin, m2.k33, hin, m2.k29, hin, S_R_goesOn m2 r2 i2 hw hev hba ha hr2 (fun hp M4 f4 i4 => ⟨fun _ => ?_, fun z => absurd z (by decide)⟩) (fun hp M4 f4 => ⟨fun z => absurd rfl z, fun _ => hN hp M4 (f2.t2 f4)⟩)⟩
  have m4 := m2.fg f4
  have f24 : Fg miC M M4 := f2.t2 f4
  have l4 : Lv M4 (sN σ) h w p hh g st := l2.fg w1 f4 (fun a k q => by simp only [miC] at q; simp only [gC]; omega)
  have eb4 : mI M4 105 h = nI b := by rw [f4.I (by simp only [miC]; omega)]; exact eb2
  have ea4 : mI M4 106 h = nI a := by rw [f4.I (by simp only [miC]; omega)]; exact ea2
  have hr3 := hA_rng hr.1 hr2 hp
  have hY := hY hp
  rw [m4.r29, m4.n29, l4.2.2.1]
  refine ⟨m4.1, m4.k29, hin, S_R_heldBy hev ?_⟩
  generalize stl (sN σ) (flw σ w hh ev b a) = v at *
  have r4 := r2.fg f4 (fun a k q => mi_st q)
  refine for_up (fun m i => ∀ M', Fg (fun a k => (a = 100 ∨ a = 101) ∧ 6 * h + 6 ≤ k) M4 M' → (∀ j, j < i → mJ M' 100 (6 * h + 6 + j) = lN (v j)) → (∀ j, j < i → mJ M' 101 (6 * h + 6 + j) = lN (p j * odds σ hh ev j b a)) → lp_X13_stepTo_47 Q m 87 (nI h) (nI ev) (iI (hA ev hh)) (nI i) M') (sN σ) (fun m M' f hz hz2 => ?_) (fun m i hi ih M' f hz hz2 => ?_) |> fun ⟨m, hx⟩ => ⟨m, hx M4 Fg.rf (fun j hj => absurd hj (by omega)) (fun j hj => absurd hj (by omega))⟩
  · have r5 := r4.fg f (fun a k q => by simp only [stC]; omega)
    have m5 := m4.fg f
    have l5 : Lv M' (sN σ) h w p hh g st := l4.fg w1 f (fun a k q => by simp only [gC]; omega)
    have eb5 : mI M' 105 h = nI b := by rw [f.I (by omega)]; exact eb4
    have ea5 : mI M' 106 h = nI a := by rw [f.I (by omega)]; exact ea4
    unfold lp_X13_stepTo_47
    refine ⟨m5.1, fun _ => ?_, fun hn => absurd (by rw [r5.2.1.1]; exact nI_le (Nat.le_refl _) (by omega)) hn⟩
    rw [m5.r29, m5.n29, nI_1, nI_clamp (by omega)]
    refine ⟨m5.k29, hin1, fun M17 e17 => ?_⟩
    have m17 : MdOK M17 := by rw [e17]; exact m5
    have r17 : RS M17 σ := r5.fg (P := fun a k => a = 102) (by rw [e17]; exact Fg.pI rfl) (fun a k q => by simp only [stC]; omega)
    have g17 : mI M17 103 h = iI g := by rw [e17, mI_uI, if_neg (by decide)]; exact l5.2.2.2.1
    have b17 : mI M17 105 h = nI b := by rw [e17, mI_uI, if_neg (by decide)]; exact eb5
    have a17 : mI M17 106 h = nI a := by rw [e17, mI_uI, if_neg (by decide)]; exact ea5
    have s17 : mI M17 107 h = bI st := by rw [e17, mI_uI, if_neg (by decide)]; exact l5.2.2.2.2
    rw [m17.r30, m17.n30, nI_clamp (by omega), g17]
    have e1 : nI ev = (1 : Int32) ↔ ev = 1 := nI_eq (b := 1) (by omega) (by omega)
    have e2 : nI ev = (2 : Int32) ↔ ev = 2 := nI_eq (b := 2) (by omega) (by omega)
    -- the end of a step, what is taken being known
    have fin : ∀ t : Int, t = tkI ev b a → jn_X13_stepTo_190 Q 87 (nI h) (iI (hA ev hh)) (iI t) (iI g) (nI (h + 1)) 103 M17 := by
      intro t et
      have nb : ∀ x : Int, x = ((hA ev hh).natAbs : Int) → jn_X13_stepTo_205 Q 87 (nI h) (iI (hA ev hh)) (iI x) (mI M17 87 8) (iI g + iI t) (nI (h + 1)) 103 M17 := by
        intro x ex
        have eg : iI g + iI t - nI (sCo σ) * iI x = iI (g + tkI ev b a - (sCo σ * (hA ev hh).natAbs : Nat)) := by
          rw [iI_add, nI_iI, iI_mul, iI_sub, et, ex]
          congr 1
        unfold jn_X13_stepTo_205
        rw [r17.2.1.2.2.2.1, eg, m17.n30, nI_clamp (by omega)]
        refine ⟨m17.k30, hin1, fun M32 e32 => ?_⟩
        have m32 : MdOK M32 := by rw [e32]; exact m17
        have s32 : mI M32 107 h = bI st := by rw [e32, mI_uI, if_neg (by decide)]; exact s17
        have mo32 : mI M32 87 7 = nI (sMo σ) := by rw [e32, mI_uI, if_neg (by decide)]; exact r17.2.1.2.2.1
        rw [m32.r34, m32.n34, nI_clamp (by omega), nI_1, nI_clamp (by omega), s32, mo32]
        have c1 : iI (hA ev hh) = nI (sMo σ) ↔ hA ev hh = sMo σ := by rw [nI_iI]; exact iI_eq (by omega) (by omega)
        have c2 : iI (hA ev hh) = -nI (sMo σ) ↔ hA ev hh = -(sMo σ : Int) := by rw [nI_iI, iI_neg]; exact iI_eq (by omega) (by omega)
        have last : ∀ (s2 : Bool) (M9 : Mem), s2 = (st || decide ((hA ev hh).natAbs = sMo σ)) → M9 = uI M32 107 (h + 1) (bI s2) → Q 1 M9 := by
          intro s2 M9 es e9
          refine hY M9 ?_ ⟨fun i hi => ?_, fun i hi => ?_, ?_, ?_, ?_⟩
          · rw [e9, e32, e17]
            exact ((((f24.mono (fun a k q => Or.inl q)).t2 (f.mono (fun a k q => Or.inr (Or.inl q)))).sI (Or.inr (Or.inr ⟨by omega, rfl⟩))).sI (Or.inr (Or.inr ⟨by omega, rfl⟩))).sI (Or.inr (Or.inr ⟨by omega, rfl⟩))
          · rw [e9, mJ_uI, e32, mJ_uI, e17, mJ_uI, show 6 * (h + 1) + i = 6 * h + 6 + i by omega]; exact hz i hi
          · rw [e9, mJ_uI, e32, mJ_uI, e17, mJ_uI, show 6 * (h + 1) + i = 6 * h + 6 + i by omega]; exact hz2 i hi
          · rw [e9, mI_uI, if_neg (by decide), e32, mI_uI, if_neg (by decide), e17, mI_uI, if_pos rfl, if_pos rfl]
          · rw [e9, mI_uI, if_neg (by decide), e32, mI_uI, if_pos rfl, if_pos rfl]
          · rw [e9, mI_uI, if_pos rfl, if_pos rfl, es]
        refine ⟨m32.1, m32.k34, hin, fun z => ⟨hin1, fun M9 e9 => last true M9 ?_ e9⟩, fun z => ⟨fun y => ⟨hin1, fun M9 e9 => last true M9 ?_ e9⟩, fun y => ⟨fun y2 => ⟨hin1, fun M9 e9 => last false M9 ?_ e9⟩, fun y2 => ⟨hin1, fun M9 e9 => last true M9 ?_ e9⟩⟩⟩⟩
        · have ys : st = true := by cases st; (exact absurd rfl z); rfl
          rw [ys]; rfl
        · have y := c1.mp y
          rw [decide_eq_true (show (hA ev hh).natAbs = sMo σ by omega)]; cases st <;> rfl
        · have y := mt c1.mpr y
          have y2 := mt c2.mpr y2
          have z := bI_0.mp z
          rw [decide_eq_false (show ¬ (hA ev hh).natAbs = sMo σ by omega)]
          cases st
          · rfl
          · exact absurd rfl z
        · have y2 := c2.mp y2
          rw [decide_eq_true (show (hA ev hh).natAbs = sMo σ by omega)]; cases st <;> rfl
      have c0 : (0 : Int32) ≤ iI (hA ev hh) ↔ 0 ≤ hA ev hh := iI_le (a := 0) (by omega) (by omega)
      refine ⟨m17.1, fun z => nb _ (by have := c0.mp z; omega), fun z => ?_⟩
      rw [iI_neg]
      exact nb _ (by have := mt c0.mpr z; omega)
    refine ⟨m17.k30, hin, fun z => ⟨fun y => fin 0 ?_, fun y => ?_⟩, fun z => ?_⟩
    · unfold tkI; rw [if_neg (mt e1.mpr z), if_neg (mt e2.mpr y)]
    · rw [m17.r32, m17.n32, b17, nI_iI b, iI_neg]
      exact ⟨m17.k32, hin, fin _ (by unfold tkI; rw [if_neg (mt e1.mpr z), if_pos (e2.mp y)])⟩
    · rw [m17.r33, m17.n33, a17, nI_iI a]
      exact ⟨m17.k33, hin, fin _ (by unfold tkI; rw [if_pos (e1.mp z)])⟩
  · have r5 := r4.fg f (fun a k q => by simp only [stC]; omega)
    have m5 := m4.fg f
    have l5 : Lv M' (sN σ) h w p hh g st := l4.fg w1 f (fun a k q => by simp only [gC]; omega)
    have eb5 : mI M' 105 h = nI b := by rw [f.I (by omega)]; exact eb4
    have ea5 : mI M' 106 h = nI a := by rw [f.I (by omega)]; exact ea4
    have i5 : mJ M' 99 i = lN (v i) := by rw [f.J (by omega)]; exact i4 i hi
    unfold lp_X13_stepTo_47
    refine ⟨m5.1, fun hle => absurd (by rw [r5.2.1.1] at hle; exact hle) (nI_ge hi (by omega)), fun _ => ?_⟩
    rw [m5.r23, m5.n23, m5.r27, m5.n27, at66, nI_clamp (by omega), nI_clamp (by omega), i5]
    refine ⟨m5.k23, vp_in_nI (by omega) (by omega), m5.k27, vp_in_nI (by omega) (by omega), fun M6 e6 => ?_⟩
    have f6 : Fg (fun a k => (a = 100 ∨ a = 101) ∧ 6 * h + 6 ≤ k) M4 M6 := by rw [e6]; exact f.sJ ⟨Or.inl rfl, by omega⟩
    have m6 := m4.fg f6
    have r6 := r4.fg f6 (fun a k q => by simp only [stC]; omega)
    have l6 : Lv M6 (sN σ) h w p hh g st := l4.fg w1 f6 (fun a k q => by simp only [gC]; omega)
    have eb6 : mI M6 105 h = nI b := by rw [f6.I (by omega)]; exact eb4
    have ea6 : mI M6 106 h = nI a := by rw [f6.I (by omega)]; exact ea4
    rw [m6.r28, m6.n28, m6.r32, m6.n32, m6.r33, m6.n33, m6.r29, m6.n29, at6, nI_clamp (by omega), nI_clamp (by omega), eb6, ea6, l6.2.2.1, l6.2.1 i hi]
    refine ⟨m6.k28, vp_in_nI (by omega) (by omega), m6.k32, hin, m6.k33, hin, m6.k29, hin, S_R_hun m6 r6 hev hi (by omega) ha (by omega) ?_⟩
    rw [← odds_hun hr.1 hev hba, m6.n28]
    have lo := odds_le hr.1 (h := hh) (ev := ev) (i := i) (bid := b) (ask := a)
    refine ⟨m6.k28, vp_in_nI (by omega) (by omega), fun M7 e7 => ?_⟩
    rw [nI_l (by omega), lN_mul] at e7
    rw [nI_1]
    refine ih M7 (by rw [e7]; exact f6.sJ ⟨Or.inr rfl, by omega⟩) (fun j hj => ?_) (fun j hj => ?_)
    · rw [e7, mJ_uJ, if_neg (by decide), e6, mJ_uJ, if_pos rfl]
      by_cases q : j = i
      · rw [if_pos (by omega), q]
      · rw [if_neg (by omega)]; exact hz j (by omega)
    · rw [e7, mJ_uJ, if_pos rfl]
      by_cases q : j = i
      · rw [if_pos (by omega), q]
      · rw [if_neg (by omega), e6, mJ_uJ, if_neg (by decide)]; exact hz2 j (by omega)
/-- so many rounds the days that go on from an hour take -/
def cst : Nat → Nat
  | 0 => 0
  | r + 1 => 3 * (1 + cst r) + 1
abbrev gD (h a k : Nat) : Prop := (a = 87 ∧ (k = 24 ∨ k = 25 ∨ k = 35 ∨ k = 36)) ∨ a = 99 ∨ ((a = 100 ∨ a = 101) ∧ 6 * h + 6 ≤ k) ∨ ((a = 102 ∨ a = 103 ∨ a = 104 ∨ a = 105 ∨ a = 106 ∨ a = 107) ∧ h + 1 ≤ k)
theorem gD_C {h a k : Nat} (q : gD h a k) : gC h a k := by simp only [gD] at q; simp only [gC]; omega
/-- a level stands, so many events of it gone -/
def Lw (M : Mem) (σ : StT) (k f h : Nat) (w p : Nat → Nat) (hh g : Int) (st : Bool) : Prop := MdOK M ∧ RS M σ ∧ mI M 87 26 = nI (mbc σ) ∧ Lv M (sN σ) h w p hh g st ∧ mI M 105 h = nI (bidW σ w hh k f) ∧ mI M 106 h = nI (askW σ w hh k f)
theorem Lw.fg {P : Nat → Nat → Prop} {M M' : Mem} {σ : StT} {k f h : Nat} {w p : Nat → Nat} {hh g : Int} {st : Bool} (l : Lw M σ k f h w p hh g st) (f0 : Fg P M M') (hP : ∀ a k, P a k → gC h a k) : Lw M' σ k f h w p hh g st := by
  obtain ⟨l1, l2, l3, l4, l5, l6⟩ := l
  have no : ∀ a k, ¬ gC h a k → ¬ P a k := fun a k q z => q (hP a k z)
  refine ⟨l1.fg f0, l2.fg f0 (fun a k q => gC_st (hP a k q)), ?_, l4.fg l2.1.1 f0 hP, ?_, ?_⟩
  · rw [f0.I (no 87 26 (by simp only [gC]; omega))]; exact l3
  · rw [f0.I (no 105 h (by simp only [gC]; omega))]; exact l5
  · rw [f0.I (no 106 h (by simp only [gC]; omega))]; exact l6
theorem flw_b {σ : StT} {w : Nat → Nat} {hh : Int} {ev b a : Nat} (hwf : sWF σ) (hw : ∀ i, i < sN σ → w i ≤ 100000000000) (hp : 0 < sumN (flw σ w hh ev b a) (sN σ)) : (∀ i, i < sN σ → stl (sN σ) (flw σ w hh ev b a) i ≤ 100000000000) ∧ 0 < sumN (stl (sN σ) (flw σ w hh ev b a)) (sN σ) := by
  refine ⟨stl_le (fun i hi => Nat.mul_le_mul (hw i hi) (odds_le hwf)), ?_⟩
  obtain ⟨i, hi, hx⟩ := (sumN_pos _).mp hp
  exact (sumN_pos _).mpr ⟨i, hi, stl_pos hi hx⟩
theorem tk_b {σ : StT} {ev b a : Nat} {x : Int} (hwf : sWF σ) (hb : b ≤ 100) (ha : a ≤ 100) (hx : -20 ≤ x ∧ x ≤ 20) : -300 ≤ tkI ev b a - (sCo σ * x.natAbs : Nat) ∧ tkI ev b a - (sCo σ * x.natAbs : Nat) ≤ 300 := by
  have wc := hwf.2.2.2.2.2.2.2.1
  have h1 : sCo σ * x.natAbs ≤ 9 * 20 := Nat.mul_le_mul wc (by omega)
  unfold tkI
  split
  · omega
  · split <;> omega
/-- what is left of a level after so many events -/
def LwQ (QV0 : Mem → Prop) (σ : StT) (k f r h e : Nat) (w p : Nat → Nat) (hh g : Int) (st : Bool) (A B : Int) (M : Mem) (N0 : Nat) : Prop := ∀ M', Fg (gC h) M M' → mJ M' 87 35 = jI (A + (sumZ (goT (lfM σ) σ k f r w hh p g st) 3 - sumZ (goT (lfM σ) σ k f r w hh p g st) e)) → mJ M' 87 36 = jI (B + (sumZ (goT (lfS σ) σ k f r w hh p g st) 3 - sumZ (goT (lfS σ) σ k f r w hh p g st) e)) → ∀ N, N0 ≤ N → lp_X13_goAll_86 QV0 N 87 (nI k) (nI f) (iI ((h : Int) - 1)) M'
theorem lv_step {k f r h N0 : Nat} (hk : k ≤ 5) (hf : f ≤ 49) (hlev : h + r + 1 ≤ 6) (hw : ∀ i, i < sN σ → w i ≤ 100000000000) (hr2 : -20 ≤ hh ∧ hh ≤ 20) (hg : -5000 + 400 * ((r : Int) + 1) ≤ g ∧ g ≤ 5000 - 400 * ((r : Int) + 1))
    (child : ∀ (v q : Nat → Nat) (h2 g2 : Int) (s2 : Bool) (A B : Int) (M1 : Mem) (N1 : Nat), MdOK M1 → RS M1 σ → mI M1 87 26 = nI (mbc σ) → Lv M1 (sN σ) (h + 1) v q h2 g2 s2 → (∀ i, i < sN σ → v i ≤ 100000000000) → 0 < sumN v (sN σ) → (-20 ≤ h2 ∧ h2 ≤ 20) → (-5000 + 400 * (r : Int) ≤ g2 ∧ g2 ≤ 5000 - 400 * (r : Int)) → mJ M1 87 35 = jI A → mJ M1 87 36 = jI B →
      (∀ M', Fg (gD h) M1 M' → mJ M' 87 35 = jI (A + goX (lfM σ) σ k f r v h2 q g2 s2) → mJ M' 87 36 = jI (B + goX (lfS σ) σ k f r v h2 q g2 s2) → ∀ N, N1 ≤ N → lp_X13_goAll_86 QV0 N 87 (nI k) (nI f) (nI h) M') → ∀ N, N1 + cst r ≤ N →
      (¬ nI (h + 1) = mI M1 87 9 → wp_X13_openHour 87 (nI (h + 1)) (nI k) (nI f) M1 (fun M47 => lp_X13_goAll_86 QV0 N 87 (nI k) (nI f) (nI (h + 1)) M47)) ∧ (nI (h + 1) = mI M1 87 9 → wp_X13_closeDay 87 (nI (h + 1)) M1 (fun M49 => lp_X13_goAll_86 QV0 N 87 (nI k) (nI f) (nI h) M49))) :
    ∀ (m e : Nat) (A B : Int) (M : Mem), e + m = 3 → Lw M σ k f h w p hh g st → mI M 104 h = iI ((e : Int) - 1) → mJ M 87 35 = jI A → mJ M 87 36 = jI B → LwQ QV0 σ k f r h e w p hh g st A B M N0 → ∀ N, N0 + m * (1 + cst r) + 1 ≤ N → lp_X13_goAll_86 QV0 N 87 (nI k) (nI f) (nI h) M := by
  intro m
  induction m with
  | zero =>
    intro e A B M he l e104 eA eB hQ N hN
    obtain ⟨n, rfl⟩ : ∃ n, N = n + 1 := ⟨N - 1, by omega⟩
    have he : e = 3 := by omega
    subst he
    have hin : vp_in (nI h) 7 := vp_in_nI (by omega) (by omega)
    have lm := l.1
    unfold lp_X13_goAll_86
    rw [lm.r31, lm.n31, nI_clamp (by omega), e104]
    refine ⟨fun z => absurd z (nI_pos (by omega)), fun _ => ⟨lm.1, lm.k31, hin, hin, fun M2 e2 => ?_⟩⟩
    have f2 : Fg (gC h) M M2 := by rw [e2]; exact Fg.pI (Or.inr (Or.inr (Or.inr (Or.inr ⟨rfl, Nat.le_refl _⟩))))
    have m2 := lm.fg f2
    have v : mI M2 104 h = 3 := by rw [e2, mI_uI, if_pos rfl, if_pos rfl]; rfl
    rw [m2.r31, m2.n31, v]
    refine ⟨m2.k31, hin, fun z => absurd rfl z, fun _ => ?_⟩
    have ex : nI h + (-1) = iI ((h : Int) - 1) := by rw [nI_iI, show (-1 : Int32) = iI (-1) from rfl, iI_add]; rfl
    rw [ex]
    refine hQ M2 f2 ?_ ?_ n (by omega)
    · rw [e2, mJ_uI, eA]; congr 1; omega
    · rw [e2, mJ_uI, eB]; congr 1; omega
  | succ m ih =>
    intro e A B M he l e104 eA eB hQ N hN
    obtain ⟨n, rfl⟩ : ∃ n, N = n + 1 := ⟨N - 1, by omega⟩
    rw [Nat.succ_mul] at hN
    have hin : vp_in (nI h) 7 := vp_in_nI (by omega) (by omega)
    have lm := l.1
    unfold lp_X13_goAll_86
    rw [lm.r31, lm.n31, nI_clamp (by omega), e104]
    refine ⟨fun z => absurd z (nI_pos (by omega)), fun _ => ⟨lm.1, lm.k31, hin, hin, fun M2 e2 => ?_⟩⟩
    have f2 : Fg (fun a k => a = 104 ∧ k = h) M M2 := by rw [e2]; exact Fg.pI ⟨rfl, rfl⟩
    have f2c : Fg (gC h) M M2 := f2.mono (fun a k q => by simp only [gC]; omega)
    have l2 := l.fg f2c (fun a k q => q)
    have m2 := l2.1
    have v : mI M2 104 h = nI e := by
      rw [e2, mI_uI, if_pos rfl, if_pos rfl, show (1 : Int32) = iI 1 from rfl, iI_add, nI_iI]
      congr 1; omega
    have vA : mJ M2 87 35 = jI A := by rw [e2, mJ_uI]; exact eA
    have vB : mJ M2 87 36 = jI B := by rw [e2, mJ_uI]; exact eB
    rw [m2.r31, m2.n31, v]
    have e3 : nI e = (3 : Int32) ↔ e = 3 := nI_eq (b := 3) (by omega) (by omega)
    have hb := bidW_le (σ := σ) (w := w) (hh := hh) (k := k) (f := f)
    obtain ⟨hba, ha⟩ := askW_le (σ := σ) (w := w) (hh := hh) (k := k) (f := f)
    have nx : ((e : Int) + 1 : Int) - 1 = ((e + 1 : Nat) : Int) - 1 := by omega
    refine ⟨m2.k31, hin, fun _ => ⟨hin, S_R_stepTo m2 l2.2.1 (by omega) l2.2.2.2.1 l2.2.2.2.2.1 l2.2.2.2.2.2 hba ha hw hr2 (by omega) (fun hp M3 f3 l3 => ⟨fun z => absurd z (by decide), fun _ => ?_⟩) (fun hp M3 f3 => ⟨fun _ => ?_, fun z => absurd rfl z⟩)⟩, fun z => absurd (e3.mp z) (by omega)⟩
    · -- the event can be
      have f3c : Fg (gC h) M2 M3 := f3.mono (fun a k q => by simp only [seC] at q; simp only [gC]; omega)
      have lw3 := l2.fg f3c (fun a k q => q)
      obtain ⟨b1, b2⟩ := flw_b l.2.1.1 hw hp
      have h3 := hA_rng l.2.1.1 hr2 hp
      have tb := tk_b (ev := e) l.2.1.1 (show bidW σ w hh k f ≤ 100 by omega) ha h3
      have tM : goT (lfM σ) σ k f r w hh p g st e = goX (lfM σ) σ k f r (stl (sN σ) (flw σ w hh e (bidW σ w hh k f) (askW σ w hh k f))) (hA e hh) (fun i => p i * odds σ hh e i (bidW σ w hh k f) (askW σ w hh k f)) (g + tkI e (bidW σ w hh k f) (askW σ w hh k f) - (sCo σ * (hA e hh).natAbs : Nat)) (st || decide ((hA e hh).natAbs = sMo σ)) := by unfold goT; rw [if_pos hp]
      have tS : goT (lfS σ) σ k f r w hh p g st e = goX (lfS σ) σ k f r (stl (sN σ) (flw σ w hh e (bidW σ w hh k f) (askW σ w hh k f))) (hA e hh) (fun i => p i * odds σ hh e i (bidW σ w hh k f) (askW σ w hh k f)) (g + tkI e (bidW σ w hh k f) (askW σ w hh k f) - (sCo σ * (hA e hh).natAbs : Nat)) (st || decide ((hA e hh).natAbs = sMo σ)) := by unfold goT; rw [if_pos hp]
      have v3 : mI M3 104 h = nI e := by rw [f3.I (by simp only [seC]; omega)]; exact v
      have vA3 : mJ M3 87 35 = jI A := by rw [f3.J (by simp only [seC]; omega)]; exact vA
      have vB3 : mJ M3 87 36 = jI B := by rw [f3.J (by simp only [seC]; omega)]; exact vB
      have hx := child _ _ _ _ _ A B M3 (N0 + m * (1 + cst r) + 1) lw3.1 lw3.2.1 lw3.2.2.1 l3 b1 b2 h3 (by omega) vA3 vB3 (fun M4 f4 xA xB => ?_) n (by omega)
      · rw [nI_1]
        exact ⟨lw3.1.1, hx⟩
      · have f4c : Fg (gC h) M3 M4 := f4.mono (fun a k q => gD_C q)
        refine ih (e + 1) _ _ M4 (by omega) (lw3.fg f4c (fun a k q => q)) ?_ xA xB (fun M5 f5 yA yB => ?_)
        · rw [f4.I (by simp only [gD]; omega), v3, nI_iI]; congr 1; omega
        · refine hQ M5 (((f2c.t2 f3c).t2 f4c).t2 f5) ?_ ?_
          · rw [yA, ← tM]; congr 1
            show A + goT (lfM σ) σ k f r w hh p g st e + (sumZ _ 3 - (sumZ _ e + _)) = _
            omega
          · rw [yB, ← tS]; congr 1
            show B + goT (lfS σ) σ k f r w hh p g st e + (sumZ _ 3 - (sumZ _ e + _)) = _
            omega
    · -- it cannot be
      have f3c : Fg (gC h) M2 M3 := f3.mono (fun a k q => by simp only [miC] at q; simp only [gC]; omega)
      have tM : goT (lfM σ) σ k f r w hh p g st e = 0 := by unfold goT; rw [if_neg hp]
      have tS : goT (lfS σ) σ k f r w hh p g st e = 0 := by unfold goT; rw [if_neg hp]
      refine ih (e + 1) A B M3 (by omega) (l2.fg f3c (fun a k q => q)) ?_ ?_ ?_ (fun M5 f5 yA yB => ?_) n (by omega)
      · rw [f3.I (by simp only [miC]; omega), v, nI_iI]; congr 1; omega
      · rw [f3.J (by simp only [miC]; omega)]; exact vA
      · rw [f3.J (by simp only [miC]; omega)]; exact vB
      · refine hQ M5 ((f2c.t2 f3c).t2 f5) ?_ ?_
        · rw [yA]; congr 1
          show A + (sumZ _ 3 - (sumZ _ e + goT (lfM σ) σ k f r w hh p g st e)) = _
          rw [tM]; omega
        · rw [yB]; congr 1
          show B + (sumZ _ 3 - (sumZ _ e + goT (lfS σ) σ k f r w hh p g st e)) = _
          rw [tS]; omega
theorem go_lv {k f : Nat} (hk : k ≤ 5) (hf : f ≤ 49) (hho : sHo σ ≤ 6) : ∀ (r h : Nat) (w p : Nat → Nat) (hh g : Int) (st : Bool) (N0 : Nat), h + r + 1 = sHo σ → (∀ i, i < sN σ → w i ≤ 100000000000) → (-20 ≤ hh ∧ hh ≤ 20) → (-5000 + 400 * ((r : Int) + 1) ≤ g ∧ g ≤ 5000 - 400 * ((r : Int) + 1)) → ∀ (m e : Nat) (A B : Int) (M : Mem), e + m = 3 → Lw M σ k f h w p hh g st → mI M 104 h = iI ((e : Int) - 1) → mJ M 87 35 = jI A → mJ M 87 36 = jI B → LwQ QV0 σ k f r h e w p hh g st A B M N0 → ∀ N, N0 + m * (1 + cst r) + 1 ≤ N → lp_X13_goAll_86 QV0 N 87 (nI k) (nI f) (nI h) M := by
  intro r
  induction r with
  | zero =>
    intro h w p hh g st N0 hlev hw hr2 hg
    refine lv_step hk hf (by omega) hw hr2 hg (fun v q h2 g2 s2 A B M1 N1 m1 r1 e26 l1 hv hpv hh2 hg2 eA eB hQ N hN => ?_)
    have e9 : nI (h + 1) = mI M1 87 9 ↔ h + 1 = sHo σ := by rw [r1.2.1.2.2.2.2]; exact nI_eq (by omega) (by omega)
    refine ⟨fun z => absurd (e9.mpr (by omega)) z, fun _ => S_R_closeDay m1 r1 (by omega) l1 hh2 (by omega) eA eB (fun M2 f2 xA xB => hQ M2 (f2.mono (fun a k q => by simp only [gD]; omega)) xA xB N (by omega))⟩
  | succ r ihr =>
    intro h w p hh g st N0 hlev hw hr2 hg
    refine lv_step hk hf (by omega) hw hr2 hg (fun v q h2 g2 s2 A B M1 N1 m1 r1 e26 l1 hv hpv hh2 hg2 eA eB hQ N hN => ?_)
    have e9 : nI (h + 1) = mI M1 87 9 ↔ h + 1 = sHo σ := by rw [r1.2.1.2.2.2.2]; exact nI_eq (by omega) (by omega)
    have ec : cst (r + 1) = 3 * (1 + cst r) + 1 := rfl
    refine ⟨fun _ => S_R_openHour m1 r1 (by omega) l1 hv hpv e26 hk hf hh2 (fun M2 f2 x5 x6 x4 => ?_), fun z => absurd (e9.mp z) (by omega)⟩
    have f2c : Fg (gD h) M1 M2 := f2.mono (fun a k q => by simp only [ohC] at q; simp only [gD]; omega)
    have r2 := r1.fg f2 (fun a k q => by simp only [ohC] at q; simp only [stC]; omega)
    have n26 : mI M2 87 26 = nI (mbc σ) := by rw [f2.I (by simp only [ohC]; omega)]; exact e26
    have l2 : Lv M2 (sN σ) (h + 1) v q h2 g2 s2 := by
      obtain ⟨a1, a2, a3, a4, a5⟩ := l1
      refine ⟨fun i hi => ?_, fun i hi => ?_, ?_, ?_, ?_⟩
      · rw [f2.J (by simp only [ohC]; omega)]; exact a1 i hi
      · rw [f2.J (by simp only [ohC]; omega)]; exact a2 i hi
      · rw [f2.I (by simp only [ohC]; omega)]; exact a3
      · rw [f2.I (by simp only [ohC]; omega)]; exact a4
      · rw [f2.I (by simp only [ohC]; omega)]; exact a5
    refine ihr (h + 1) v q h2 g2 s2 N1 (by omega) hv hh2 (by omega) 3 0 A B M2 rfl ⟨m1.fg f2, r2, n26, l2, x5, x6⟩ x4 (by rw [f2.J (by simp only [ohC]; omega)]; exact eA) (by rw [f2.J (by simp only [ohC]; omega)]; exact eB) (fun M3 f3 xA xB N hN => ?_) N (by omega)
    have ex : ((h + 1 : Nat) : Int) - 1 = ((h : Nat) : Int) := by omega
    rw [ex, ← nI_iI]
    refine hQ M3 (f2c.t2 (f3.mono (fun a k q => by simp only [gC] at q; simp only [gD]; omega))) ?_ ?_ N hN
    · rw [xA, goX_T]; congr 1
      show A + (sumZ _ 3 - 0) = _
      omega
    · rw [xB, goX_T]; congr 1
      show B + (sumZ _ 3 - 0) = _
      omega
end REF
