/-! THE COMPONENT: thoughts, days -/
def cOK (c : CT) : Prop := (0 < sN (cS c) → 0 < sumN (cW c) (sN (cS c))) ∧ (cI c = true → 0 < sN (cS2 c) → 0 < sumN (cW2 c) (sN (cS2 c)))
def setT (c : CT) (w : Nat → Nat) (h : Int) : CT := (cS c, w, h, cI c, cS2 c, cW2 c, cH2 c, cG c)
def wNR (c : CT) (x : Int32) : Int32 := if ix x < 8 then (if (cG c (ix x)).1 = 0 then -11 else if (cG c (ix x)).1 = 1 then -3 else -12) else -1
def aAnew (c : CT) : Int32 := if rdy c then nI (mvN (cS c) (sCh (cS c))) else -3
def nAnew (c : CT) : CT := if rdy c then setT c (sCh (cS c)) 0 else c
abbrev evW (c : CT) (e b a : Int32) : Nat → Nat := flw (cS c) (cW c) (cH c) (ix e) (ix b) (ix a)
abbrev evC (c : CT) (e b a : Int32) : Prop := ix e < 3 ∧ sl b a ∧ rdy c ∧ 0 < sumN (evW c e b a) (sN (cS c))
def aEvent (c : CT) (e b a : Int32) : Int32 := if evC c e b a then nI (mvN (cS c) (stl (sN (cS c)) (evW c e b a))) else if ix e < 3 ∧ sl b a then -3 else -1
def nEvent (c : CT) (e b a : Int32) : CT := if evC c e b a then setT c (stl (sN (cS c)) (evW c e b a)) (hA (ix e) (cH c)) else c
abbrev wyR (c : CT) (d : Int32) : Prop := ix d < 8 ∧ (cG c (ix d)).1 = 1 ∧ rdy c
def wk (c : CT) (d : Int32) : Nat := (cG c (ix d)).2.1
def wf (c : CT) (d : Int32) : Nat := (cG c (ix d)).2.2.1
def aCalls (c : CT) (d p : Int32) : Int32 := if ix p < 2 then (if wyR c d then (if ix p = 0 then nI (bidW (cS c) (cW c) (cH c) (wk c d) (wf c d)) else nI (askW (cS c) (cW c) (cH c) (wk c d) (wf c d))) else wNR c d) else -1
def aMean (c : CT) (d : Int32) : Int64 := if wyR c d then jI (meanX (cS c) (wk c d) (wf c d)) else (wNR c d).toInt64 - 4000000000000000000
def aStuck (c : CT) (d : Int32) : Int64 := if wyR c d then jI (stuckX (cS c) (wk c d) (wf c d)) else (wNR c d).toInt64 - 4000000000000000000
def aLimit (c : CT) (d : Int32) : Int64 := if wyR c d then jI (meanX (setM (cS c) 20) (wk c d) (wf c d)) - jI (meanX (cS c) (wk c d) (wf c d)) else (wNR c d).toInt64 - 4000000000000000000
def aDay (c : CT) (d w z p : Int32) : Int32 := if ix w < sN (cS c) ∧ ix p < 3 then (if wyR c d then (if ix p = 0 then iI ((lvN (cS c) (wk c d) (wf c d) (sVa (cS c) (ix w)) z (sHo (cS c))).2.2.1 + (lvN (cS c) (wk c d) (wf c d) (sVa (cS c) (ix w)) z (sHo (cS c))).2.1 * sVa (cS c) (ix w)) else if ix p = 1 then iI (lvN (cS c) (wk c d) (wf c d) (sVa (cS c) (ix w)) z (sHo (cS c))).2.1 else nI (lvN (cS c) (wk c d) (wf c d) (sVa (cS c) (ix w)) z (sHo (cS c))).2.2.2.1) else wNR c d - 1000000000) else -1000000001
section COMP
variable {M : Mem} {c : CT} {Q : Int32 → Mem → Prop} {QR : Nat → Mem → Prop} {QJ0 : Int64 → Mem → Prop} {QV0 : Mem → Prop}
theorem AbsC.keep {A : Nat → Prop} {M' : Mem} (h : AbsC M c) (f : Fr A M M') (hA : ∀ a, A a → scr a) : Kp cpA M M' ∧ AbsC M' c := ⟨f.Kp (fun a q => scr_cp (hA a q)), h.fr f hA⟩
theorem AbsC.think {M' : Mem} {w : Nat → Nat} {hh : Int} (h : AbsC M c) (f : Fr (thA 27) M M') (ht : ThAt M' 27 (sN (cS c)) w hh 100000000000) : Kp cpA M M' ∧ AbsC M' (setT c w hh) := by
  refine ⟨f.Kp (fun a q => by simp only [thA, cpA] at *; omega), ?_⟩
  obtain ⟨h1, h2, h3, h4, h5, h6, p, h7⟩ := h
  refine ⟨h1.fr f, h2.fr f (fun a _ _ => by simp only [thA]; omega), ht, ?_, fun hi => ?_, fun d hd => ?_, p, h7.fr f (by simp only [thA]; omega) (by simp only [thA]; omega)⟩
  · rw [f.I (by simp only [thA]; omega)]; exact h4
  · exact ⟨(h5 hi).1.fr f (fun a _ _ => by simp only [thA]; omega), (h5 hi).2.fr f (by simp only [thA]; omega) (by simp only [thA]; omega)⟩
  · exact (h6 d hd).fr f (by simp only [thA]; omega) (by simp only [thA]; omega) (fun a ha => by simp only [thA]; omega)
theorem S_X12_readyWayOn {x : Int32} (h : AbsC M c) (h0 : ¬ wyR c x → QR 0 M) (h1 : ∀ d a, d < 8 → x = nI d → wyR c x → a ≠ 0 → ¬ cpA a → a < mT M → WayAt M a (wk c x) (wf c x) → QR a M) : wp_X12_readyWayOn 2 x M QR := by
  unfold wp_X12_readyWayOn
  rw [h.1.2.1.1]
  refine ⟨h.1.1, h.2.1.1.1.1, S_ready h (fun r => ⟨fun z => absurd z (by decide), fun _ => ⟨h.1.1, S_X12_wayOn h (fun hn => h0 (fun q => ?_)) (fun d a hd e g1 g2 g3 g4 g5 => ?_)⟩⟩) (fun r => ⟨fun _ => h0 (fun q => r q.2.2), fun z => absurd rfl z⟩)⟩
  · obtain ⟨d, hd, e⟩ := (inN_ix (by omega)).mpr q.1
    have q2 := q.2.1
    rw [e, ix_nI (by omega)] at q2
    exact hn d hd e q2
  · subst e
    have ei : ix (nI d) = d := ix_nI (by omega)
    refine h1 d a hd rfl ⟨by rw [ei]; exact hd, by rw [ei]; exact g1, r⟩ g2 g3 g4 ?_
    unfold wk wf
    rw [ei]
    exact g5
theorem S_X12_whyNotReady {x : Int32} (h : AbsC M c) (hQ : Q (wNR c x) M) : wp_X12_whyNotReady 2 x M Q := by
  unfold wNR at hQ
  refine ⟨h.1.1, S_X12_wayOn h (fun hn => ⟨fun z => absurd rfl z, fun _ => ⟨h.1.1, S_X12_whyNot h (fun z => ?_) (fun d hd e z => ?_) (fun d hd e z => ?_)⟩⟩) (fun d a hd e g1 g2 g3 g4 g5 => ⟨fun _ => ?_, fun z => absurd z g2⟩)⟩
  · rw [if_neg (fun q => z ((inN_ix (by omega)).mpr q))] at hQ; exact hQ
  · subst e
    rw [ix_nI (by omega), if_pos hd, if_pos z] at hQ; exact hQ
  · have := hn d hd e
    subst e
    rw [ix_nI (by omega), if_pos hd, if_neg z, if_neg this] at hQ; exact hQ
  · subst e
    rw [ix_nI (by omega), if_pos hd, if_neg (by omega), if_pos g1] at hQ; exact hQ
theorem S_X12_anew (h : AbsC M c) (hQ : ∀ M', Kp cpA M M' → AbsC M' (nAnew c) → Q (aAnew c) M') : wp_X12_anew 2 M Q := by
  unfold aAnew nAnew at hQ
  unfold wp_X12_anew
  rw [h.1.2.1.1]
  refine ⟨h.1.1, h.2.1.1.1.1, S_ready h (fun r => ⟨fun _ => ?_, fun z => absurd z (by decide)⟩) (fun r => ⟨fun z => absurd rfl z, fun _ => ?_⟩)⟩
  · rw [if_pos r, if_pos r] at hQ
    rw [h.1.2.1.1, h.1.2.1.2.2.2.1]
    refine ⟨h.1.1, h.2.2.1.1.1, S_X9_begin h.2.1.1 h.2.2.1.1 (by unfold apart; omega) (fun M9 f9 h9 => ?_)⟩
    obtain ⟨k9, c9⟩ := h.think f9 (h9.up (by omega))
    rw [c9.1.2.1.1, c9.1.2.1.2.2.2.1]
    exact ⟨c9.1.1, c9.2.2.1.1.1, S_X9_meanValue c9.2.1.1 c9.2.2.1.1 c9.2.2.1.2.2.2.2 c9.2.2.1.2.2.2.1 (hQ M9 k9 c9)⟩
  · rw [if_neg r, if_neg r] at hQ; exact hQ M Kp.rf h
theorem S_X12_event {e b a : Int32} (h : AbsC M c) (hQ : ∀ M', Kp cpA M M' → AbsC M' (nEvent c e b a) → Q (aEvent c e b a) M') : wp_X12_event 2 e b a M Q := by
  have h6 := h.2.1.1.2.1.1
  unfold aEvent nEvent at hQ
  refine S_X12_isEvent (fun i hi e1 => ⟨fun z => absurd z (by decide), fun _ => S_X12_isSlate (fun p q hpq hq e3 e4 => ⟨fun _ => ?_, fun z => absurd z (by decide)⟩) (fun hn => ⟨fun z => absurd rfl z, fun _ => ?_⟩)⟩) (fun hn => ⟨fun _ => ?_, fun z => absurd rfl z⟩)
  · have ei : ix e = i := by rw [e1]; exact ix_nI (by omega)
    have ep : ix b = p := by rw [e3]; exact ix_nI (by omega)
    have eq : ix a = q := by rw [e4]; exact ix_nI (by omega)
    have base : ix e < 3 ∧ sl b a := ⟨by omega, by unfold sl; omega⟩
    rw [h.1.2.1.1]
    refine ⟨h.1.1, h.2.1.1.1.1, S_ready h (fun r => ⟨fun z => absurd z (by decide), fun _ => ?_⟩) (fun r => ⟨fun _ => ?_, fun z => absurd rfl z⟩)⟩
    · rw [h.1.2.1.1, h.1.2.1.2.2.2.1, h.1.2.1.2.2.2.2.1, e1, e3, e4]
      have eW : evW c e b a = flw (cS c) (cW c) (cH c) i p q := by unfold evW; rw [ei, ep, eq]
      refine ⟨h.1.1, h.1.2.2.2.2.2.1.1, S_X9_follow h.2.1 h.1.2.2.2.2.2.1 h.2.2.1 (Nat.le_refl _) (by unfold apart; omega) (by unfold apart; omega) (by omega) (by omega) hq (fun _ => hpq) (fun hp M2 f2 h2 => ?_) (fun hp M2 f2 => ?_)⟩
      · refine ⟨fun _ => ?_, fun z => absurd z (by decide)⟩
        have can : evC c e b a := ⟨base.1, base.2, r, by rw [eW]; exact hp⟩
        rw [if_pos can, if_pos can, eW, ei] at hQ
        obtain ⟨k2, c2⟩ := h.keep f2 (fun x hx => by simp only [thA, scr] at *; omega)
        rw [c2.1.2.1.2.2.2.1, c2.1.2.1.2.2.2.2.1]
        refine ⟨c2.1.1, c2.2.2.1.1.1, S_X9_copyFrom h2 h6 c2.2.2.1.1 (fun M3 f3 h3 => ?_)⟩
        obtain ⟨k3, c3⟩ := c2.think f3 h3
        rw [c3.1.2.1.1, c3.1.2.1.2.2.2.1]
        exact ⟨c3.1.1, c3.2.2.1.1.1, S_X9_meanValue c3.2.1.1 c3.2.2.1.1 c3.2.2.1.2.2.2.2 c3.2.2.1.2.2.2.1 (hQ M3 (k2.tr k3) c3)⟩
      · refine ⟨fun z => absurd rfl z, fun _ => ?_⟩
        have can : ¬ evC c e b a := fun z => hp (by have := z.2.2.2; rw [eW] at this; exact this)
        rw [if_neg can, if_neg can, if_pos base] at hQ
        obtain ⟨k2, c2⟩ := h.keep f2 (fun x hx => by simp only [thA, scr] at *; omega)
        exact hQ M2 k2 c2
    · have can : ¬ evC c e b a := fun z => r z.2.2.1
      rw [if_neg can, if_neg can, if_pos base] at hQ
      exact hQ M Kp.rf h
  · have no : ¬ sl b a := fun z => hn (isSl_ix.mpr z)
    rw [if_neg (fun z : evC c e b a => no z.2.1), if_neg (fun z : evC c e b a => no z.2.1), if_neg (fun z => no z.2)] at hQ
    exact hQ M Kp.rf h
  · have no : ¬ ix e < 3 := fun z => hn ((inN_ix (by omega)).mpr z)
    rw [if_neg (fun z : evC c e b a => no z.1), if_neg (fun z : evC c e b a => no z.1), if_neg (fun z => no z.1)] at hQ
    exact hQ M Kp.rf h
theorem S_X12_calls {d p : Int32} (h : AbsC M c) (hQ : Q (aCalls c d p) M) : wp_X12_calls 2 d p M Q := by
  unfold aCalls at hQ
  refine S_X12_isPart (fun j hj e => ⟨fun _ => ⟨h.1.1, S_X12_readyWayOn h (fun hn => ⟨fun z => absurd rfl z, fun _ => ⟨h.1.1, S_X12_whyNotReady h ?_⟩⟩) (fun i a hi e2 g1 g2 g3 g4 g5 => ⟨fun _ => ?_, fun z => absurd z g2⟩)⟩, fun z => absurd z (by decide)⟩) (fun hn => ⟨fun z => absurd rfl z, fun _ => ?_⟩)
  · rw [if_pos (by rw [e, ix_nI (by omega)]; exact hj), if_neg hn] at hQ; exact hQ
  · have ej : ix p = j := by rw [e, ix_nI (by omega)]
    rw [if_pos (by omega), if_pos g1, ej] at hQ
    rw [h.1.2.1.1, h.1.2.1.2.2.2.1]
    have e0 : p = (0 : Int32) ↔ j = 0 := by rw [e]; exact nI_eq (b := 0) (by omega) (by omega)
    refine ⟨h.1.1, g5.isW, S_X11_bid g5 h.2.1 h.2.2.1 ⟨fun z => ?_, fun z => ?_⟩⟩
    · rw [if_neg (mt e0.mpr z)] at hQ
      rw [h.1.2.1.1, h.1.2.1.2.2.2.1]
      exact ⟨h.1.1, g5.isW, S_X11_ask g5 h.2.1 h.2.2.1 hQ⟩
    · rw [if_pos (e0.mp z)] at hQ; exact hQ
  · rw [if_neg (fun q => hn ((inN_ix (by omega)).mpr q))] at hQ; exact hQ
theorem dy_scr {a : Nat} (h : dyA 52 a) : scr a := by simp only [dyA, scr] at *; omega
theorem S_X12_mean {d : Int32} (h : AbsC M c) (hQ : ∀ M', Kp cpA M M' → AbsC M' c → QJ0 (aMean c d) M') : wp_X12_mean 2 d M QJ0 := by
  unfold aMean at hQ
  refine ⟨h.1.1, S_X12_readyWayOn h (fun hn => ⟨fun z => absurd rfl z, fun _ => ⟨h.1.1, S_X12_whyNotReady h ?_⟩⟩) (fun i a hi e2 g1 g2 g3 g4 g5 => ⟨fun _ => ?_, fun z => absurd z g2⟩)⟩
  · rw [if_neg hn] at hQ; exact hQ M Kp.rf h
  · rw [if_pos g1] at hQ
    rw [h.1.2.1.1, h.1.2.1.2.2.2.2.2.2.2.2.1]
    refine ⟨h.1.1, h.1.2.2.2.2.2.2.2.1.1, S_X0_weigh h.1.2.2.2.2.2.2.2.1 h.2.1 g5 (by unfold apart; omega) (by simp only [cpA, dyA] at *; omega) (fun M9 f9 j2 j3 => ?_)⟩
    obtain ⟨k9, c9⟩ := h.keep f9 (fun x hx => dy_scr hx)
    rw [c9.1.2.1.2.2.2.2.2.2.2.2.1, j2]
    exact ⟨c9.1.1, c9.1.2.2.2.2.2.2.2.1.1, hQ M9 k9 c9⟩
theorem S_X12_stuck {d : Int32} (h : AbsC M c) (hQ : ∀ M', Kp cpA M M' → AbsC M' c → QJ0 (aStuck c d) M') : wp_X12_stuck 2 d M QJ0 := by
  unfold aStuck at hQ
  refine ⟨h.1.1, S_X12_readyWayOn h (fun hn => ⟨fun z => absurd rfl z, fun _ => ⟨h.1.1, S_X12_whyNotReady h ?_⟩⟩) (fun i a hi e2 g1 g2 g3 g4 g5 => ⟨fun _ => ?_, fun z => absurd z g2⟩)⟩
  · rw [if_neg hn] at hQ; exact hQ M Kp.rf h
  · rw [if_pos g1] at hQ
    rw [h.1.2.1.1, h.1.2.1.2.2.2.2.2.2.2.2.1]
    refine ⟨h.1.1, h.1.2.2.2.2.2.2.2.1.1, S_X0_weigh h.1.2.2.2.2.2.2.2.1 h.2.1 g5 (by unfold apart; omega) (by simp only [cpA, dyA] at *; omega) (fun M9 f9 j2 j3 => ?_)⟩
    obtain ⟨k9, c9⟩ := h.keep f9 (fun x hx => dy_scr hx)
    rw [c9.1.2.1.2.2.2.2.2.2.2.2.1, j3]
    exact ⟨c9.1.1, c9.1.2.2.2.2.2.2.2.1.1, hQ M9 k9 c9⟩
theorem S_X12_limit {d : Int32} (h : AbsC M c) (hQ : ∀ M', Kp cpA M M' → AbsC M' c → QJ0 (aLimit c d) M') : wp_X12_limit 2 d M QJ0 := by
  unfold aLimit at hQ
  refine ⟨h.1.1, S_X12_readyWayOn h (fun hn => ⟨fun z => absurd rfl z, fun _ => ⟨h.1.1, S_X12_whyNotReady h ?_⟩⟩) (fun i a hi e2 g1 g2 g3 g4 g5 => ⟨fun _ => ?_, fun z => absurd z g2⟩)⟩
  · rw [if_neg hn] at hQ; exact hQ M Kp.rf h
  · rw [if_pos g1] at hQ
    rw [h.1.2.1.1, h.1.2.1.2.1]
    refine ⟨h.1.1, h.1.2.2.2.1.1, S_X6_copyFrom h.2.1 h.1.2.2.2.1 (by unfold apart; omega) (fun M9 f9 d9 => ?_)⟩
    obtain ⟨k9, c9⟩ := h.keep f9 (fun x hx => by simp only [stA, scr] at *; omega)
    rw [c9.1.2.1.2.1]
    refine ⟨c9.1.1, c9.1.2.2.2.1.1, fun M10 e10 => ?_⟩
    have f10 : Fr (fun x => x = 11) M9 M10 := by rw [e10]; exact Fr.uI rfl
    have d10 : StTb M10 11 (setM (cS c) 20) := by rw [e10]; exact d9.setM (x := 20) (by omega)
    obtain ⟨k10, c10⟩ := c9.keep f10 (fun x hx => by simp only [scr]; omega)
    have g10 : WayAt M10 a (wk c d) (wf c d) := (g5.fr f9 (by simp only [stA, cpA] at *; omega)).fr f10 (by simp only [cpA] at *; omega)
    rw [c10.1.2.1.2.2.2.2.2.2.2.2.1, c10.1.2.1.2.1]
    refine ⟨c10.1.2.2.2.2.2.2.2.1.1, S_X0_weigh c10.1.2.2.2.2.2.2.2.1 d10 g10 (by unfold apart; omega) (by simp only [cpA, dyA] at *; omega) (fun M14 f14 j2 j3 => ?_)⟩
    obtain ⟨k14, c14⟩ := c10.keep f14 (fun x hx => dy_scr hx)
    rw [c14.1.2.1.2.2.2.2.2.2.2.2.1, c14.1.2.1.1]
    refine ⟨c14.1.1, c14.1.2.2.2.2.2.2.2.1.1, fun y15 e15 => S_X0_weigh c14.1.2.2.2.2.2.2.2.1 c14.2.1 (g10.fr f14 (by simp only [cpA, dyA] at *; omega)) (by unfold apart; omega) (by simp only [cpA, dyA] at *; omega) (fun M19 f19 q2 q3 => ?_)⟩
    obtain ⟨k19, c19⟩ := c14.keep f19 (fun x hx => dy_scr hx)
    rw [c19.1.2.1.2.2.2.2.2.2.2.2.1, e15, j2, q2]
    exact ⟨c19.1.1, c19.1.2.2.2.2.2.2.2.1.1, hQ M19 (((k9.tr k10).tr k14).tr k19) c19⟩
end COMP
