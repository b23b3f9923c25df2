/-! THE COMPONENT: what others change; ways made anew -/
section KP
variable {A : Nat → Prop} {M M' : Mem} {s n c : Nat} {σ : StT} {w : Nat → Nat} {hh : Int}
theorem StOK.kp (h : StOK M s) (f : Kp A M M') (hA : ∀ a, s ≤ a → a < s + 8 → ¬ A a) (hT : s + 8 ≤ mT M) : StOK M' s := by
  have e : ∀ a, s ≤ a → a < s + 8 → mK M' a = mK M a ∧ mN M' a = mN M a ∧ mR M' a = mR M a ∧ mI M' a = mI M a ∧ mJ M' a = mJ M a := fun a h1 h2 => f.2 a (hA a h1 h2) (by omega)
  have K : ∀ a, s ≤ a → a < s + 8 → mK M' a = mK M a := fun a h1 h2 => (e a h1 h2).1
  have N : ∀ a, s ≤ a → a < s + 8 → mN M' a = mN M a := fun a h1 h2 => (e a h1 h2).2.1
  unfold StOK
  rw [K s (by omega) (by omega), K (s + 1) (by omega) (by omega), K (s + 2) (by omega) (by omega), K (s + 3) (by omega) (by omega), K (s + 4) (by omega) (by omega), K (s + 5) (by omega) (by omega), K (s + 6) (by omega) (by omega), K (s + 7) (by omega) (by omega), N (s + 1) (by omega) (by omega), N (s + 2) (by omega) (by omega), N (s + 3) (by omega) (by omega), N (s + 4) (by omega) (by omega), N (s + 5) (by omega) (by omega), N (s + 6) (by omega) (by omega), N (s + 7) (by omega) (by omega), (e s (by omega) (by omega)).2.2.1]
  exact h
theorem StTb.kp (h : StTb M s σ) (f : Kp A M M') (hA : ∀ a, s ≤ a → a < s + 8 → ¬ A a) (hT : s + 8 ≤ mT M) : StTb M' s σ := by
  have I : ∀ a, s ≤ a → a < s + 8 → mI M' a = mI M a := fun a h1 h2 => (f.2 a (hA a h1 h2) (by omega)).2.2.2.1
  obtain ⟨⟨h1, h2, h3, h4, h5⟩, h6⟩ := h
  refine ⟨⟨h1.kp f hA hT, h2, ?_, ?_, ?_⟩, ?_⟩
  · rw [I s (by omega) (by omega)]; exact h3
  · rw [I (s + 1) (by omega) (by omega), I (s + 2) (by omega) (by omega)]; exact h4
  · rw [I (s + 3) (by omega) (by omega), I (s + 4) (by omega) (by omega), I (s + 5) (by omega) (by omega)]; exact h5
  · rw [I (s + 6) (by omega) (by omega), I (s + 7) (by omega) (by omega)]; exact h6
theorem ThOK.kp (h : ThOK M s) (f : Kp A M M') (h0 : ¬ A s) (h1 : ¬ A (s + 1)) (hT : s + 2 ≤ mT M) : ThOK M' s := by
  obtain ⟨a1, -, a3, -⟩ := f.2 s h0 (by omega)
  obtain ⟨b1, b2, -⟩ := f.2 (s + 1) h1 (by omega)
  unfold ThOK
  rw [a1, a3, b1, b2]; exact h
theorem ThAt.kp (h : ThAt M s n w hh c) (f : Kp A M M') (h0 : ¬ A s) (h1 : ¬ A (s + 1)) (hT : s + 2 ≤ mT M) : ThAt M' s n w hh c := by
  obtain ⟨q1, q2, q3, q4, q5⟩ := h
  refine ⟨q1.kp f h0 h1 hT, ?_, q3, q4, fun i hi => ?_⟩
  · rw [(f.2 s h0 (by omega)).2.2.2.1]; exact q2
  · rw [(f.2 (s + 1) h1 (by omega)).2.2.2.2]; exact q5 i hi
theorem DyOK.kp (h : DyOK M s) (f : Kp A M M') (hA : ∀ a, s ≤ a → a < s + 24 → ¬ A a) (hT : s + 24 ≤ mT M) : DyOK M' s := by
  have e : ∀ a, s ≤ a → a < s + 24 → mK M' a = mK M a ∧ mN M' a = mN M a ∧ mR M' a = mR M a ∧ mI M' a = mI M a ∧ mJ M' a = mJ M a := fun a h1 h2 => f.2 a (hA a h1 h2) (by omega)
  obtain ⟨a1, a2, a3, a4, a5, a6, a7, a8, a9⟩ := h
  obtain ⟨e0, -, e0r, -⟩ := e s (by omega) (by omega)
  obtain ⟨e1, e1n, e1r, -⟩ := e (s + 1) (by omega) (by omega)
  obtain ⟨e2, e2n, e2r, -⟩ := e (s + 2) (by omega) (by omega)
  refine ⟨by rw [e0]; exact a1, by rw [e0r]; exact a2, by rw [e0r]; exact a3, by rw [e1]; exact a4, by rw [e1n]; exact a5, by rw [e2]; exact a6, by rw [e2n]; exact a7, fun j hj => ?_, fun j hj => ?_⟩
  · rw [e1r]
    exact ⟨(a8 j hj).1, (a8 j hj).2.kp f (hA _ (by omega) (by omega)) (hA _ (by omega) (by omega)) (by omega)⟩
  · rw [e2r, (e (s + 3 + j) (by omega) (by omega)).1, (e (s + 3 + j) (by omega) (by omega)).2.1]
    exact a9 j hj
theorem SpOK.kp (h : SpOK M s) (f : Kp A M M') (hA : ∀ a, s ≤ a → a < s + 11 → ¬ A a) (hT : s + 11 ≤ mT M) : SpOK M' s := by
  have e : ∀ a, s ≤ a → a < s + 11 → mK M' a = mK M a ∧ mN M' a = mN M a ∧ mR M' a = mR M a ∧ mI M' a = mI M a ∧ mJ M' a = mJ M a := fun a h1 h2 => f.2 a (hA a h1 h2) (by omega)
  have K : ∀ a, s ≤ a → a < s + 11 → mK M' a = mK M a := fun a h1 h2 => (e a h1 h2).1
  have N : ∀ a, s ≤ a → a < s + 11 → mN M' a = mN M a := fun a h1 h2 => (e a h1 h2).2.1
  obtain ⟨a1, a2, a3, a4, a5, a6, a7⟩ := h
  refine ⟨by rw [K s (by omega) (by omega)]; exact a1, by rw [(e s (by omega) (by omega)).2.2.1]; exact a2, ?_, a4.kp f (hA _ (by omega) (by omega)) (hA _ (by omega) (by omega)) (by omega), a5.kp f (hA _ (by omega) (by omega)) (hA _ (by omega) (by omega)) (by omega), ?_, ?_⟩
  · rw [K (s + 1) (by omega) (by omega), K (s + 2) (by omega) (by omega), N (s + 1) (by omega) (by omega), N (s + 2) (by omega) (by omega)]; exact a3
  · rw [K (s + 7) (by omega) (by omega), K (s + 8) (by omega) (by omega), N (s + 7) (by omega) (by omega), N (s + 8) (by omega) (by omega)]; exact a6
  · rw [K (s + 9) (by omega) (by omega), K (s + 10) (by omega) (by omega), N (s + 9) (by omega) (by omega), N (s + 10) (by omega) (by omega)]; exact a7
theorem PsAt.kp {p : PsT} (h : PsAt M s p) (f : Kp A M M') (h0 : ¬ A s) (h1 : ¬ A (s + 1)) (hT : s + 2 ≤ mT M) : PsAt M' s p := by
  obtain ⟨a1, -, a3, a4, -⟩ := f.2 s h0 (by omega)
  obtain ⟨b1, b2, -, b4, -⟩ := f.2 (s + 1) h1 (by omega)
  unfold PsAt TxOK
  rw [a1, a3, a4, b1, b2, b4]; exact h
theorem WayAt.kp {k f0 : Nat} (h : WayAt M s k f0) (f : Kp A M M') (h0 : ¬ A s) (hT : s < mT M) : WayAt M' s k f0 := by
  obtain ⟨a1, -, -, a4, -⟩ := f.2 s h0 hT
  unfold WayAt
  rw [a1, a4]; exact h
theorem ShAt.kp {g : ShT} (h : ShAt M s g) (f : Kp A M M') (h0 : ¬ A s) (h1 : ¬ A (s + 1)) (hT : s + 2 ≤ mT M) (hw : ∀ a, 121 ≤ a → ¬ A a) : ShAt M' s g := by
  obtain ⟨a1, -, a3, a4, -⟩ := f.2 s h0 (by omega)
  obtain ⟨b1, b2, -, b4, -⟩ := f.2 (s + 1) h1 (by omega)
  obtain ⟨k, h⟩ := h
  refine ⟨by unfold ShOK; rw [a1, a3, b1, b2]; exact k, ?_⟩
  rw [a3, a4, b4]
  rcases h with h | ⟨q1, q2, q3, q4, q5⟩ | h
  · exact Or.inl h
  · exact Or.inr (Or.inl ⟨q1, q2, by have := f.1; omega, q4, q5.kp f (hw _ q2) q3⟩)
  · exact Or.inr (Or.inr h)
theorem AbsC.kp {c : CT} (h : AbsC M c) (f : Kp A M M') (hA : ∀ a, A a → 87 ≤ a ∧ a < 121) : AbsC M' c := by
  have no : ∀ a, ¬ (87 ≤ a ∧ a < 121) → ¬ A a := fun a h q => h (hA a q)
  obtain ⟨⟨h1, h1r, ⟨h1a, h1b, h1c⟩, h1d, h1e, h1f, h1g, h1h, h1i, h1j⟩, h2, h3, h4, h5, h6, p, h7⟩ := h
  obtain ⟨e2, -, e2r, e2i, -⟩ := f.2 2 (no _ (by omega)) (by omega)
  obtain ⟨e33, e33n, e33r, -⟩ := f.2 33 (no _ (by omega)) (by omega)
  refine ⟨⟨by rw [e2]; exact h1, by rw [e2r]; exact h1r, by rw [e33, e33n, e33r]; exact ⟨h1a, h1b, h1c⟩, h1d.kp f (fun a _ _ => no _ (by omega)) (by omega), h1e.kp f (fun a _ _ => no _ (by omega)) (by omega), h1f.kp f (no _ (by omega)) (no _ (by omega)) (by omega), h1g.kp f (no _ (by omega)) (no _ (by omega)) (by omega), h1h.kp f (fun a _ _ => no _ (by omega)) (by omega), h1i.kp f (fun a _ _ => no _ (by omega)) (by omega), Nat.le_trans h1j f.1⟩, h2.kp f (fun a _ _ => no _ (by omega)) (by omega), h3.kp f (no _ (by omega)) (no _ (by omega)) (by omega), by rw [e2i]; exact h4, fun hi => ⟨(h5 hi).1.kp f (fun a _ _ => no _ (by omega)) (by omega), (h5 hi).2.kp f (no _ (by omega)) (no _ (by omega)) (by omega)⟩, fun d hd => (h6 d hd).kp f (no _ (by omega)) (no _ (by omega)) (by omega) (fun a ha => no _ (by omega)), p, h7.kp f (no _ (by omega)) (no _ (by omega)) (by omega)⟩
/-- the reference, where the component has changed -/
theorem AbsR.kp {c : CT} (h : AbsR M c) (f : Kp A M M') (hA : ∀ a, A a → ¬ (87 ≤ a ∧ a < 120)) (hT : 120 ≤ mT M) : AbsR M' c := by
  have e : ∀ a, 87 ≤ a → a < 120 → mK M' a = mK M a ∧ mN M' a = mN M a ∧ mR M' a = mR M a ∧ mI M' a = mI M a ∧ mJ M' a = mJ M a := fun a h1 h2 => f.2 a (fun q => hA a q ⟨h1, h2⟩) (by omega)
  have I : ∀ a, 87 ≤ a → a < 120 → mI M' a = mI M a := fun a h1 h2 => (e a h1 h2).2.2.2.1
  have J : ∀ a, 87 ≤ a → a < 120 → mJ M' a = mJ M a := fun a h1 h2 => (e a h1 h2).2.2.2.2
  have rng : ∀ k, (mdT k).1 ≠ 0 → 87 ≤ (mdT k).1 ∧ (mdT k).1 < 120 := by
    intro k hk
    revert hk
    unfold mdT
    split <;> intro hk <;> first | (exact ⟨by decide, by decide⟩) | (exact absurd rfl hk)
  obtain ⟨⟨m1, m2⟩, h2, h3, h4, h5, h6⟩ := h
  refine ⟨⟨by rw [(e 87 (by omega) (by omega)).1]; exact m1, fun k hk => ?_⟩, ?_, ?_, ?_, fun hi => ?_, fun d hd => ?_⟩
  · have r := rng k hk
    rw [(e 87 (by omega) (by omega)).2.2.1, (e _ r.1 r.2).1, (e _ r.1 r.2).2.1]; exact m2 k hk
  · unfold RS
    rw [I 87 (by omega) (by omega), I 88 (by omega) (by omega), I 89 (by omega) (by omega), I 90 (by omega) (by omega), I 91 (by omega) (by omega), I 92 (by omega) (by omega)]; exact h2
  · unfold RTh
    rw [I 87 (by omega) (by omega), J 93 (by omega) (by omega)]; exact h3
  · rw [I 87 (by omega) (by omega)]; exact h4
  · unfold RIm
    rw [J 112 (by omega) (by omega)]; exact h5 hi
  · unfold RSh
    rw [I 113 (by omega) (by omega), I 114 (by omega) (by omega), I 115 (by omega) (by omega), I 116 (by omega) (by omega), I 117 (by omega) (by omega), J 118 (by omega) (by omega)]; exact h6 d hd
theorem AbsC.fg {P : Nat → Nat → Prop} {c : CT} (h : AbsC M c) (f : Fg P M M') (hP : ∀ a k, P a k → 87 ≤ a ∧ a < 121) : AbsC M' c :=
  h.kp (A := fun a => 87 ≤ a ∧ a < 121) ((f.fr (A := fun a => 87 ≤ a ∧ a < 121) hP).Kp (fun a q => q)) (fun a q => q)
end KP
section COMP
variable {M : Mem} {c : CT} {Q : Int32 → Mem → Prop} {QR : Nat → Mem → Prop} {QJ0 : Int64 → Mem → Prop} {QV0 : Mem → Prop}
theorem nw_way {k f : Nat} (hk : k ≤ 5) (hf : f ≤ 49) : Kp (fun _ => False) M (uI (nw M (wayK k) 0) (mT M) 0 (nI f)) ∧ mT (uI (nw M (wayK k) 0) (mT M) 0 (nI f)) = mT M + 1 ∧ WayAt (uI (nw M (wayK k) 0) (mT M) 0 (nI f)) (mT M) k f := by
  refine ⟨⟨Nat.le_succ _, fun a _ ha => ⟨up1_ne (by omega), up1_ne (by omega), up1_ne (by omega), ?_, up1_ne (by omega)⟩⟩, rfl, ?_, ?_, hk, hf⟩
  · funext j
    rw [mI_uI, if_neg (by omega)]
    exact congrFun (up1_ne (f := mI M) (by omega)) j
  · show up1 (mK M) (mT M) (wayK k) (mT M) = wayK k
    unfold up1; rw [if_pos rfl]
  · rw [mI_uI, if_pos rfl, if_pos rfl]
theorem S_X12_wayOfKind {k f : Nat} (hT : mT M ≠ 0) (hk : k ≤ 5) (hf : f ≤ 49) (hQ : ∀ M', Kp (fun _ => False) M M' → mT M' = mT M + 1 → WayAt M' (mT M) k f → QR (mT M) M') : wp_X12_wayOfKind (nI k) (nI f) M QR := by
  obtain ⟨q1, q2, q3⟩ := nw_way (M := M) hk hf
  have fin := hQ _ q1 q2 q3
  have iw : ∀ kd, (kd = 12 ∨ kd = 3 ∨ kd = 4 ∨ kd = 9 ∨ kd = 2 ∨ kd = 11) → isW (nw M kd 0) (mT M) := fun kd h => by
    have e : mK (nw M kd 0) (mT M) = kd := by show up1 (mK M) (mT M) kd (mT M) = kd; unfold up1; rw [if_pos rfl]
    unfold isW; rw [e]; omega
  have ke : ∀ j : Nat, j ≤ 5 → nI k = nI j → k = j := fun j hj => (nI_eq (by omega) (by omega)).mp
  have c0 : (0 + 1 ≤ 1 ∧ 0 + 1 ≤ 1) := by decide
  have c1 : ((0 + 1) + 0 ≤ 1 ∧ (0 + 1) + 0 ≤ 1) := by decide
  refine ⟨fun z => ⟨c0, fun a ea M6 e6 => ⟨c1, ?_, ?_, fun M1 e1 => ⟨c1, ?_⟩⟩⟩, fun z => ⟨c0, fun a ea M6 e6 => ⟨c1, ?_, ?_, ?_, fun M1 e1 => ⟨c1, ?_⟩⟩⟩, fun z => ⟨c0, fun a ea M6 e6 => ⟨c1, ?_, ?_, ?_, ?_, fun M1 e1 => ⟨c1, ?_⟩⟩⟩, fun z => ⟨c0, fun a ea M6 e6 => ⟨c1, ?_, ?_, ?_, fun M1 e1 => ⟨c1, ?_⟩⟩⟩, fun z => ⟨c0, fun a ea M6 e6 => ⟨c1, ?_, ?_, ?_, ?_, fun M1 e1 => ⟨c1, ?_⟩⟩⟩, fun z => ⟨c0, fun a ea M6 e6 => ⟨c1, ?_, ?_, ?_, ?_, fun M1 e1 => ⟨c1, ?_⟩⟩⟩⟩ <;> subst ea <;> subst e6 <;> first | exact hT | exact iw _ (by decide) | skip
  · rw [nI_toInt (by omega)] at z
    have : k = 0 := by omega
    subst this; rw [e1]; exact fin
  · have := ke 1 (by omega) z
    subst this; rw [e1]; exact fin
  · have := ke 2 (by omega) z
    subst this; rw [e1]; exact fin
  · have := ke 3 (by omega) z
    subst this; rw [e1]; exact fin
  · have := ke 4 (by omega) z
    subst this; rw [e1]; exact fin
  · have := ke 5 (by omega) z
    subst this; rw [e1]; exact fin
theorem up2_2 {α : Type} {f : Nat → Nat → α} {a k : Nat} {v w : α} : up2 (up2 f a k v) a k w = up2 f a k w := by
  funext b j
  unfold up2
  split
  · split <;> rfl
  · rfl
theorem S_X12_keep {d what k f : Int32} (h : AbsC M c) (hQ : ∀ M', Kp cpA M M' → AbsC M' (nKeep c d what k f) → Q (aKeep d what k f) M') : wp_X12_keep 2 d what k f M Q := by
  unfold nKeep aKeep at hQ
  have no : ¬ (ix d < 8 ∧ ix what < 2 ∧ (ix what = 0 ∨ (ix k < 6 ∧ ix f < 50))) → Q (-1) M := fun n => by
    rw [if_neg n, if_neg n] at hQ
    exact hQ M Kp.rf h
  have d0 : ∀ x : Prop, (x ↔ True) → x := fun x h => h.mpr trivial
  refine ⟨by decide, S_X12_isShelf (fun i hi e1 => ⟨fun z => absurd z (by decide), fun _ => ⟨by decide, S_X12_isPart (fun j hj e2 => ⟨fun _ => ⟨fun z => ⟨fun y => ⟨by decide, no (fun q => ?_)⟩, fun y => ⟨fun x => ⟨by decide, no (fun q => ?_)⟩, fun x => ⟨by decide, S_X12_isFigure (fun g hg e3 => ⟨fun _ => ?_, fun z => absurd z (by decide)⟩) (fun hn => ⟨fun z => absurd rfl z, fun _ => ⟨by decide, no (fun q => ?_)⟩⟩)⟩⟩⟩, fun z => ?_⟩, fun z => absurd z (by decide)⟩) (fun hn => ⟨fun z => absurd rfl z, fun _ => ⟨by decide, no (fun q => hn ((inN_ix (by omega)).mpr q.2.1))⟩⟩)⟩⟩) (fun hn => ⟨fun _ => ⟨by decide, no (fun q => hn ((inN_ix (by omega)).mpr q.1))⟩, fun z => absurd rfl z⟩)⟩
  · have z := mt (ix_eq (x := what) (k := 0) (by omega)).mpr z
    exact inN_neg (n := 6) (by omega) y ((inN_ix (by omega)).mpr (by omega))
  · have z := mt (ix_eq (x := what) (k := 0) (by omega)).mpr z
    exact inN_ge (n := 6) (by omega) x ((inN_ix (by omega)).mpr (by omega))
  · have z := mt (ix_eq (x := what) (k := 0) (by omega)).mpr z
    have wd : ix d = i := by rw [e1, ix_nI (by omega)]
    have ww : ix what < 2 := by rw [e2, ix_nI (by omega)]; exact hj
    have wf : ix f = g := by rw [e3, ix_nI (by omega)]
    obtain ⟨kk, hk2, hk⟩ := inN_of (n := 6) (by omega) y x
    have wk : ix k = kk := by rw [hk, ix_nI (by omega)]
    have cnd : ix d < 8 ∧ ix what < 2 ∧ (ix what = 0 ∨ (ix k < 6 ∧ ix f < 50)) := ⟨by omega, ww, Or.inr ⟨by omega, by omega⟩⟩
    rw [if_pos cnd, if_pos cnd, if_neg z, wd, wf, wk] at hQ
    have gS := h.2.2.2.2.2.1 i hi
    rw [h.1.2.1.2.2.2.2.2.2.1, h.1.2.2.1.2.1, e1, nI_clamp (by omega), S_shelfR h hi, e3, hk]
    have hT := h.1.2.2.2.2.2.2.2.2.2
    refine ⟨h.1.1, h.1.2.2.1.1, vp_in_nI (by omega) (by omega), by decide, S_X12_wayOfKind (by omega) (by omega) (by omega) (fun M1 kp1 t1 w1 => ?_)⟩
    have h1 := h.kp kp1 (fun a q => absurd q id)
    have g1 := h1.2.2.2.2.2.1 i hi
    refine ⟨g1.1.1, by decide, g1.1.1, g1.1.1, fun M2 e2 M3 e3 M4 e4 => ⟨?_, fun M5 e5 => ⟨by decide, ?_⟩⟩⟩
    · rw [e4, e3, e2]; exact g1.1.1
    · have fr : Fr (fun x => x = 34 + 2 * i ∨ x = 34 + 2 * i + 1) (uR M1 (34 + 2 * i) 0 (mT M)) M5 := by
        have s1 : Fr (fun x => x = 34 + 2 * i) (uR M1 (34 + 2 * i) 0 0) M4 := by
          rw [e4, e3, e2]
          exact (Fr.uI (A := fun x => x = 34 + 2 * i) rfl).t2 (Fr.uI rfl)
        rw [e5]
        refine ⟨s1.1, s1.2.1, s1.2.2.1, ?_, fun a ha => s1.2.2.2.2 a (fun q => ha (Or.inl q))⟩
        show up2 (mR M4) (34 + 2 * i) 0 (mT M) = up2 (mR M1) (34 + 2 * i) 0 (mT M)
        rw [s1.R]
        exact up2_2
      have i1 : mI M5 (34 + 2 * i) 1 = -1 := by rw [e5, mI_uR, e4, mI_uI, if_pos rfl, if_neg (by decide), e3, mI_uI, if_pos rfl, if_pos rfl]
      have r0 : mR M5 (34 + 2 * i) 0 = mT M := by rw [e5, mR_uR, if_pos rfl, if_pos rfl]
      have rr : mR M5 (34 + 2 * i) 3 = 34 + 2 * i + 1 := by rw [fr.R, mR_uR, if_pos rfl, if_neg (by decide)]; exact g1.1.2.1
      have sg : ShAt M5 (34 + 2 * i) (1, kk, g, fun _ => 0) := by
        refine ⟨⟨by rw [fr.K]; exact g1.1.1, rr, by rw [fr.K]; exact g1.1.2.2.1, by rw [fr.N]; exact g1.1.2.2.2⟩, Or.inr (Or.inl ⟨rfl, by rw [r0]; exact hT, ?_, i1, ?_⟩)⟩
        · rw [r0, fr.1]
          show mT M < mT M1
          omega
        · rw [r0]
          exact WayAt.fr (M := uR M1 (34 + 2 * i) 0 (mT M)) w1 fr (by omega)
      obtain ⟨k9, c9⟩ := h1.shelf hi fr sg
      refine hQ M5 ?_ c9
      refine Kp.tr (M1 := M1) ⟨kp1.1, fun a ha hm => kp1.2 a (fun q => q) hm⟩ k9
  · have z := mt (ix_eq (x := what) (k := 0) (by omega)).mpr z
    exact hn ((inN_ix (by omega)).mpr (by omega))
  · have z := (ix_eq (x := what) (k := 0) (by omega)).mp z
    have wd : ix d = i := by rw [e1, ix_nI (by omega)]
    have cnd : ix d < 8 ∧ ix what < 2 ∧ (ix what = 0 ∨ (ix k < 6 ∧ ix f < 50)) := ⟨by omega, by omega, Or.inl z⟩
    rw [if_pos cnd, if_pos cnd, if_pos z, wd] at hQ
    have g1 := h.2.2.2.2.2.1 i hi
    rw [h.1.2.1.2.2.2.2.2.2.1, h.1.2.2.1.2.1, e1, nI_clamp (by omega), S_shelfR h hi]
    refine ⟨h.1.1, h.1.2.2.1.1, vp_in_nI (by omega) (by omega), g1.1.1, by decide, g1.1.1, fun M2 e2 M3 e3 M4 e4 => ⟨by decide, ?_⟩⟩
    have s1 : Fr (fun x => x = 34 + 2 * i ∨ x = 34 + 2 * i + 1) (uR M (34 + 2 * i) 0 0) M4 := by
      rw [e4, e3, e2]
      exact (Fr.uI (A := fun x => x = 34 + 2 * i ∨ x = 34 + 2 * i + 1) (Or.inl rfl)).t2 (Fr.uI (Or.inl rfl))
    have i1 : mI M4 (34 + 2 * i) 1 = -1 := by rw [e4, mI_uI, if_pos rfl, if_neg (by decide), e3, mI_uI, if_pos rfl, if_pos rfl]
    have r0 : mR M4 (34 + 2 * i) 0 = 0 := by rw [s1.R, mR_uR, if_pos rfl, if_pos rfl]
    have rr : mR M4 (34 + 2 * i) 3 = 34 + 2 * i + 1 := by rw [s1.R, mR_uR, if_pos rfl, if_neg (by decide)]; exact g1.1.2.1
    have sg : ShAt M4 (34 + 2 * i) (0, 0, 0, fun _ => 0) := ⟨⟨by rw [s1.K]; exact g1.1.1, rr, by rw [s1.K]; exact g1.1.2.2.1, by rw [s1.N]; exact g1.1.2.2.2⟩, Or.inl ⟨rfl, r0, i1⟩⟩
    obtain ⟨k9, c9⟩ := h.shelf hi s1 sg
    exact hQ M4 k9 c9
theorem S_X12_placeOfBest {q L f : Nat} {e : Nat → Int} (h : AbsC M c) (hq : 34 ≤ q ∧ q < 50) (hL : 1 ≤ L ∧ L ≤ 6) (hs : ShOK M q) (hn : mI M q 2 = nI L) (he : ∀ i, i < L → (0 ≤ e i ∧ e i < 6) ∧ mI M (q + 1) i = iI (e i)) (hf : f ≤ 49)
    (hQ : ∀ M', Kp cpA M M' → AbsC M' c → Q (nI (bst (fun i => jI (meanX (cS c) (e i).toNat f)) L)) M') : wp_X12_placeOfBest 2 q (nI f) M Q := by
  refine for_up (fun m i => ∀ M', Kp scr M M' → AbsC M' c → lp_X12_placeOfBest_8 Q m 2 q (nI f) (nI (bst (fun i => jI (meanX (cS c) (e i).toNat f)) i)) (if i = 0 then 0 else jI (meanX (cS c) (e (bst (fun i => jI (meanX (cS c) (e i).toNat f)) i)).toNat f)) (nI i) M' i i) L (fun m M' kp ha => ?_) (fun m i hi ih M' kp ha => ?_) |> fun ⟨m, hx⟩ => ⟨m, hx M Kp.rf h⟩
  · obtain ⟨s1, s2, s3, s4, s5⟩ := kp.2 q (by simp only [scr]; omega) (by have := h.1.2.2.2.2.2.2.2.2.2; omega)
    unfold lp_X12_placeOfBest_8
    rw [s1, s4, hn]
    exact ⟨hs.1, fun _ => ⟨by omega, hQ M' ⟨kp.1, fun a na hm => kp.2 a (fun z => na (scr_cp z)) hm⟩ ha⟩, fun z => absurd (nI_le (Nat.le_refl _) (by omega)) z⟩
  · obtain ⟨s1, s2, s3, s4, s5⟩ := kp.2 q (by simp only [scr]; omega) (by have := h.1.2.2.2.2.2.2.2.2.2; omega)
    obtain ⟨u1, u2, u3, u4, u5⟩ := kp.2 (q + 1) (by simp only [scr]; omega) (by have := h.1.2.2.2.2.2.2.2.2.2; omega)
    obtain ⟨e1, e2⟩ := he i hi
    have hT := ha.1.2.2.2.2.2.2.2.2.2
    unfold lp_X12_placeOfBest_8
    rw [s1, s3, s4, hn, hs.2.1, u1, u2, u4, nI_clamp (by omega), e2, hs.2.2.2, ha.1.2.1.1, ha.1.2.1.2.2.2.2.2.2.2.2.1, show iI (e i) = nI (e i).toNat by rw [nI_iI]; congr 1; omega]
    refine ⟨hs.1, fun z => absurd z (nI_ge hi (by omega)), fun _ => ⟨ha.1.1, hs.2.2.1, vp_in_nI (by omega) (by omega), by omega, S_X12_wayOfKind (by omega) (by omega) hf (fun M1 kp1 t1 w1 => ?_)⟩⟩
    have h1 := ha.kp kp1 (fun a q => absurd q id)
    refine ⟨h1.1.2.2.2.2.2.2.2.1.1, by omega, S_X0_weigh h1.1.2.2.2.2.2.2.2.1 h1.2.1 w1 (by unfold apart; omega) (by simp only [dyA]; omega) (fun M2 f2 x2 x3 => ?_)⟩
    have h2 := h1.fr f2 (fun a q => dy_scr q)
    have kp2 : Kp scr M M2 := kp.tr (Kp.tr (M1 := M1) ⟨kp1.1, fun a na hm => kp1.2 a (fun z => z) hm⟩ (f2.Kp (fun a q => dy_scr q)))
    have ih := ih M2 kp2 h2
    have bs : bst (fun i => jI (meanX (cS c) (e i).toNat f)) (i + 1) = if i = 0 then 0 else if jI (meanX (cS c) (e i).toNat f) ≤ jI (meanX (cS c) (e (bst (fun i => jI (meanX (cS c) (e i).toNat f)) i)).toNat f) then bst (fun i => jI (meanX (cS c) (e i).toNat f)) i else i := rfl
    rw [bs, if_neg (show ¬ i + 1 = 0 by omega), ← nI_1] at ih
    generalize bst (fun i => jI (meanX (cS c) (e i).toNat f)) i = B at *
    have i0 : nI i = (0 : Int32) ↔ i = 0 := nI_eq (b := 0) (by omega) (by omega)
    have p57 : (i = 0 ∨ ¬ jI (meanX (cS c) (e i).toNat f) ≤ jI (meanX (cS c) (e B).toNat f)) → jn_X12_placeOfBest_57 (fun fx0 fx1 fx2 fx3 fx4 fx6 fM fk fsl => lp_X12_placeOfBest_8 Q m fx0 fx1 fx2 fx3 fx4 fx6 fM fk fsl) Q 2 q (nI f) (nI i) M2 ((i + 1) + 0) ((i + 1) + 0) := by
      intro o
      unfold jn_X12_placeOfBest_57
      rw [h2.1.2.1.2.2.2.2.2.2.2.2.1]
      refine ⟨h2.1.1, h2.1.2.2.2.2.2.2.2.1.1, fun y hy => ?_⟩
      rw [x2] at hy
      rw [hy]
      rcases o with o | o
      · subst o
        rw [if_pos rfl] at ih
        exact ih
      · by_cases z : i = 0
        · subst z
          rw [if_pos rfl] at ih
          exact ih
        · rw [if_neg z, if_neg o] at ih
          exact ih
    refine ⟨fun z => p57 (Or.inl (i0.mp z)), fun z => ⟨h2.1.1, ?_⟩⟩
    have z := mt i0.mpr z
    rw [h2.1.2.1.2.2.2.2.2.2.2.2.1, x2, if_neg z]
    refine ⟨h2.1.2.2.2.2.2.2.2.1.1, fun y => ?_, fun y => p57 (Or.inr y)⟩
    rw [if_neg z, if_pos y] at ih
    exact ih
theorem S_X12_bestWay {d f : Int32} (h : AbsC M c) (hQ : ∀ M', Kp cpA M M' → AbsC M' c → Q (aBestWay c d f) M') : wp_X12_bestWay 2 d f M Q := by
  unfold aBestWay at hQ
  have q := hQ M Kp.rf h
  refine ⟨by decide, S_X12_isFigure (fun g hg e1 => ⟨fun _ => ⟨h.1.1, by decide, S_X12_bytesOn h (fun hn => ⟨fun z => absurd rfl z, fun _ => ⟨h.1.1, by decide, S_X12_whyNo h ⟨by decide, ?_⟩⟩⟩) (fun i hi e2 g1 g2 => ⟨fun _ => ?_, fun z => by omega⟩)⟩, fun z => absurd z (by decide)⟩) (fun hn => ⟨fun z => absurd rfl z, fun _ => ⟨by decide, ?_⟩⟩)⟩
  · rw [if_pos (by rw [e1, ix_nI (by omega)]; exact hg), if_neg (fun z => ?_)] at q
    · exact q
    · obtain ⟨x1, x2, x3⟩ := z
      exact hn (ix d) x1 ((ix_eq (by omega)).mpr rfl) ⟨x2, x3⟩
  · have wd : ix d = i := by rw [e2, ix_nI (by omega)]
    have wf : ix f = g := by rw [e1, ix_nI (by omega)]
    have br : bR c d := ⟨by omega, by rw [wd]; exact g1, by rw [wd]; exact g2⟩
    have gS := h.2.2.2.2.2.1 i hi
    obtain ⟨r1, r2, r3, r4, r5⟩ := row_at h hi g1
    have bi : bwC c d ↔ 1 ≤ (cG c i).2.2.1 ∧ (cG c i).2.2.1 ≤ 6 ∧ ∀ j, j < (cG c i).2.2.1 → 0 ≤ (cG c i).2.2.2 j ∧ (cG c i).2.2.2 j < 6 := by
      unfold bwC rL
      rw [wd]
    have hA : bwC c d → rdy c → ∀ M', Kp cpA M M' → AbsC M' c → Q (nI (bst (fun j => jI (meanX (cS c) ((cG c i).2.2.2 j).toNat g)) (cG c i).2.2.1)) M' := fun b r M' kp ha => by
      have q := hQ M' kp ha
      rw [if_pos (by omega), if_pos br, if_pos b, if_pos r] at q
      unfold bwF rL at q
      rw [wd, wf] at q
      exact q
    have hB : bwC c d → ¬ rdy c → Q (-3) M := fun b r => by
      rw [if_pos (by omega), if_pos br, if_pos b, if_neg r] at q; exact q
    have hC : ¬ bwC c d → Q (-13) M := fun b => by
      rw [if_pos (by omega), if_pos br, if_neg b] at q; exact q
    clear hQ q
    generalize bwC c d = BW at *
    have l1 : nI (cG c i).2.2.1 < (1 : Int32) ↔ (cG c i).2.2.1 < 1 := nI_lt31 (b := 1) (by omega) (by omega)
    have l6 : (6 : Int32) < nI (cG c i).2.2.1 ↔ 6 < (cG c i).2.2.1 := nI_lt31 (a := 6) (by omega) (by omega)
    rw [r4]
    refine ⟨gS.1.1, fun z => ⟨by decide, hC (fun b => by have := l1.mp z; have := bi.mp b; omega)⟩, fun z => ⟨fun y => ⟨by decide, hC (fun b => by have := l6.mp y; have := bi.mp b; omega)⟩, fun y => ⟨by decide, S_X4_allBelow (k := 6) gS.1 r1 (by omega) r4 r5 (fun al => ⟨fun _ => ?_, fun z => absurd z (by decide)⟩) (fun al => ⟨fun z => absurd rfl z, fun _ => ⟨by decide, hC (fun b => al (bi.mp b).2.2)⟩⟩)⟩⟩⟩
    have z := mt l1.mpr z
    have y := mt l6.mpr y
    have bw := bi.mpr ⟨by omega, by omega, al⟩
    rw [h.1.2.1.1]
    refine ⟨h.1.1, h.2.1.1.1.1, by decide, S_ready h (fun r => ⟨fun z => absurd z (by decide), fun _ => ⟨h.1.1, by decide, ?_⟩⟩) (fun r => ⟨fun _ => ⟨by decide, hB bw r⟩, fun z => absurd rfl z⟩)⟩
    rw [e1]
    exact S_X12_placeOfBest h (by omega) ⟨by omega, by omega⟩ gS.1 r4 (fun j hj => ⟨al j hj, (r5 j hj).2⟩) (by omega) (fun M' kp ha => ⟨by decide, hA bw r M' kp ha⟩)
  · rw [if_neg (fun z => hn ((inN_ix (by omega)).mpr z))] at q; exact q
end COMP
