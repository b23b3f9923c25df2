/-! THE REFERENCE: what is set, kept, laid; thoughts anew, after events; beside -/
theorem RSh.fg2 {P : Nat → Nat → Prop} {M M' : Mem} {d : Nat} {g : ShT} (hi : RSh M d g) (f : Fg P M M') (h1 : ∀ a, 113 ≤ a → a ≤ 117 → ¬ P a d) (h2 : ∀ i, i < 100 → ¬ P 118 (100 * d + i)) : RSh M' d g := by
  have e : ∀ a, 113 ≤ a → a ≤ 117 → mI M' a d = mI M a d := fun a q1 q2 => f.I (h1 a q1 q2)
  rcases hi with ⟨a1, a2⟩ | ⟨a1, a2, a3, a4, a5, a6⟩ | ⟨a1, a2, a3, a4, a5, a6, a7⟩
  · exact Or.inl ⟨a1, by rw [e 113 (by omega) (by omega)]; exact a2⟩
  · exact Or.inr (Or.inl ⟨a1, by rw [e 113 (by omega) (by omega)]; exact a2, by rw [e 114 (by omega) (by omega)]; exact a3, a4, by rw [e 115 (by omega) (by omega)]; exact a5, a6⟩)
  · exact Or.inr (Or.inr ⟨a1, by rw [e 113 (by omega) (by omega)]; exact a2, a3, by rw [e 116 (by omega) (by omega)]; exact a4, a5, by rw [e 117 (by omega) (by omega)]; exact a6, fun i hi => ⟨(a7 i hi).1, by rw [f.J (h2 i (by omega))]; exact (a7 i hi).2⟩⟩)
abbrev shC (d a k : Nat) : Prop := (113 ≤ a ∧ a ≤ 117 ∧ k = d) ∨ (a = 118 ∧ 100 * d ≤ k ∧ k < 100 * d + 100)
theorem sh8 {d a k : Nat} (h : shC d a k) : 87 ≤ a ∧ a < 120 := by simp only [shC] at h; omega
theorem AbsR.shelf {M M' : Mem} {c : CT} {d : Nat} {g : ShT} (h : AbsR M c) (f : Fg (shC d) M M') (hg : RSh M' d g) : AbsR M' (setG c d g) := by
  obtain ⟨h1, h2, h3, h4, h5, h6⟩ := h
  refine ⟨h1.fg f, h2.fg f (fun a k q => by simp only [shC] at q; simp only [stC]; omega), h3.fg f (by simp only [shC]; omega) (fun k => by simp only [shC]; omega), ?_, fun hi => (h5 hi).fg f (fun k => by simp only [shC]; omega), fun j hj => ?_⟩
  · rw [f.I (by simp only [shC]; omega)]; exact h4
  · show RSh M' j (if j = d then g else cG c j)
    by_cases e : j = d
    · rw [if_pos e, e]; exact hg
    · rw [if_neg e]
      exact (h6 j hj).fg2 f (fun a q1 q2 => by simp only [shC]; omega) (fun i hi => by simp only [shC]; omega)
theorem AbsR.set {M M' : Mem} {c : CT} {σ : StT} (h : AbsR M c) (f : Fg (fun a k => a = 87 ∧ (k = 7 ∨ k = 8 ∨ k = 9)) M M') (hw : sWF σ) (e1 : (sN σ, sCh σ, sVa σ, sS σ, sKd σ, sPt σ, sLi σ) = (sN (cS c), sCh (cS c), sVa (cS c), sS (cS c), sKd (cS c), sPt (cS c), sLi (cS c))) (e7 : mI M' 87 7 = nI (sMo σ)) (e8 : mI M' 87 8 = nI (sCo σ)) (e9 : mI M' 87 9 = nI (sHo σ)) : AbsR M' (setS c σ) := by
  obtain ⟨h1, h2, h3, h4, h5, h6⟩ := h
  obtain ⟨_, x2⟩ := Prod.mk.inj e1
  obtain ⟨y1, x3⟩ := Prod.mk.inj x2
  obtain ⟨y2, x4⟩ := Prod.mk.inj x3
  obtain ⟨y3, x5⟩ := Prod.mk.inj x4
  obtain ⟨y4, x6⟩ := Prod.mk.inj x5
  obtain ⟨y5, y6⟩ := Prod.mk.inj x6
  rename_i y0
  refine ⟨h1.fg f, ⟨hw, ⟨?_, ?_, e7, e8, e9⟩, fun i hi => ?_, fun j hj => ?_⟩, ?_, ?_, fun hi => (h5 hi).fg f (fun k => by omega), fun d hd => (h6 d hd).fg f (fun a k q => by omega)⟩
  · show mI M' 87 0 = nI (sN σ)
    rw [f.I (by omega), y0]; exact h2.2.1.1
  · show mI M' 87 3 = nI (sS σ)
    rw [f.I (by omega), y3]; exact h2.2.1.2.1
  · show mI M' 88 i = nI (sCh σ i) ∧ mI M' 89 i = nI (sVa σ i)
    change i < sN σ at hi
    rw [f.I (by omega), f.I (by omega), y1, y2]
    exact h2.2.2.1 i (by omega)
  · show mI M' 90 j = nI (sKd σ j) ∧ mI M' 91 j = nI (sPt σ j) ∧ mI M' 92 j = nI (sLi σ j)
    change j < sS σ at hj
    rw [f.I (by omega), f.I (by omega), f.I (by omega), y4, y5, y6]
    exact h2.2.2.2 j (by omega)
  · show RTh M' (sN σ) (cW c) (cH c)
    rw [y0]
    exact h3.fg f (by omega) (fun k => by omega)
  · rw [f.I (by omega)]; exact h4
section REF
variable {M : Mem} {σ : StT} {c : CT} {w : Nat → Nat} {Q : Int32 → Mem → Prop} {QJ0 : Int64 → Mem → Prop} {QV0 : Mem → Prop}
theorem S_inY {x : Int32} {lo hi : Int64} (k1 k2 : Nat) (hk : k1 < 2147483648) (hk2 : k2 < 2147483648) (e1 : lo = lN k1) (e2 : hi = lN k2) (h1 : k1 ≤ ix x ∧ ix x ≤ k2 → Q 1 M) (h0 : ¬ (k1 ≤ ix x ∧ ix x ≤ k2) → Q 0 M) : wp_X13_in x.toInt64 lo hi M Q := by
  have a1 : x.toInt64.toInt = x.toInt := Int32.toInt_toInt64 x
  have a2 : hi.toInt = (k2 : Int) := by rw [e2]; exact lN_toInt hk2
  have a3 : lo.toInt = (k1 : Int) := by rw [e1]; exact lN_toInt hk
  have a4 := ix_lt (x := x) (n := k2 + 1) (by omega)
  have a5 := ix_lt (x := x) (n := k1) (by omega)
  refine S_in (fun q => h1 ?_) (fun q => h0 (fun z => q ?_))
  · rw [a1, a2, a3] at q
    have := a4.mpr (by omega)
    refine ⟨?_, by omega⟩
    rcases Nat.lt_or_ge (ix x) k1 with h | h
    · have := a5.mp h; omega
    · exact h
  · rw [a1, a2, a3]
    have := a4.mp (by omega)
    refine ⟨?_, by omega⟩
    by_cases h : x.toInt < (k1 : Int)
    · have := a5.mpr (by omega); omega
    · omega
theorem S_X13_set {x y : Int32} (h : AbsR M c) (hQ : ∀ M', Fg mdC8 M M' → AbsR M' (nSet c x y) → Q (aSet c x y) M') : wp_X13_set 87 x y M Q := by
  unfold nSet aSet at hQ
  refine th0 h (fun M1 h1 f1 z1 => ?_)
  have hw := h1.2.1.1
  obtain ⟨-, -, v7, v8, v9⟩ := h1.2.1.2.1
  have no : ¬ ((ix x = 0 ∧ ix y ≤ 20) ∨ (ix x = 1 ∧ ix y ≤ 9) ∨ (ix x = 2 ∧ 1 ≤ ix y ∧ ix y ≤ 6)) → Q (-1) M1 := fun n => by
    have q := hQ M1 f1
    rw [if_neg (fun z => n (Or.inl z)), if_neg (fun z => n (Or.inr (Or.inl z))), if_neg (fun z => n (Or.inr (Or.inr z))), if_neg (fun z => n (Or.inl z)), if_neg (fun z => n (Or.inr (Or.inl z))), if_neg (fun z => n (Or.inr (Or.inr z)))] at q
    exact q h1
  -- three fields are written
  have wr : ∀ (a b d : Int32) (σ : StT) (r : Int32), a = nI (sMo σ) → b = nI (sCo σ) → d = nI (sHo σ) → sWF σ → (sN σ, sCh σ, sVa σ, sS σ, sKd σ, sPt σ, sLi σ) = (sN (cS c), sCh (cS c), sVa (cS c), sS (cS c), sKd (cS c), sPt (cS c), sLi (cS c)) → (∀ M', Fg mdC8 M M' → AbsR M' (setS c σ) → Q r M') → ∀ M2 M3 M4, M2 = uI M1 87 7 a → M3 = uI M2 87 8 b → M4 = uI M3 87 9 d → Q r M4 := by
    intro a b d σ r ea eb ed hwf he hq M2 M3 M4 e2 e3 e4
    have f4 : Fg (fun a k => a = 87 ∧ (k = 7 ∨ k = 8 ∨ k = 9)) M1 M4 := by rw [e4, e3, e2]; exact ((Fg.pI ⟨rfl, Or.inl rfl⟩).sI ⟨rfl, Or.inr (Or.inl rfl)⟩).sI ⟨rfl, Or.inr (Or.inr rfl)⟩
    refine hq M4 (f1.t2 (f4.m8 (fun a k q => by omega))) (h1.set f4 hwf he ?_ ?_ ?_)
    · rw [e4, mI_uI, if_pos rfl, if_neg (by decide), e3, mI_uI, if_pos rfl, if_neg (by decide), e2, mI_uI, if_pos rfl, if_pos rfl]; exact ea
    · rw [e4, mI_uI, if_pos rfl, if_neg (by decide), e3, mI_uI, if_pos rfl, if_pos rfl]; exact eb
    · rw [e4, mI_uI, if_pos rfl, if_pos rfl]; exact ed
  refine S_inX 2 (by omega) rfl (fun a => ⟨fun z => absurd z (by decide), fun _ => ?_⟩) (fun a => ⟨fun _ => no (by omega), fun z => absurd rfl z⟩)
  obtain ⟨j, hj, rfl⟩ := ix_ex a (by omega)
  rw [ix_nI (by omega)] at hQ no
  have hj3 : j = 0 ∨ j = 1 ∨ j = 2 := by omega
  rcases hj3 with rfl | rfl | rfl
  · refine ⟨fun _ => ⟨fun z => absurd rfl z, fun _ => S_inY 0 20 (by omega) (by omega) rfl rfl (fun b => ⟨fun _ => ⟨fun z => absurd rfl z, fun _ => ⟨h1.1.1, fun z => absurd rfl z, fun _ => ⟨h1.1.1, fun M2 e2 => ⟨fun _ => ⟨by rw [e2]; exact h1.1.1, by rw [e2]; exact h1.1.1, fun M3 e3 => ⟨fun _ => ⟨by rw [e3, e2]; exact h1.1.1, by rw [e3, e2]; exact h1.1.1, fun M4 e4 => ?_⟩, fun z => absurd z (by decide)⟩⟩, fun z => absurd z (by decide)⟩⟩⟩⟩, fun z => absurd z (by decide)⟩) (fun b => ⟨fun z => absurd rfl z, fun _ => no (by omega)⟩)⟩, fun z => absurd z (by decide)⟩
    rw [if_pos ⟨rfl, b.2⟩, if_pos ⟨rfl, b.2⟩] at hQ
    rw [v7]
    obtain ⟨n, hn, rfl⟩ := ix_ex (x := y) (n := 21) (by omega) (by omega)
    rw [ix_nI (by omega)] at hQ
    refine wr _ _ _ (setM (cS c) n) _ rfl ?_ ?_ (setM_wf hw (by omega)) rfl hQ M2 M3 M4 e2 e3 e4
    · rw [e2, mI_uI, if_pos rfl, if_neg (by decide)]; exact v8
    · rw [e3, mI_uI, if_pos rfl, if_neg (by decide), e2, mI_uI, if_pos rfl, if_neg (by decide)]; exact v9
  · refine ⟨fun _ => ⟨fun _ => ⟨fun z => absurd rfl z, fun _ => S_inY 0 9 (by omega) (by omega) rfl rfl (fun b => ⟨fun _ => ⟨fun _ => ⟨fun z => absurd rfl z, fun _ => ⟨h1.1.1, fun _ => ⟨h1.1.1, h1.1.1, fun M2 e2 => ⟨fun z => absurd rfl z, fun _ => ⟨by rw [e2]; exact h1.1.1, fun M3 e3 => ⟨fun _ => ⟨by rw [e3, e2]; exact h1.1.1, by rw [e3, e2]; exact h1.1.1, fun M4 e4 => ?_⟩, fun z => absurd z (by decide)⟩⟩⟩⟩, fun z => absurd z (by decide)⟩⟩, fun z => absurd z (by decide)⟩, fun z => absurd z (by decide)⟩) (fun b => ⟨fun z => absurd rfl z, fun _ => no (by omega)⟩)⟩, fun z => absurd z (by decide)⟩, fun z => absurd z (by decide)⟩
    rw [if_neg (by omega), if_pos ⟨rfl, b.2⟩, if_neg (by omega), if_pos ⟨rfl, b.2⟩] at hQ
    rw [v8]
    obtain ⟨n, hn, rfl⟩ := ix_ex (x := y) (n := 10) (by omega) (by omega)
    rw [ix_nI (by omega)] at hQ
    refine wr _ _ _ (setK (cS c) n) _ v7 rfl ?_ (setK_wf hw (by omega)) rfl hQ M2 M3 M4 e2 e3 e4
    rw [e3, mI_uI, if_pos rfl, if_neg (by decide), e2, mI_uI, if_pos rfl, if_neg (by decide)]; exact v9
  · refine ⟨fun z => absurd rfl z, fun _ => ⟨fun _ => ⟨fun _ => S_inY 1 6 (by omega) (by omega) rfl rfl (fun b => ⟨fun _ => ⟨fun _ => ⟨fun _ => ⟨h1.1.1, fun _ => ⟨h1.1.1, h1.1.1, fun M2 e2 => ⟨fun _ => ⟨by rw [e2]; exact h1.1.1, by rw [e2]; exact h1.1.1, fun M3 e3 => ⟨fun z => absurd rfl z, fun _ => ⟨by rw [e3, e2]; exact h1.1.1, fun M4 e4 => ?_⟩⟩⟩, fun z => absurd z (by decide)⟩⟩, fun z => absurd z (by decide)⟩, fun z => absurd z (by decide)⟩, fun z => absurd z (by decide)⟩, fun z => absurd z (by decide)⟩) (fun b => ⟨fun z => absurd rfl z, fun _ => no (by omega)⟩), fun z => absurd z (by decide)⟩, fun z => absurd z (by decide)⟩⟩
    rw [if_neg (by omega), if_neg (by omega), if_pos ⟨rfl, b⟩, if_neg (by omega), if_neg (by omega), if_pos ⟨rfl, b⟩] at hQ
    rw [v9]
    obtain ⟨n, hn, rfl⟩ := ix_ex (x := y) (n := 7) (by omega) (by omega)
    rw [ix_nI (by omega)] at hQ b
    refine wr _ _ _ (setH (cS c) n) _ v7 ?_ rfl (setH_wf hw b) rfl hQ M2 M3 M4 e2 e3 e4
    rw [e2, mI_uI, if_pos rfl, if_neg (by decide)]; exact v8
theorem S_X13_anew (h : AbsR M c) (hQ : ∀ M', Fg mdC8 M M' → AbsR M' (nAnew c) → Q (aAnew c) M') : wp_X13_anew 87 M Q := by
  unfold nAnew aAnew at hQ
  refine th0 h (fun M1 h1 f1 z1 => ?_)
  refine S_R_isReady h1.1 h1.2.1 (fun r => ⟨fun _ => ⟨h1.1.1, S_R_thinkAnew h1.1 h1.2.1 (fun M2 f2 t2 => ?_)⟩, fun z => absurd z (by decide)⟩) (fun r => ⟨fun z => absurd rfl z, fun _ => ?_⟩)
  · rw [if_pos r, if_pos r] at hQ
    have r2 : RS M2 (cS c) := h1.2.1.fg f2 (fun a k q => by simp only [stC]; omega)
    have m2 := h1.1.fg f2
    have h2 : AbsR M2 (setT c (sCh (cS c)) 0) := by
      obtain ⟨a1, a2, a3, a4, a5, a6⟩ := h1
      refine ⟨m2, r2, t2, ?_, fun hi => (a5 hi).fg f2 (fun k => by omega), fun d hd => (a6 d hd).fg f2 (fun a k q => by omega)⟩
      rw [f2.I (by omega)]; exact a4
    refine ⟨m2.1, S_R_setMind m2 r2 t2 (fun M3 f3 m3 => ?_)⟩
    have h3 := h2.mi f3
    have hp : 0 < sumN (sCh (cS c)) (sN (cS c)) := by have r : sumN (sCh (cS c)) (sN (cS c)) = 100 := r; omega
    exact ⟨h3.1.1, S_R_meanInMind h3.1 h3.2.1 m3 (fun i hi => Nat.le_trans (h1.2.1.1.2.1 i hi).2.1 (by omega)) hp (hQ M3 ((f1.t2 (f2.m8 (fun a k q => by omega))).t2 f3.mi8) h3)⟩
  · rw [if_neg r, if_neg r] at hQ
    exact hQ M1 f1 h1
theorem S_X13_event {e b a : Int32} (h : AbsR M c) (hQ : ∀ M', Fg mdC8 M M' → AbsR M' (nEvent c e b a) → Q (aEvent c e b a) M') : wp_X13_event 87 e b a M Q := by
  unfold nEvent aEvent at hQ
  refine th0 h (fun M1 h1 f1 z1 => ?_)
  have h6 := h1.2.1.1.1
  refine S_inX 2 (by omega) rfl (fun p1 => ⟨fun z => absurd z (by decide), fun _ => S_R_isSlate (fun p2 => ⟨fun _ => ⟨h1.1.1, S_R_isReady h1.1 h1.2.1 (fun r => ⟨fun _ => ⟨h1.1.1, S_R_setMind h1.1 h1.2.1 h1.2.2.1 (fun M2 f2 m2 => ?_)⟩, fun z => absurd z (by decide)⟩) (fun r => ⟨fun z => absurd rfl z, fun _ => ?_⟩)⟩, fun z => absurd z (by decide)⟩) (fun p2 => ⟨fun z => absurd rfl z, fun _ => ?_⟩)⟩) (fun p1 => ⟨fun _ => ?_, fun z => absurd rfl z⟩)
  · have h2 := h1.mi f2
    rw [h2.2.2.1.1]
    have wl : ∀ i, i < sN (cS c) → cW c i ≤ 100000000000 := fun i hi => (h1.2.2.1.2.2 i hi).1
    have hh := h1.2.2.1.2.1
    obtain ⟨ev, hev, rfl⟩ := ix_ex p1 (by omega)
    obtain ⟨p3, p4⟩ := p2
    obtain ⟨a, ha, rfl⟩ := ix_ex (x := a) (n := 101) (by omega) (by omega)
    obtain ⟨b, hb, rfl⟩ := ix_ex (x := b) (n := 101) (by omega) (by omega)
    rw [ix_nI (by omega), ix_nI (by omega)] at p3
    have ee : evC c (nI ev) (nI b) (nI a) ↔ 0 < sumN (flw (cS c) (cW c) (cH c) ev b a) (sN (cS c)) := by
      unfold evC sl evW
      rw [ix_nI (by omega), ix_nI (by omega), ix_nI (by omega)]
      exact ⟨fun q => q.2.2.2, fun q => ⟨by omega, ⟨p3, by omega⟩, r, q⟩⟩
    have eW : evW c (nI ev) (nI b) (nI a) = flw (cS c) (cW c) (cH c) ev b a := by
      unfold evW
      rw [ix_nI (by omega), ix_nI (by omega), ix_nI (by omega)]
    refine ⟨h2.1.1, S_R_goesOn h2.1 h2.2.1 m2 wl (by omega) p3 (by omega) hh (fun hp M3 f3 m3 => ⟨fun _ => ?_, fun z => absurd z (by decide)⟩) (fun hp M3 f3 => ⟨fun z => absurd rfl z, fun _ => ?_⟩)⟩
    · rw [if_pos (ee.mpr hp), if_pos (ee.mpr hp), eW, ix_nI (by omega)] at hQ
      have h3 := h2.mi f3
      have hr2 := hA_rng h1.2.1.1 hh hp
      have sl : ∀ i, i < sN (cS c) → stl (sN (cS c)) (flw (cS c) (cW c) (cH c) ev b a) i ≤ 100000000000 := stl_le (fun i hi => Nat.mul_le_mul (wl i hi) (odds_le h1.2.1.1))
      have sp : 0 < sumN (stl (sN (cS c)) (flw (cS c) (cW c) (cH c) ev b a)) (sN (cS c)) := by
        obtain ⟨i, hi, hx⟩ := (sumN_pos _).mp hp
        exact (sumN_pos _).mpr ⟨i, hi, stl_pos hi hx⟩
      generalize stl (sN (cS c)) (flw (cS c) (cW c) (cH c) ev b a) = v at *
      have no : ∀ a k, (fun a _k => a = 93) a k → ¬ stC a k := fun a k q => by simp only [stC]; omega
      refine for_up (fun m i => ∀ M', Fg (fun a _k => a = 93) M3 M' → (∀ j, j < i → mJ M' 93 j = lN (v j)) → lp_X13_event_61 Q m 87 (nI ev) (nI i) M') (sN (cS c)) (fun m M' f hz => ?_) (fun m i hi ih M' f hz => ?_) |> fun ⟨m, hm⟩ => ⟨m, hm M3 Fg.rf (fun j hj => absurd hj (by omega))⟩
      · have r4 := h3.2.1.fg f no
        have m4 := h3.1.fg f
        have t4 : mI M' 87 11 = iI (cH c) := by rw [f.I (by omega)]; exact h3.2.2.1.1
        unfold lp_X13_event_61
        rw [t4]
        refine ⟨m4.1, fun _ => S_R_heldBy (by omega) ⟨m4.1, fun M5 e5 => ?_⟩, fun hn => absurd (by rw [r4.2.1.1]; exact nI_le (Nat.le_refl _) (by omega)) hn⟩
        have f5 : Fg (fun a k => a = 93 ∨ (a = 87 ∧ k = 11)) M3 M5 := by
          rw [e5]; exact (f.mono (fun a k q => Or.inl q)).sI (Or.inr ⟨rfl, rfl⟩)
        have h5 : AbsR M5 (setT c v (hA ev (cH c))) := by
          obtain ⟨a1, a2, a3, a4, a5, a6⟩ := h3
          refine ⟨a1.fg f5, a2.fg f5 (fun a k q => by simp only [stC]; omega), ⟨?_, hr2, fun i hi => ⟨sl i hi, ?_⟩⟩, ?_, fun hi => (a5 hi).fg f5 (fun k => by omega), fun d hd => (a6 d hd).fg f5 (fun a k q => by omega)⟩
          · rw [e5, mI_uI, if_pos rfl, if_pos rfl]; rfl
          · rw [e5, mJ_uI]; exact hz i hi
          · rw [f5.I (by omega)]; exact a4
        have m5 : Mi M5 (sN (cS c)) v := m3.fg f5 (fun k => by omega)
        exact S_R_meanInMind h5.1 h5.2.1 m5 sl sp (hQ M5 (((f1.t2 f2.mi8).t2 f3.mi8).t2 (f5.m8 (fun a k q => by omega))) h5)
      · have r4 := h3.2.1.fg f no
        have m4 := h3.1.fg f
        have m5 : Mi M' (sN (cS c)) v := m3.fg f (fun k => by omega)
        have hin : vp_in (nI i) 6 := vp_in_nI (by omega) (by omega)
        unfold lp_X13_event_61
        refine ⟨m4.1, fun hle => absurd (by rw [r4.2.1.1] at hle; exact hle) (nI_ge hi (by omega)), fun _ => ?_⟩
        rw [m4.r23, m4.n23, m4.r10, m4.n10, nI_clamp (by omega), m5 i hi]
        refine ⟨m4.k23, hin, m4.k10, hin, fun M6 e6 => ?_⟩
        subst e6
        rw [nI_1]
        exact ih _ (f.sJ rfl) (fil (f := fun j => lN (v j)) hz rfl)
    · rw [if_neg (mt ee.mp hp), if_neg (mt ee.mp hp), if_pos] at hQ
      · exact hQ M3 ((f1.t2 f2.mi8).t2 f3.mi8) (h2.mi f3)
      · refine ⟨by omega, ?_⟩
        unfold sl
        rw [ix_nI (by omega), ix_nI (by omega)]
        exact ⟨p3, by omega⟩
  · rw [if_neg (fun q => r q.2.2.1), if_neg (fun q => r q.2.2.1), if_pos ⟨by omega, p2⟩] at hQ
    exact hQ M1 f1 h1
  · rw [if_neg (fun q => p2 q.2.1), if_neg (fun q => p2 q.2.1), if_neg (fun q => p2 q.2)] at hQ
    exact hQ M1 f1 h1
  · rw [if_neg (fun q => p1 (by have := q.1; omega)), if_neg (fun q => p1 (by have := q.1; omega)), if_neg (fun q => p1 (by have := q.1; omega))] at hQ
    exact hQ M1 f1 h1
end REF
