/-! THE REFERENCE: shelves -/
def aKeep (d what k f : Int32) : Int32 := if ix d < 8 ∧ ix what < 2 ∧ (ix what = 0 ∨ (ix k < 6 ∧ ix f < 50)) then 0 else -1
def nKeep (c : CT) (d what k f : Int32) : CT := if ix d < 8 ∧ ix what < 2 ∧ (ix what = 0 ∨ (ix k < 6 ∧ ix f < 50)) then setG c (ix d) (if ix what = 0 then (0, 0, 0, fun _ => 0) else (1, ix k, ix f, fun _ => 0)) else c
def kEl (c : CT) (d i : Int32) : Nat := if ix d < 8 then (if (cG c (ix d)).1 = 2 ∧ ix i < rL c d then 0 else 2) else 1
def vEl (c : CT) (d i : Int32) : Int64 := if kEl c d i = 0 then jI ((cG c (ix d)).2.2.2 (ix i)) else 0
section REF
variable {M : Mem} {σ : StT} {c : CT} {w : Nat → Nat} {Q : Int32 → Mem → Prop} {QJ0 : Int64 → Mem → Prop} {QV0 : Mem → Prop}
theorem at118 {d i : Nat} (hd : d < 8) (hi : i < 100) : (100 : Int32) * nI d + nI i = nI (100 * d + i) := by
  rw [show (100 : Int32) = nI 100 from rfl, pk_mul, nI_add]
theorem S_X13_keep {d what k f : Int32} (h : AbsR M c) (hQ : ∀ M', Fg mdC8 M M' → AbsR M' (nKeep c d what k f) → Q (aKeep d what k f) M') : wp_X13_keep 87 d what k f M Q := by
  unfold nKeep aKeep at hQ
  refine th0 h (fun M1 h1 f1 z1 => ?_)
  have no : ¬ (ix d < 8 ∧ ix what < 2 ∧ (ix what = 0 ∨ (ix k < 6 ∧ ix f < 50))) → Q (-1) M1 := fun n => by
    have q := hQ M1 f1
    rw [if_neg n, if_neg n] at q
    exact q h1
  have go : ix d < 8 → ix what < 2 → (ix what = 0 ∨ (ix k < 6 ∧ ix f < 50)) → jn_X13_keep_59 Q 87 d what k f M1 := by
    intro g1 g2 g3
    have cnd : ix d < 8 ∧ ix what < 2 ∧ (ix what = 0 ∨ (ix k < 6 ∧ ix f < 50)) := ⟨g1, g2, g3⟩
    rw [if_pos cnd, if_pos cnd] at hQ
    unfold jn_X13_keep_59
    have hin := ix_vp g1 (N := 8) (by omega) (by omega)
    rw [h1.1.r49, h1.1.n49, ix_cl g1 (by omega)]
    refine ⟨h1.1.1, h1.1.k49, hin, fun M2 e2 => ?_⟩
    have m2 : MdOK M2 := by rw [e2]; exact h1.1
    rw [m2.r50, m2.n50]
    refine ⟨m2.k50, hin, fun M3 e3 => ?_⟩
    have m3 : MdOK M3 := by rw [e3]; exact m2
    rw [m3.r51, m3.n51]
    refine ⟨m3.k51, hin, fun M4 e4 => ?_⟩
    have f4 : Fg (shC (ix d)) M1 M4 := by
      rw [e4, e3, e2]
      exact ((Fg.pI (Or.inl ⟨by omega, by omega, rfl⟩)).sI (Or.inl ⟨by omega, by omega, rfl⟩)).sI (Or.inl ⟨by omega, by omega, rfl⟩)
    refine hQ M4 (f1.t2 (f4.m8 (fun a k q => sh8 q))) (h1.shelf f4 ?_)
    have v1 : mI M4 113 (ix d) = what := by rw [e4, mI_uI, if_neg (by decide), e3, mI_uI, if_neg (by decide), e2, mI_uI, if_pos rfl, if_pos rfl]
    have v2 : mI M4 114 (ix d) = k := by rw [e4, mI_uI, if_neg (by decide), e3, mI_uI, if_pos rfl, if_pos rfl]
    have v3 : mI M4 115 (ix d) = f := by rw [e4, mI_uI, if_pos rfl, if_pos rfl]
    by_cases w0 : ix what = 0
    · rw [if_pos w0]
      exact Or.inl ⟨rfl, by rw [v1]; exact (ix_eq (k := 0) (by omega)).mpr w0⟩
    · rw [if_neg w0]
      have g4 : ix k < 6 ∧ ix f < 50 := by omega
      exact Or.inr (Or.inl ⟨rfl, by rw [v1]; exact (ix_eq (k := 1) (by omega)).mpr (by omega), by rw [v2]; exact (ix_eq (x := k) (k := ix k) (by omega)).mpr rfl, by show ix k ≤ 5; omega, by rw [v3]; exact (ix_eq (x := f) (k := ix f) (by omega)).mpr rfl, by show ix f ≤ 49; omega⟩)
  refine S_inX 7 (by omega) rfl (fun p1 => ⟨fun z => absurd z (by decide), fun _ => S_inX 1 (by omega) rfl (fun p2 => ⟨fun z => absurd z (by decide), fun _ => ⟨fun z => go (by omega) (by omega) (Or.inl ?_), fun z => S_inX 5 (by omega) rfl (fun p3 => ⟨fun z => absurd z (by decide), fun _ => S_inX 49 (by omega) rfl (fun p4 => ⟨fun _ => go (by omega) (by omega) (Or.inr ⟨by omega, by omega⟩), fun z => absurd z (by decide)⟩) (fun p4 => ⟨fun z => absurd rfl z, fun _ => no (fun q => ?_)⟩)⟩) (fun p3 => ⟨fun _ => no (fun q => ?_), fun z => absurd rfl z⟩)⟩⟩) (fun p2 => ⟨fun _ => no (fun q => p2 (by omega)), fun z => absurd rfl z⟩)⟩) (fun p1 => ⟨fun _ => no (fun q => p1 (by omega)), fun z => absurd rfl z⟩)
  · have := mt (ix_eq (x := what) (k := 1) (by omega)).mpr z; omega
  · have := (ix_eq (x := what) (k := 1) (by omega)).mp z; omega
  · have := (ix_eq (x := what) (k := 1) (by omega)).mp z; omega
theorem S_X13_row {d s n : Int32} (h : AbsR M c) (hQ : ∀ M', Fg mdC8 M M' → AbsR M' (nRow c d s n) → Q (aRow d s n) M') : wp_X13_row 87 d s n M Q := by
  unfold nRow aRow at hQ
  refine th0 h (fun M1 h1 f1 z1 => ?_)
  have no : ¬ (ix d < 8 ∧ ix s < 3) → Q (-1) M1 := fun x => by
    have q := hQ M1 f1
    rw [if_neg (fun y => x ⟨y.1, y.2.1⟩), if_neg (fun y => x ⟨y.1, y.2.1⟩)] at q
    exact q h1
  have l100 : n ≤ (100 : Int32) ↔ n.toInt ≤ 100 := Int32.le_iff_toInt_le
  have l0 : (0 : Int32) ≤ n ↔ 0 ≤ n.toInt := Int32.le_iff_toInt_le
  have lx := ix_lt (x := n) (n := 101) (by omega)
  refine S_inX 7 (by omega) rfl (fun p1 => ⟨fun z => absurd z (by decide), fun _ => S_inX 2 (by omega) rfl (fun p2 => ⟨fun z => absurd z (by decide), fun _ => ⟨fun y => ⟨fun x => ?_, fun x => ?_⟩, fun y => ?_⟩⟩) (fun p2 => ⟨fun _ => no (fun q => p2 (by omega)), fun z => absurd rfl z⟩)⟩) (fun p1 => ⟨fun _ => no (fun q => p1 (by omega)), fun z => absurd rfl z⟩)
  · have p3 : ix n < 101 := lx.mpr (by have := l100.mp y; have := l0.mp x; omega)
    rw [if_pos ⟨by omega, by omega, by omega⟩, if_pos ⟨by omega, by omega, y⟩, if_pos x] at hQ
    have hin := ix_vp p1 (N := 8) (by omega) (by omega)
    rw [h1.1.r49, h1.1.n49, ix_cl p1 (by omega)]
    refine ⟨h1.1.1, h1.1.k49, hin, fun M2 e2 => ?_⟩
    have m2 : MdOK M2 := by rw [e2]; exact h1.1
    rw [m2.r52, m2.n52]
    refine ⟨m2.k52, hin, fun M3 e3 => ?_⟩
    have m3 : MdOK M3 := by rw [e3]; exact m2
    rw [m3.r53, m3.n53]
    refine ⟨m3.k53, hin, fun M4 e4 => ?_⟩
    have f4 : Fg (shC (ix d)) M1 M4 := by
      rw [e4, e3, e2]
      exact ((Fg.pI (Or.inl ⟨by omega, by omega, rfl⟩)).sI (Or.inl ⟨by omega, by omega, rfl⟩)).sI (Or.inl ⟨by omega, by omega, rfl⟩)
    have v1 : mI M4 113 (ix d) = 2 := by rw [e4, mI_uI, if_neg (by decide), e3, mI_uI, if_neg (by decide), e2, mI_uI, if_pos rfl, if_pos rfl]
    have v2 : mI M4 116 (ix d) = s := by rw [e4, mI_uI, if_neg (by decide), e3, mI_uI, if_pos rfl, if_pos rfl]
    have v3 : mI M4 117 (ix d) = n := by rw [e4, mI_uI, if_pos rfl, if_pos rfl]
    have m4 : MdOK M4 := h1.1.fg f4
    have vs : s = nI (ix s) := (ix_eq (by omega)).mpr rfl
    have vn : n = nI (ix n) := (ix_eq (by omega)).mpr rfl
    obtain ⟨dd, hdd, rfl⟩ := ix_ex p1 (by omega)
    rw [ix_nI (by omega)] at f4 v1 v2 v3 hQ
    refine for_up (fun m i => ∀ M', Fg (fun a k => a = 118 ∧ 100 * dd ≤ k ∧ k < 100 * dd + 100) M4 M' → (∀ j, j < i → mJ M' 118 (100 * dd + j) = 0) → lp_X13_row_68 Q m 87 (nI dd) (nI i) M') 100 (fun m M' f hz => ?_) (fun m i hi ih M' f hz => ?_) |> fun ⟨m, hm⟩ => ⟨m, hm M4 Fg.rf (fun j hj => absurd hj (by omega))⟩
    · unfold lp_X13_row_68
      refine ⟨fun _ => ?_, fun z => absurd (nI_le (a := 100) (b := 100) (Nat.le_refl _) (by omega)) z⟩
      have f5 : Fg (shC dd) M1 M' := f4.t2 (f.mono (fun a k q => Or.inr q))
      refine hQ M' (f1.t2 (f5.m8 (fun a k q => sh8 q))) (h1.shelf f5 (Or.inr (Or.inr ⟨rfl, ?_, ?_, ?_, ?_, ?_, fun i hi => ⟨⟨show (-2147483648 : Int) ≤ 0 by omega, show (0 : Int) < 2147483648 by omega, fun _ => ⟨show (-128 : Int) ≤ 0 by omega, show (0 : Int) < 128 by omega⟩⟩, ?_⟩⟩)))
      · rw [f.I (by omega)]; exact v1
      · show ix s ≤ 2; omega
      · rw [f.I (by omega), v2]; exact vs
      · show ix n ≤ 100; omega
      · rw [f.I (by omega), v3]; exact vn
      · change i < ix n at hi
        rw [hz i (by omega)]; rfl
    · unfold lp_X13_row_68
      have m5 := m4.fg f
      refine ⟨fun z => absurd z (nI_ge (b := 100) hi (by omega)), fun _ => ?_⟩
      rw [m5.r54, m5.n54, at118 hdd hi, nI_clamp (by omega)]
      refine ⟨m5.1, m5.k54, vp_in_nI (by omega) (by omega), fun M6 e6 => ?_⟩
      subst e6
      rw [nI_1]
      refine ih _ (f.sJ ⟨rfl, by omega, by omega⟩) (fun j hj => ?_)
      rw [mJ_uJ, if_pos rfl]
      by_cases q : j = i
      · rw [if_pos (by omega)]
      · rw [if_neg (by omega)]; exact hz j (by omega)
  · have p3 : ¬ ix n ≤ 100 := fun z => by have := lx.mp (by omega); have := mt l0.mpr x; omega
    have q := hQ M1 f1
    rw [if_neg (fun z => p3 z.2.2), if_pos ⟨by omega, by omega, y⟩, if_neg x] at q
    exact q h1
  · have p3 : ¬ ix n ≤ 100 := fun z => by have := lx.mp (by omega); have := mt l100.mpr y; omega
    have q := hQ M1 f1
    rw [if_neg (fun z => p3 z.2.2), if_neg (fun z => y z.2.2)] at q
    exact q h1
theorem S_R_narrowed {v : Int32} {s : Nat} (hs : s ≤ 2) (hQ : QJ0 (jI (nrw s v)) M) : wp_X13_narrowed v (nI s) M QJ0 := by
  have e0 : nI s = (0 : Int32) ↔ s = 0 := nI_eq (b := 0) (by omega) (by omega)
  have e1 : nI s = (1 : Int32) ↔ s = 1 := nI_eq (b := 1) (by omega) (by omega)
  have r := nrw_rng s v
  refine ⟨fun z => ⟨fun y => ?_, fun y => ?_⟩, fun z => ?_⟩
  · have z := mt e0.mpr z
    have y := mt e1.mpr y
    have e : nrw s v = v.toInt := by unfold nrw; rw [if_neg z, if_neg y]
    rw [e] at hQ r
    rw [← iI_ti v, iI_jI r.1 r.2.1]; exact hQ
  · have y := e1.mp y
    subst y
    rw [nrw_1, iI_jI r.1 r.2.1]; exact hQ
  · have z := e0.mp z
    subst z
    rw [nrw_0, iI_jI r.1 r.2.1]; exact hQ
theorem S_X13_put {d i v : Int32} (h : AbsR M c) (hQ : ∀ M', Fg mdC8 M M' → AbsR M' (nPut c d i v) → Q (aPut c d i) M') : wp_X13_put 87 d i v M Q := by
  unfold nPut aPut wNo rL at hQ
  refine th0 h (fun M1 h1 f1 z1 => ?_)
  have q := hQ M1 f1
  refine S_R_wrongRow h1 (fun g => ⟨fun z => absurd z (by decide), fun _ => ?_⟩) (fun g g1 => ⟨fun z => absurd z (by decide), fun _ => ?_⟩) (fun g g1 => ⟨fun z => absurd z (by decide), fun _ => ?_⟩) (fun g g1 g2 g3 g4 g5 g6 => ⟨fun _ => ?_, fun z => absurd (by decide) z⟩)
  · rw [if_neg (fun z => g z.1.1), if_neg (fun z => g z.1), if_neg g] at q; exact q h1
  · rw [if_neg (fun z => by have := z.1.2; omega), if_neg (fun z => by have := z.2; omega), if_pos g, if_pos g1] at q; exact q h1
  · rw [if_neg (fun z => by have := z.1.2; omega), if_neg (fun z => by have := z.2; omega), if_pos g, if_neg (by omega)] at q; exact q h1
  · have hin := ix_vp g (N := 8) (by omega) (by omega)
    rw [h1.1.r53, h1.1.n53, ix_cl g (by omega), g5]
    refine ⟨h1.1.1, h1.1.k53, hin, S_inM (cG c (ix d)).2.2.1 (by omega) rfl (fun p => ⟨fun _ => ?_, fun z => absurd z (by decide)⟩) (fun p => ⟨fun z => absurd rfl z, fun _ => ?_⟩)⟩
    · rw [if_pos ⟨⟨g, g1⟩, p⟩, if_pos ⟨g, g1⟩, if_pos p] at hQ
      rw [h1.1.r52, h1.1.n52, g3]
      refine ⟨h1.1.1, h1.1.k52, hin, S_R_narrowed g2 ?_⟩
      rw [h1.1.r54, h1.1.n54]
      obtain ⟨dd, hdd, rfl⟩ := ix_ex g (by omega)
      rw [ix_nI (by omega)] at g1 g2 g3 g4 g5 g6 p hQ
      obtain ⟨j, hj, rfl⟩ := ix_ex p (by omega)
      rw [ix_nI (by omega)] at hQ p
      rw [at118 hdd (by omega), nI_clamp (by omega), ix_nI (by omega)]
      refine ⟨h1.1.k54, vp_in_nI (by omega) (by omega), fun M2 e2 => ?_⟩
      have f2 : Fg (shC dd) M1 M2 := by rw [e2]; exact Fg.pJ (Or.inr ⟨rfl, by omega, by omega⟩)
      have hr := nrw_rng (cG c dd).2.1 v
      have hs := h1.2.2.2.2.2 dd hdd
      have hv : mI M1 113 dd = 2 := by
        rcases hs with ⟨a1, -⟩ | ⟨a1, -⟩ | ⟨a1, a2, -⟩
        · omega
        · omega
        · exact a2
      refine hQ M2 (f1.t2 (f2.m8 (fun a k q => sh8 q))) (h1.shelf f2 (Or.inr (Or.inr ⟨g1, ?_, g2, ?_, g4, ?_, fun i hi => ⟨?_, ?_⟩⟩)))
      · rw [e2]; exact hv
      · rw [e2]; exact g3
      · rw [e2]; exact g5
      · unfold putG
        by_cases e : i = j
        · simp only [if_pos e]; exact hr
        · simp only [if_neg e]; exact (g6 i hi).1
      · unfold putG
        rw [e2, mJ_uJ, if_pos rfl]
        by_cases e : i = j
        · rw [if_pos (by omega)]; simp only [if_pos e]
        · rw [if_neg (by omega)]; simp only [if_neg e]; exact (g6 i hi).2
    · rw [if_neg (fun z => p z.2), if_pos ⟨g, g1⟩, if_neg p] at q; exact q h1
theorem S_X13_element {d i : Int32} (h : AbsR M c) (hQ : ∀ M', Fg mdC8 M M' → AbsR M' c → mI M' 87 12 = nI (kEl c d i) → QJ0 (vEl c d i) M') : wp_X13_element 87 d i M QJ0 := by
  unfold vEl kEl rL at hQ
  have st : ∀ t : Int32, AbsR (uI M 87 12 t) c ∧ Fg mdC8 M (uI M 87 12 t) ∧ mI (uI M 87 12 t) 87 12 = t := fun t =>
    ⟨h.fg (P := fun a k => a = 87 ∧ k = 12) (Fg.pI ⟨rfl, rfl⟩) (fun a k q => by simp only [coC]; omega), Fg.pI ⟨by omega, by omega⟩, by rw [mI_uI, if_pos rfl, if_pos rfl]⟩
  have bad : ∀ t : Nat, 0 < t → t < 10 → (∀ M', Fg mdC8 M M' → AbsR M' c → mI M' 87 12 = nI t → QJ0 0 M') → jn_X13_element_43 QJ0 87 d i (nI t) 87 M := by
    intro t t0 t1 hq
    refine ⟨h.1.1, fun M2 e2 => ?_⟩
    obtain ⟨a1, a2, a3⟩ := st (nI t)
    rw [← e2] at a1 a2 a3
    rw [a3]
    exact ⟨a1.1.1, fun z => absurd z (nI_nle t0 (by omega)), fun _ => hq M2 a2 a1 a3⟩
  refine ⟨h.1.1, S_R_wrongRow h (fun g => ⟨fun z => absurd rfl z, fun _ => bad 1 (by omega) (by omega) ?_⟩) (fun g g1 => ⟨fun _ => ⟨fun _ => bad 2 (by omega) (by omega) ?_, fun z => absurd (by decide) z⟩, fun z => absurd z (by decide)⟩) (fun g g1 => ⟨fun _ => ⟨fun _ => bad 2 (by omega) (by omega) ?_, fun z => absurd (by decide) z⟩, fun z => absurd z (by decide)⟩) (fun g g1 g2 g3 g4 g5 g6 => ⟨fun _ => ⟨fun z => absurd z (by decide), fun _ => ?_⟩, fun z => absurd z (by decide)⟩)⟩
  · simp only [if_neg g, if_neg (show ¬ (1 : Nat) = 0 by omega)] at hQ; exact hQ
  · simp only [if_pos g, if_neg (show ¬ ((cG c (ix d)).1 = 2 ∧ ix i < (cG c (ix d)).2.2.1) by omega), if_neg (show ¬ (2 : Nat) = 0 by omega)] at hQ; exact hQ
  · simp only [if_pos g, if_neg (show ¬ ((cG c (ix d)).1 = 2 ∧ ix i < (cG c (ix d)).2.2.1) by omega), if_neg (show ¬ (2 : Nat) = 0 by omega)] at hQ; exact hQ
  · have hin := ix_vp g (N := 8) (by omega) (by omega)
    rw [h.1.r53, h.1.n53, ix_cl g (by omega), g5]
    refine ⟨h.1.1, h.1.k53, hin, S_inM (cG c (ix d)).2.2.1 (by omega) rfl (fun p => ⟨fun _ => ?_, fun z => absurd z (by decide)⟩) (fun p => ⟨fun z => absurd rfl z, fun _ => bad 2 (by omega) (by omega) ?_⟩)⟩
    · simp only [if_pos g, if_pos (show (cG c (ix d)).1 = 2 ∧ ix i < (cG c (ix d)).2.2.1 from ⟨g1, p⟩), if_pos (show (0 : Nat) = 0 from rfl)] at hQ
      refine ⟨h.1.1, fun M2 e2 => ?_⟩
      obtain ⟨a1, a2, a3⟩ := st 0
      rw [← e2] at a1 a2 a3
      rw [a3, a1.1.r54, a1.1.n54]
      refine ⟨a1.1.1, fun _ => ?_, fun z => absurd (by decide) z⟩
      have q := hQ M2 a2 a1 a3
      obtain ⟨dd, hdd, rfl⟩ := ix_ex g (by omega)
      rw [ix_nI (by omega)] at g4 g6 p q
      obtain ⟨j, hj, rfl⟩ := ix_ex p (by omega)
      rw [ix_nI (by omega)] at q
      have ej : mJ M2 118 (100 * dd + j) = jI ((cG c dd).2.2.2 j) := by rw [e2, mJ_uI]; exact (g6 j hj).2
      rw [at118 hdd (by omega), nI_clamp (by omega), ej]
      exact ⟨a1.1.k54, vp_in_nI (by omega) (by omega), q⟩
    · simp only [if_pos g, if_neg (show ¬ ((cG c (ix d)).1 = 2 ∧ ix i < (cG c (ix d)).2.2.1) from fun z => p z.2), if_neg (show ¬ (2 : Nat) = 0 by omega)] at hQ; exact hQ
end REF
