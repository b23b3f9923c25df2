/-! THE COMPONENT: where all of it lies, what it is -/
def Kp (A : Nat → Prop) (M M' : Mem) : Prop := mT M ≤ mT M' ∧ ∀ a, ¬ A a → a < mT M → mK M' a = mK M a ∧ mN M' a = mN M a ∧ mR M' a = mR M a ∧ mI M' a = mI M a ∧ mJ M' a = mJ M a
theorem Fr.Kp {A B : Nat → Prop} {M M' : Mem} (h : Fr A M M') (hB : ∀ a, A a → B a) : Kp B M M' := ⟨Nat.le_of_eq h.1.symm, fun a ha _ => ⟨by rw [h.K], by rw [h.N], by rw [h.R], h.I (fun q => ha (hB a q)), h.J (fun q => ha (hB a q))⟩⟩
theorem Kp.rf {A : Nat → Prop} {M : Mem} : Kp A M M := ⟨Nat.le_refl _, fun _ _ _ => ⟨rfl, rfl, rfl, rfl, rfl⟩⟩
theorem Kp.tr {A : Nat → Prop} {M M1 M2 : Mem} (h1 : Kp A M M1) (h2 : Kp A M1 M2) : Kp A M M2 :=
  ⟨Nat.le_trans h1.1 h2.1, fun a ha hm => by
    obtain ⟨a1, a2, a3, a4, a5⟩ := h1.2 a ha hm
    obtain ⟨b1, b2, b3, b4, b5⟩ := h2.2 a ha (Nat.lt_of_lt_of_le hm h1.1)
    exact ⟨b1.trans a1, b2.trans a2, b3.trans a3, b4.trans a4, b5.trans a5⟩⟩
abbrev ShT : Type := Nat × Nat × Nat × (Nat → Int)
/-- a shelf holds nothing (0), a way (1), a row (2) -/
def ShAt (M : Mem) (q : Nat) (g : ShT) : Prop := ShOK M q ∧ ((g.1 = 0 ∧ mR M q 0 = 0 ∧ mI M q 1 = -1) ∨ (g.1 = 1 ∧ 121 ≤ mR M q 0 ∧ mR M q 0 < mT M ∧ mI M q 1 = -1 ∧ WayAt M (mR M q 0) g.2.1 g.2.2.1) ∨ (g.1 = 2 ∧ mR M q 0 = 0 ∧ g.2.1 ≤ 2 ∧ mI M q 1 = nI g.2.1 ∧ g.2.2.1 ≤ 100 ∧ mI M q 2 = nI g.2.2.1 ∧ ∀ i, i < g.2.2.1 → (-2147483648 ≤ g.2.2.2 i ∧ g.2.2.2 i < 2147483648 ∧ (g.2.1 = 0 → -128 ≤ g.2.2.2 i ∧ g.2.2.2 i < 128)) ∧ mI M (q + 1) i = iI (g.2.2.2 i)))
abbrev CT : Type := StT × (Nat → Nat) × Int × Bool × StT × (Nat → Nat) × Int × (Nat → ShT)
def cS (c : CT) : StT := c.1
def cW (c : CT) : Nat → Nat := c.2.1
def cH (c : CT) : Int := c.2.2.1
def cI (c : CT) : Bool := c.2.2.2.1
def cS2 (c : CT) : StT := c.2.2.2.2.1
def cW2 (c : CT) : Nat → Nat := c.2.2.2.2.2.1
def cH2 (c : CT) : Int := c.2.2.2.2.2.2.1
def cG (c : CT) : Nat → ShT := c.2.2.2.2.2.2.2
def CmOK (M : Mem) : Prop := mK M 2 = 13 ∧ (mR M 2 0 = 3 ∧ mR M 2 1 = 11 ∧ mR M 2 2 = 19 ∧ mR M 2 3 = 27 ∧ mR M 2 4 = 29 ∧ mR M 2 5 = 31 ∧ mR M 2 7 = 33 ∧ mR M 2 8 = 50 ∧ mR M 2 9 = 52 ∧ mR M 2 10 = 76) ∧ (mK M 33 = 24 ∧ mN M 33 = 8 ∧ ∀ d, d < 8 → mR M 33 d = 34 + 2 * d) ∧ StOK M 11 ∧ StOK M 19 ∧ ThOK M 29 ∧ ThOK M 31 ∧ DyOK M 52 ∧ SpOK M 76 ∧ 121 ≤ mT M
def AbsC (M : Mem) (c : CT) : Prop := CmOK M ∧ StTb M 3 (cS c) ∧ ThAt M 27 (sN (cS c)) (cW c) (cH c) 100000000000 ∧ mI M 2 6 = bI (cI c) ∧ (cI c = true → StTb M 19 (cS2 c) ∧ ThAt M 31 (sN (cS2 c)) (cW2 c) (cH2 c) 100000000000) ∧ (∀ d, d < 8 → ShAt M (34 + 2 * d) (cG c d)) ∧ ∃ p, PsAt M 50 p
abbrev scr : Nat → Prop := fun a => (11 ≤ a ∧ a < 19) ∨ a = 29 ∨ a = 30 ∨ (52 ≤ a ∧ a < 87)
abbrev cpA : Nat → Prop := fun a => 2 ≤ a ∧ a < 87
theorem CmOK.fr {A : Nat → Prop} {M M' : Mem} (h : CmOK M) (f : Fr A M M') : CmOK M' := by
  obtain ⟨h1, h2, h3, h4, h5, h6, h7, h8, h9, h10⟩ := h
  refine ⟨by rw [f.K]; exact h1, by rw [f.R]; exact h2, by rw [f.K, f.N, f.R]; exact h3, h4.fr f, h5.fr f, h6.fr f, h7.fr f, h8.fr f, h9.fr f, by rw [f.1]; exact h10⟩
theorem ShAt.fr {A : Nat → Prop} {M M' : Mem} {q : Nat} {g : ShT} (h : ShAt M q g) (f : Fr A M M') (h0 : ¬ A q) (h1 : ¬ A (q + 1)) (hw : ∀ a, 121 ≤ a → ¬ A a) : ShAt M' q g := by
  obtain ⟨k, h⟩ := h
  refine ⟨k.fr f, ?_⟩
  rw [f.R, f.I h0, f.I h1, f.1]
  rcases h with h | ⟨a1, a2, a3, a4, a5⟩ | h
  · exact Or.inl h
  · exact Or.inr (Or.inl ⟨a1, a2, a3, a4, a5.fr f (hw _ a2)⟩)
  · exact Or.inr (Or.inr h)
/-- what only the scratch cells see -/
theorem AbsC.fr {A : Nat → Prop} {M M' : Mem} {c : CT} (h : AbsC M c) (f : Fr A M M') (hA : ∀ a, A a → scr a) : AbsC M' c := by
  have no : ∀ a, ¬ scr a → ¬ A a := fun a h q => h (hA a q)
  obtain ⟨h1, h2, h3, h4, h5, h6, p, h7⟩ := h
  refine ⟨h1.fr f, h2.fr f (fun a _ _ => no a (by simp only [scr]; omega)), h3.fr f (no _ (by simp only [scr]; omega)) (no _ (by simp only [scr]; omega)), ?_, fun hi => ?_, fun d hd => ?_, p, h7.fr f (no _ (by simp only [scr]; omega)) (no _ (by simp only [scr]; omega))⟩
  · rw [f.I (no _ (by simp only [scr]; omega))]; exact h4
  · exact ⟨(h5 hi).1.fr f (fun a _ _ => no a (by simp only [scr]; omega)), (h5 hi).2.fr f (no _ (by simp only [scr]; omega)) (no _ (by simp only [scr]; omega))⟩
  · exact (h6 d hd).fr f (no _ (by simp only [scr]; omega)) (no _ (by simp only [scr]; omega)) (fun a ha => no a (by simp only [scr]; omega))
theorem scr_cp {a : Nat} (h : scr a) : cpA a := by simp only [scr, cpA] at *; omega
section COMP
variable {M : Mem} {c : CT} {Q : Int32 → Mem → Prop} {QR : Nat → Mem → Prop} {QJ0 : Int64 → Mem → Prop} {QV0 : Mem → Prop}
/-- an int between 0 and below n -/
def inN (x : Int32) (n : Nat) : Prop := ∃ j, j < n ∧ x = nI j
theorem inN_of {x : Int32} {n : Nat} (hn : n < 2 ^ 31) (h0 : ¬ x < 0) (h1 : ¬ nI n ≤ x) : inN x n := by
  rcases pk_ix x hn with h | h | ⟨j, hj, e⟩
  · exact absurd h h0
  · exact absurd h h1
  · exact ⟨j, hj, e⟩
theorem inN_neg {x : Int32} {n : Nat} (hn : n < 2 ^ 31) (h : x < 0) : ¬ inN x n := fun ⟨j, hj, e⟩ => by
  rw [e] at h; exact absurd h (nI_pos (by omega))
theorem inN_ge {x : Int32} {n : Nat} (hn : n < 2 ^ 31) (h : nI n ≤ x) : ¬ inN x n := fun ⟨j, hj, e⟩ => by
  rw [e] at h; exact absurd h (nI_ge hj hn)
theorem S_X12_isWorth {x : Int32} (h : AbsC M c) (h1 : ∀ i, i < sN (cS c) → x = nI i → Q 1 M) (h0 : ¬ inN x (sN (cS c)) → Q 0 M) : wp_X12_isWorth 2 x M Q := by
  have h6 := h.2.1.1.2.1.1
  unfold wp_X12_isWorth
  rw [h.1.2.1.1, h.2.1.1.2.2.1.1]
  refine ⟨fun z => h0 (inN_neg (by omega) z), fun z => ⟨h.1.1, h.2.1.1.1.1, fun y => h0 (inN_ge (by omega) y), fun y => ?_⟩⟩
  obtain ⟨j, hj, e⟩ := inN_of (by omega) z y
  exact h1 j hj e
theorem S_X12_isSort {x : Int32} (h : AbsC M c) (h1 : ∀ i, i < sS (cS c) → x = nI i → Q 1 M) (h0 : ¬ inN x (sS (cS c)) → Q 0 M) : wp_X12_isSort 2 x M Q := by
  have h6 := h.2.1.1.2.1.2.2.1
  unfold wp_X12_isSort
  rw [h.1.2.1.1, h.2.1.1.2.2.1.2.1]
  refine ⟨fun z => h0 (inN_neg (by omega) z), fun z => ⟨h.1.1, h.2.1.1.1.1, fun y => h0 (inN_ge (by omega) y), fun y => ?_⟩⟩
  obtain ⟨j, hj, e⟩ := inN_of (by omega) z y
  exact h1 j hj e
theorem S_X12_isPart {x : Int32} (h1 : ∀ i, i < 2 → x = nI i → Q 1 M) (h0 : ¬ inN x 2 → Q 0 M) : wp_X12_isPart x M Q := by
  refine ⟨fun z => h1 0 (by omega) z, fun z => ⟨fun y => h0 (fun ⟨j, hj, e⟩ => ?_), fun y => h1 1 (by omega) y⟩⟩
  have : j = 0 ∨ j = 1 := by omega
  rcases this with q | q
  · subst q; exact z e
  · subst q; exact y e
theorem S_X12_isEvent {x : Int32} (h1 : ∀ i, i < 3 → x = nI i → Q 1 M) (h0 : ¬ inN x 3 → Q 0 M) : wp_X12_isEvent x M Q := by
  refine ⟨fun z => h0 (inN_neg (by omega) z), fun z => ⟨fun y => h0 (fun ⟨j, hj, e⟩ => ?_), fun y => ?_⟩⟩
  · rw [e] at y
    have := (nI_lt31 (a := 2) (by omega) (by omega)).mp y
    omega
  · obtain ⟨j, hj, e⟩ := nI_of z
    rw [e] at y
    have := mt (nI_lt31 (a := 2) (by omega) hj).mpr y
    exact h1 j (by omega) e
theorem S_X12_isFigure {x : Int32} (h1 : ∀ i, i < 50 → x = nI i → Q 1 M) (h0 : ¬ inN x 50 → Q 0 M) : wp_X12_isFigure x M Q := by
  refine ⟨fun z => h0 (inN_neg (by omega) z), fun z => ⟨fun y => h0 (fun ⟨j, hj, e⟩ => ?_), fun y => ?_⟩⟩
  · rw [e] at y
    have := (nI_lt31 (a := 49) (by omega) (by omega)).mp y
    omega
  · obtain ⟨j, hj, e⟩ := nI_of z
    rw [e] at y
    have := mt (nI_lt31 (a := 49) (by omega) hj).mpr y
    exact h1 j (by omega) e
theorem S_X12_isShelf {x : Int32} (h1 : ∀ i, i < 8 → x = nI i → Q 1 M) (h0 : ¬ inN x 8 → Q 0 M) : wp_X12_isShelf x M Q := by
  refine ⟨fun z => h0 (inN_neg (by omega) z), fun z => ⟨fun y => h0 (inN_ge (n := 8) (by omega) y), fun y => ?_⟩⟩
  obtain ⟨j, hj, e⟩ := inN_of (n := 8) (by omega) z y
  exact h1 j hj e
/-- a slate -/
def isSl (x y : Int32) : Prop := ∃ b a : Nat, b < a ∧ a ≤ 100 ∧ x = nI b ∧ y = nI a
theorem S_X12_isSlate {x y : Int32} (h1 : ∀ b a : Nat, b < a → a ≤ 100 → x = nI b → y = nI a → Q 1 M) (h0 : ¬ isSl x y → Q 0 M) : wp_X12_isSlate x y M Q := by
  refine ⟨fun z => h0 (fun ⟨b, a, q1, q2, q3, q4⟩ => ?_), fun z => ⟨fun w => h0 (fun ⟨b, a, q1, q2, q3, q4⟩ => ?_), fun w => ⟨fun v => h0 (fun ⟨b, a, q1, q2, q3, q4⟩ => ?_), fun v => ?_⟩⟩⟩
  · rw [q3] at z; exact absurd z (nI_pos (by omega))
  · rw [q3, q4] at w; exact absurd w (nI_ge q1 (by omega))
  · rw [q4] at v
    have := (nI_lt31 (a := 100) (by omega) (by omega)).mp v
    omega
  · obtain ⟨b, hb, rfl⟩ := nI_of z
    have yn : ¬ y < 0 := fun q => by
      have e1 := Int32.lt_iff_toInt_lt.mp q
      have e2 := mt Int32.le_iff_toInt_le.mpr w
      rw [nI_toInt hb] at e2
      have : (0 : Int32).toInt = 0 := rfl
      omega
    obtain ⟨a, ha, rfl⟩ := nI_of yn
    have w := mt (nI_le31 ha hb).mpr w
    have v := mt (nI_lt31 (a := 100) (by omega) ha).mpr v
    exact h1 b a (by omega) (by omega) rfl rfl
theorem S_shelfR {d : Nat} (h : AbsC M c) (hd : d < 8) : mR M 33 d = 34 + 2 * d := h.1.2.2.1.2.2 d hd
theorem S_X12_wayOn {x : Int32} (h : AbsC M c) (h0 : (∀ d, d < 8 → x = nI d → (cG c d).1 ≠ 1) → QR 0 M) (h1 : ∀ d a, d < 8 → x = nI d → (cG c d).1 = 1 → a ≠ 0 → ¬ cpA a → a < mT M → WayAt M a (cG c d).2.1 (cG c d).2.2.1 → QR a M) : wp_X12_wayOn 2 x M QR := by
  refine S_X12_isShelf (fun d hd e => ⟨fun z => absurd z (by decide), fun _ => ?_⟩) (fun hn => ⟨fun _ => h0 (fun d hd e _ => hn ⟨d, hd, e⟩), fun z => absurd rfl z⟩)
  rw [h.1.2.1.2.2.2.2.2.2.1, h.1.2.2.1.2.1, e, nI_clamp (by omega), S_shelfR h hd]
  have g := h.2.2.2.2.2.1 d hd
  refine ⟨h.1.1, h.1.2.2.1.1, vp_in_nI (by omega) (by omega), g.1.1, ?_⟩
  have one : (cG c d).1 ≠ 1 → ∀ d', d' < 8 → x = nI d' → (cG c d').1 ≠ 1 := fun hn d' hd' e' => by
    have := (nI_eq (by omega) (by omega)).mp (e.symm.trans e')
    subst this
    exact hn
  rcases g.2 with ⟨a1, a2, -⟩ | ⟨a1, a2, a3, a4, a5⟩ | ⟨a1, a2, -⟩
  · rw [a2]; exact h0 (one (by omega))
  · exact h1 d _ hd e a1 (by omega) (by simp only [cpA]; omega) a3 a5
  · rw [a2]; exact h0 (one (by omega))
theorem S_X12_bytesOn {x : Int32} (h : AbsC M c) (h0 : (∀ d, d < 8 → x = nI d → ¬ ((cG c d).1 = 2 ∧ (cG c d).2.1 = 0)) → QR 0 M) (h1 : ∀ d, d < 8 → x = nI d → (cG c d).1 = 2 → (cG c d).2.1 = 0 → QR (34 + 2 * d) M) : wp_X12_bytesOn 2 x M QR := by
  refine S_X12_isShelf (fun d hd e => ⟨fun z => absurd z (by decide), fun _ => ?_⟩) (fun hn => ⟨fun _ => h0 (fun d hd e _ => hn ⟨d, hd, e⟩), fun z => absurd rfl z⟩)
  rw [h.1.2.1.2.2.2.2.2.2.1, h.1.2.2.1.2.1, e, nI_clamp (by omega), S_shelfR h hd]
  have g := h.2.2.2.2.2.1 d hd
  have one : ¬ ((cG c d).1 = 2 ∧ (cG c d).2.1 = 0) → ∀ d', d' < 8 → x = nI d' → ¬ ((cG c d').1 = 2 ∧ (cG c d').2.1 = 0) := fun hn d' hd' e' => by
    have := (nI_eq (by omega) (by omega)).mp (e.symm.trans e')
    subst this
    exact hn
  refine ⟨h.1.1, h.1.2.2.1.1, vp_in_nI (by omega) (by omega), g.1.1, ?_⟩
  rcases g.2 with ⟨a1, a2, a3⟩ | ⟨a1, a2, a3, a4, a5⟩ | ⟨a1, a2, a3, a4, -⟩
  · rw [a3]; exact ⟨fun _ => h0 (one (by omega)), fun z => absurd z (by decide)⟩
  · rw [a4]; exact ⟨fun _ => h0 (one (by omega)), fun z => absurd z (by decide)⟩
  · rw [a4]
    have e0 : nI (cG c d).2.1 = (0 : Int32) ↔ (cG c d).2.1 = 0 := nI_eq (b := 0) (by omega) (by omega)
    exact ⟨fun z => h0 (one (fun y => z (e0.mpr y.2))), fun z => ⟨vp_in_nI (by omega) (by omega), h1 d hd e a1 (e0.mp z)⟩⟩
theorem S_X4_isEmpty {q : Nat} {g : ShT} (h : ShAt M q g) (h1 : g.1 = 0 → Q 1 M) (h0 : g.1 ≠ 0 → Q 0 M) : wp_X4_isEmpty q M Q := by
  refine ⟨h.1.1, ?_⟩
  rcases h.2 with ⟨a1, a2, a3⟩ | ⟨a1, a2, a3, a4, a5⟩ | ⟨a1, a2, a3, a4, -⟩
  · rw [a2, a3]
    exact ⟨fun z => absurd rfl z, fun _ => ⟨fun z => absurd rfl z, fun _ => h1 a1⟩⟩
  · exact ⟨fun _ => h0 (by omega), fun z => by omega⟩
  · rw [a2, a4]
    refine ⟨fun z => absurd rfl z, fun _ => ⟨fun _ => h0 (by omega), fun z => ?_⟩⟩
    rw [nI_iI, show (-1 : Int32) = iI (-1) from rfl, iI_eq (by omega) (by omega)] at z
    omega
/-- the refusal of a shelf -/
theorem S_X12_whyNot {x : Int32} (h : AbsC M c) (hN : ¬ inN x 8 → Q (-1) M) (h0 : ∀ d, d < 8 → x = nI d → (cG c d).1 = 0 → Q (-11) M) (h1 : ∀ d, d < 8 → x = nI d → (cG c d).1 ≠ 0 → Q (-12) M) : wp_X12_whyNot 2 x M Q := by
  refine S_X12_isShelf (fun d hd e => ⟨fun _ => ?_, fun z => absurd z (by decide)⟩) (fun hn => ⟨fun z => absurd rfl z, fun _ => hN hn⟩)
  rw [h.1.2.1.2.2.2.2.2.2.1, h.1.2.2.1.2.1, e, nI_clamp (by omega), S_shelfR h hd]
  have g := h.2.2.2.2.2.1 d hd
  exact ⟨h.1.1, h.1.2.2.1.1, vp_in_nI (by omega) (by omega), g.1.1, S_X4_isEmpty g (fun q => ⟨fun z => absurd z (by decide), fun _ => h0 d hd e q⟩) (fun q => ⟨fun _ => h1 d hd e q, fun z => absurd rfl z⟩)⟩
end COMP
