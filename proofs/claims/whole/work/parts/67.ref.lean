/-! THE REFERENCE: frames cell by cell; where it lies; its street -/
def Fg (P : Nat → Nat → Prop) (M M' : Mem) : Prop := mT M' = mT M ∧ mK M' = mK M ∧ mN M' = mN M ∧ mR M' = mR M ∧ ∀ a k, ¬ P a k → mI M' a k = mI M a k ∧ mJ M' a k = mJ M a k
theorem Fg.rf {P : Nat → Nat → Prop} {M : Mem} : Fg P M M := ⟨rfl, rfl, rfl, rfl, fun _ _ _ => ⟨rfl, rfl⟩⟩
theorem Fg.t2 {P : Nat → Nat → Prop} {M M1 M2 : Mem} (h1 : Fg P M M1) (h2 : Fg P M1 M2) : Fg P M M2 := ⟨h2.1.trans h1.1, h2.2.1.trans h1.2.1, h2.2.2.1.trans h1.2.2.1, h2.2.2.2.1.trans h1.2.2.2.1, fun a k h => ⟨(h2.2.2.2.2 a k h).1.trans (h1.2.2.2.2 a k h).1, (h2.2.2.2.2 a k h).2.trans (h1.2.2.2.2 a k h).2⟩⟩
theorem Fg.mono {P P' : Nat → Nat → Prop} {M M' : Mem} (h : Fg P M M') (hP : ∀ a k, P a k → P' a k) : Fg P' M M' := ⟨h.1, h.2.1, h.2.2.1, h.2.2.2.1, fun a k ha => h.2.2.2.2 a k (fun q => ha (hP a k q))⟩
theorem Fg.I {P : Nat → Nat → Prop} {M M' : Mem} (h : Fg P M M') {a k : Nat} (ha : ¬ P a k) : mI M' a k = mI M a k := (h.2.2.2.2 a k ha).1
theorem Fg.J {P : Nat → Nat → Prop} {M M' : Mem} (h : Fg P M M') {a k : Nat} (ha : ¬ P a k) : mJ M' a k = mJ M a k := (h.2.2.2.2 a k ha).2
theorem Fg.K {P : Nat → Nat → Prop} {M M' : Mem} (h : Fg P M M') : mK M' = mK M := h.2.1
theorem Fg.N {P : Nat → Nat → Prop} {M M' : Mem} (h : Fg P M M') : mN M' = mN M := h.2.2.1
theorem Fg.R {P : Nat → Nat → Prop} {M M' : Mem} (h : Fg P M M') : mR M' = mR M := h.2.2.2.1
theorem Fg.pI {P : Nat → Nat → Prop} {M : Mem} {a k : Nat} {v : Int32} (h : P a k) : Fg P M (uI M a k v) := ⟨rfl, rfl, rfl, rfl, fun b j hb => ⟨by rw [mI_uI]; split; split; (exfalso; apply hb; rename_i e1 e2; rw [e1, e2]; exact h); rfl; rfl, rfl⟩⟩
theorem Fg.pJ {P : Nat → Nat → Prop} {M : Mem} {a k : Nat} {v : Int64} (h : P a k) : Fg P M (uJ M a k v) := ⟨rfl, rfl, rfl, rfl, fun b j hb => ⟨rfl, by rw [mJ_uJ]; split; split; (exfalso; apply hb; rename_i e1 e2; rw [e1, e2]; exact h); rfl; rfl⟩⟩
theorem Fg.sI {P : Nat → Nat → Prop} {M M1 : Mem} {a k : Nat} {v : Int32} (f : Fg P M M1) (h : P a k) : Fg P M (uI M1 a k v) := f.t2 (Fg.pI h)
theorem Fg.sJ {P : Nat → Nat → Prop} {M M1 : Mem} {a k : Nat} {v : Int64} (f : Fg P M M1) (h : P a k) : Fg P M (uJ M1 a k v) := f.t2 (Fg.pJ h)
theorem Fg.fr {P : Nat → Nat → Prop} {A : Nat → Prop} {M M' : Mem} (h : Fg P M M') (hP : ∀ a k, P a k → A a) : Fr A M M' := ⟨h.1, h.2.1, h.2.2.1, h.2.2.2.1, fun a ha => ⟨funext fun k => h.I (fun q => ha (hP a k q)), funext fun k => h.J (fun q => ha (hP a k q))⟩⟩
/-- the rows that the reference holds: of a field the address, the kind, the length -/
def mdT : Nat → Nat × Nat × Nat
  | 1 => (88, 20, 6)
  | 2 => (89, 20, 6)
  | 4 => (90, 20, 6)
  | 5 => (91, 20, 6)
  | 6 => (92, 20, 6)
  | 10 => (93, 21, 6)
  | 18 => (94, 20, 50)
  | 19 => (95, 20, 50)
  | 20 => (96, 20, 50)
  | 21 => (97, 20, 50)
  | 22 => (98, 20, 50)
  | 23 => (99, 21, 6)
  | 27 => (100, 21, 42)
  | 28 => (101, 21, 42)
  | 29 => (102, 20, 7)
  | 30 => (103, 20, 7)
  | 31 => (104, 20, 7)
  | 32 => (105, 20, 7)
  | 33 => (106, 20, 7)
  | 34 => (107, 22, 7)
  | 37 => (108, 21, 6)
  | 41 => (109, 20, 15)
  | 43 => (110, 21, 225)
  | 44 => (111, 21, 225)
  | 46 => (112, 21, 60)
  | 49 => (113, 20, 8)
  | 50 => (114, 20, 8)
  | 51 => (115, 20, 8)
  | 52 => (116, 20, 8)
  | 53 => (117, 20, 8)
  | 54 => (118, 21, 800)
  | 55 => (119, 21, 100)
  | _ => (0, 0, 0)
def MdOK (M : Mem) : Prop := mK M 87 = 14 ∧ ∀ k, (mdT k).1 ≠ 0 → mR M 87 k = (mdT k).1 ∧ mK M (mdT k).1 = (mdT k).2.1 ∧ mN M (mdT k).1 = (mdT k).2.2
theorem MdOK.r1 {M : Mem} (h : MdOK M) : mR M 87 1 = 88 := (h.2 1 (by decide)).1
theorem MdOK.k1 {M : Mem} (h : MdOK M) : mK M 88 = 20 := (h.2 1 (by decide)).2.1
theorem MdOK.n1 {M : Mem} (h : MdOK M) : mN M 88 = 6 := (h.2 1 (by decide)).2.2
theorem MdOK.r2 {M : Mem} (h : MdOK M) : mR M 87 2 = 89 := (h.2 2 (by decide)).1
theorem MdOK.k2 {M : Mem} (h : MdOK M) : mK M 89 = 20 := (h.2 2 (by decide)).2.1
theorem MdOK.n2 {M : Mem} (h : MdOK M) : mN M 89 = 6 := (h.2 2 (by decide)).2.2
theorem MdOK.r4 {M : Mem} (h : MdOK M) : mR M 87 4 = 90 := (h.2 4 (by decide)).1
theorem MdOK.k4 {M : Mem} (h : MdOK M) : mK M 90 = 20 := (h.2 4 (by decide)).2.1
theorem MdOK.n4 {M : Mem} (h : MdOK M) : mN M 90 = 6 := (h.2 4 (by decide)).2.2
theorem MdOK.r5 {M : Mem} (h : MdOK M) : mR M 87 5 = 91 := (h.2 5 (by decide)).1
theorem MdOK.k5 {M : Mem} (h : MdOK M) : mK M 91 = 20 := (h.2 5 (by decide)).2.1
theorem MdOK.n5 {M : Mem} (h : MdOK M) : mN M 91 = 6 := (h.2 5 (by decide)).2.2
theorem MdOK.r6 {M : Mem} (h : MdOK M) : mR M 87 6 = 92 := (h.2 6 (by decide)).1
theorem MdOK.k6 {M : Mem} (h : MdOK M) : mK M 92 = 20 := (h.2 6 (by decide)).2.1
theorem MdOK.n6 {M : Mem} (h : MdOK M) : mN M 92 = 6 := (h.2 6 (by decide)).2.2
theorem MdOK.r10 {M : Mem} (h : MdOK M) : mR M 87 10 = 93 := (h.2 10 (by decide)).1
theorem MdOK.k10 {M : Mem} (h : MdOK M) : mK M 93 = 21 := (h.2 10 (by decide)).2.1
theorem MdOK.n10 {M : Mem} (h : MdOK M) : mN M 93 = 6 := (h.2 10 (by decide)).2.2
theorem MdOK.r18 {M : Mem} (h : MdOK M) : mR M 87 18 = 94 := (h.2 18 (by decide)).1
theorem MdOK.k18 {M : Mem} (h : MdOK M) : mK M 94 = 20 := (h.2 18 (by decide)).2.1
theorem MdOK.n18 {M : Mem} (h : MdOK M) : mN M 94 = 50 := (h.2 18 (by decide)).2.2
theorem MdOK.r19 {M : Mem} (h : MdOK M) : mR M 87 19 = 95 := (h.2 19 (by decide)).1
theorem MdOK.k19 {M : Mem} (h : MdOK M) : mK M 95 = 20 := (h.2 19 (by decide)).2.1
theorem MdOK.n19 {M : Mem} (h : MdOK M) : mN M 95 = 50 := (h.2 19 (by decide)).2.2
theorem MdOK.r20 {M : Mem} (h : MdOK M) : mR M 87 20 = 96 := (h.2 20 (by decide)).1
theorem MdOK.k20 {M : Mem} (h : MdOK M) : mK M 96 = 20 := (h.2 20 (by decide)).2.1
theorem MdOK.n20 {M : Mem} (h : MdOK M) : mN M 96 = 50 := (h.2 20 (by decide)).2.2
theorem MdOK.r21 {M : Mem} (h : MdOK M) : mR M 87 21 = 97 := (h.2 21 (by decide)).1
theorem MdOK.k21 {M : Mem} (h : MdOK M) : mK M 97 = 20 := (h.2 21 (by decide)).2.1
theorem MdOK.n21 {M : Mem} (h : MdOK M) : mN M 97 = 50 := (h.2 21 (by decide)).2.2
theorem MdOK.r22 {M : Mem} (h : MdOK M) : mR M 87 22 = 98 := (h.2 22 (by decide)).1
theorem MdOK.k22 {M : Mem} (h : MdOK M) : mK M 98 = 20 := (h.2 22 (by decide)).2.1
theorem MdOK.n22 {M : Mem} (h : MdOK M) : mN M 98 = 50 := (h.2 22 (by decide)).2.2
theorem MdOK.r23 {M : Mem} (h : MdOK M) : mR M 87 23 = 99 := (h.2 23 (by decide)).1
theorem MdOK.k23 {M : Mem} (h : MdOK M) : mK M 99 = 21 := (h.2 23 (by decide)).2.1
theorem MdOK.n23 {M : Mem} (h : MdOK M) : mN M 99 = 6 := (h.2 23 (by decide)).2.2
theorem MdOK.r27 {M : Mem} (h : MdOK M) : mR M 87 27 = 100 := (h.2 27 (by decide)).1
theorem MdOK.k27 {M : Mem} (h : MdOK M) : mK M 100 = 21 := (h.2 27 (by decide)).2.1
theorem MdOK.n27 {M : Mem} (h : MdOK M) : mN M 100 = 42 := (h.2 27 (by decide)).2.2
theorem MdOK.r28 {M : Mem} (h : MdOK M) : mR M 87 28 = 101 := (h.2 28 (by decide)).1
theorem MdOK.k28 {M : Mem} (h : MdOK M) : mK M 101 = 21 := (h.2 28 (by decide)).2.1
theorem MdOK.n28 {M : Mem} (h : MdOK M) : mN M 101 = 42 := (h.2 28 (by decide)).2.2
theorem MdOK.r29 {M : Mem} (h : MdOK M) : mR M 87 29 = 102 := (h.2 29 (by decide)).1
theorem MdOK.k29 {M : Mem} (h : MdOK M) : mK M 102 = 20 := (h.2 29 (by decide)).2.1
theorem MdOK.n29 {M : Mem} (h : MdOK M) : mN M 102 = 7 := (h.2 29 (by decide)).2.2
theorem MdOK.r30 {M : Mem} (h : MdOK M) : mR M 87 30 = 103 := (h.2 30 (by decide)).1
theorem MdOK.k30 {M : Mem} (h : MdOK M) : mK M 103 = 20 := (h.2 30 (by decide)).2.1
theorem MdOK.n30 {M : Mem} (h : MdOK M) : mN M 103 = 7 := (h.2 30 (by decide)).2.2
theorem MdOK.r31 {M : Mem} (h : MdOK M) : mR M 87 31 = 104 := (h.2 31 (by decide)).1
theorem MdOK.k31 {M : Mem} (h : MdOK M) : mK M 104 = 20 := (h.2 31 (by decide)).2.1
theorem MdOK.n31 {M : Mem} (h : MdOK M) : mN M 104 = 7 := (h.2 31 (by decide)).2.2
theorem MdOK.r32 {M : Mem} (h : MdOK M) : mR M 87 32 = 105 := (h.2 32 (by decide)).1
theorem MdOK.k32 {M : Mem} (h : MdOK M) : mK M 105 = 20 := (h.2 32 (by decide)).2.1
theorem MdOK.n32 {M : Mem} (h : MdOK M) : mN M 105 = 7 := (h.2 32 (by decide)).2.2
theorem MdOK.r33 {M : Mem} (h : MdOK M) : mR M 87 33 = 106 := (h.2 33 (by decide)).1
theorem MdOK.k33 {M : Mem} (h : MdOK M) : mK M 106 = 20 := (h.2 33 (by decide)).2.1
theorem MdOK.n33 {M : Mem} (h : MdOK M) : mN M 106 = 7 := (h.2 33 (by decide)).2.2
theorem MdOK.r34 {M : Mem} (h : MdOK M) : mR M 87 34 = 107 := (h.2 34 (by decide)).1
theorem MdOK.k34 {M : Mem} (h : MdOK M) : mK M 107 = 22 := (h.2 34 (by decide)).2.1
theorem MdOK.n34 {M : Mem} (h : MdOK M) : mN M 107 = 7 := (h.2 34 (by decide)).2.2
theorem MdOK.r37 {M : Mem} (h : MdOK M) : mR M 87 37 = 108 := (h.2 37 (by decide)).1
theorem MdOK.k37 {M : Mem} (h : MdOK M) : mK M 108 = 21 := (h.2 37 (by decide)).2.1
theorem MdOK.n37 {M : Mem} (h : MdOK M) : mN M 108 = 6 := (h.2 37 (by decide)).2.2
theorem MdOK.r41 {M : Mem} (h : MdOK M) : mR M 87 41 = 109 := (h.2 41 (by decide)).1
theorem MdOK.k41 {M : Mem} (h : MdOK M) : mK M 109 = 20 := (h.2 41 (by decide)).2.1
theorem MdOK.n41 {M : Mem} (h : MdOK M) : mN M 109 = 15 := (h.2 41 (by decide)).2.2
theorem MdOK.r43 {M : Mem} (h : MdOK M) : mR M 87 43 = 110 := (h.2 43 (by decide)).1
theorem MdOK.k43 {M : Mem} (h : MdOK M) : mK M 110 = 21 := (h.2 43 (by decide)).2.1
theorem MdOK.n43 {M : Mem} (h : MdOK M) : mN M 110 = 225 := (h.2 43 (by decide)).2.2
theorem MdOK.r44 {M : Mem} (h : MdOK M) : mR M 87 44 = 111 := (h.2 44 (by decide)).1
theorem MdOK.k44 {M : Mem} (h : MdOK M) : mK M 111 = 21 := (h.2 44 (by decide)).2.1
theorem MdOK.n44 {M : Mem} (h : MdOK M) : mN M 111 = 225 := (h.2 44 (by decide)).2.2
theorem MdOK.r46 {M : Mem} (h : MdOK M) : mR M 87 46 = 112 := (h.2 46 (by decide)).1
theorem MdOK.k46 {M : Mem} (h : MdOK M) : mK M 112 = 21 := (h.2 46 (by decide)).2.1
theorem MdOK.n46 {M : Mem} (h : MdOK M) : mN M 112 = 60 := (h.2 46 (by decide)).2.2
theorem MdOK.r49 {M : Mem} (h : MdOK M) : mR M 87 49 = 113 := (h.2 49 (by decide)).1
theorem MdOK.k49 {M : Mem} (h : MdOK M) : mK M 113 = 20 := (h.2 49 (by decide)).2.1
theorem MdOK.n49 {M : Mem} (h : MdOK M) : mN M 113 = 8 := (h.2 49 (by decide)).2.2
theorem MdOK.r50 {M : Mem} (h : MdOK M) : mR M 87 50 = 114 := (h.2 50 (by decide)).1
theorem MdOK.k50 {M : Mem} (h : MdOK M) : mK M 114 = 20 := (h.2 50 (by decide)).2.1
theorem MdOK.n50 {M : Mem} (h : MdOK M) : mN M 114 = 8 := (h.2 50 (by decide)).2.2
theorem MdOK.r51 {M : Mem} (h : MdOK M) : mR M 87 51 = 115 := (h.2 51 (by decide)).1
theorem MdOK.k51 {M : Mem} (h : MdOK M) : mK M 115 = 20 := (h.2 51 (by decide)).2.1
theorem MdOK.n51 {M : Mem} (h : MdOK M) : mN M 115 = 8 := (h.2 51 (by decide)).2.2
theorem MdOK.r52 {M : Mem} (h : MdOK M) : mR M 87 52 = 116 := (h.2 52 (by decide)).1
theorem MdOK.k52 {M : Mem} (h : MdOK M) : mK M 116 = 20 := (h.2 52 (by decide)).2.1
theorem MdOK.n52 {M : Mem} (h : MdOK M) : mN M 116 = 8 := (h.2 52 (by decide)).2.2
theorem MdOK.r53 {M : Mem} (h : MdOK M) : mR M 87 53 = 117 := (h.2 53 (by decide)).1
theorem MdOK.k53 {M : Mem} (h : MdOK M) : mK M 117 = 20 := (h.2 53 (by decide)).2.1
theorem MdOK.n53 {M : Mem} (h : MdOK M) : mN M 117 = 8 := (h.2 53 (by decide)).2.2
theorem MdOK.r54 {M : Mem} (h : MdOK M) : mR M 87 54 = 118 := (h.2 54 (by decide)).1
theorem MdOK.k54 {M : Mem} (h : MdOK M) : mK M 118 = 21 := (h.2 54 (by decide)).2.1
theorem MdOK.n54 {M : Mem} (h : MdOK M) : mN M 118 = 800 := (h.2 54 (by decide)).2.2
theorem MdOK.r55 {M : Mem} (h : MdOK M) : mR M 87 55 = 119 := (h.2 55 (by decide)).1
theorem MdOK.k55 {M : Mem} (h : MdOK M) : mK M 119 = 21 := (h.2 55 (by decide)).2.1
theorem MdOK.n55 {M : Mem} (h : MdOK M) : mN M 119 = 100 := (h.2 55 (by decide)).2.2
theorem MdOK.fg {P : Nat → Nat → Prop} {M M' : Mem} (h : MdOK M) (f : Fg P M M') : MdOK M' := by
  unfold MdOK
  rw [f.K, f.N, f.R]
  exact h
theorem MdOK.oI {M : Mem} {a k : Nat} {v : Int32} (h : MdOK M) : MdOK (uI M a k v) := h
theorem MdOK.oJ {M : Mem} {a k : Nat} {v : Int64} (h : MdOK M) : MdOK (uJ M a k v) := h
/-- a street in the reference -/
def RS (M : Mem) (σ : StT) : Prop := sWF σ ∧ (mI M 87 0 = nI (sN σ) ∧ mI M 87 3 = nI (sS σ) ∧ mI M 87 7 = nI (sMo σ) ∧ mI M 87 8 = nI (sCo σ) ∧ mI M 87 9 = nI (sHo σ)) ∧ (∀ i, i < sN σ → mI M 88 i = nI (sCh σ i) ∧ mI M 89 i = nI (sVa σ i)) ∧ ∀ j, j < sS σ → mI M 90 j = nI (sKd σ j) ∧ mI M 91 j = nI (sPt σ j) ∧ mI M 92 j = nI (sLi σ j)
/-- the cells of the street; all cells that are kept from call to call; all others -/
abbrev stC (a k : Nat) : Prop := (a = 87 ∧ (k = 0 ∨ k = 3 ∨ k = 7 ∨ k = 8 ∨ k = 9)) ∨ (88 ≤ a ∧ a ≤ 92)
abbrev coC (a k : Nat) : Prop := (a = 87 ∧ (k = 0 ∨ k = 3 ∨ k = 7 ∨ k = 8 ∨ k = 9 ∨ k = 11 ∨ k = 45)) ∨ (88 ≤ a ∧ a ≤ 93) ∨ (112 ≤ a ∧ a ≤ 118)
abbrev mdC8 (a _k : Nat) : Prop := 87 ≤ a ∧ a < 120
theorem RS.fg {P : Nat → Nat → Prop} {M M' : Mem} {σ : StT} (h : RS M σ) (f : Fg P M M') (hP : ∀ a k, P a k → ¬ stC a k) : RS M' σ := by
  obtain ⟨w, ⟨a1, a2, a3, a4, a5⟩, b, c⟩ := h
  have no : ∀ a k, stC a k → ¬ P a k := fun a k h q => hP a k q h
  refine ⟨w, ⟨?_, ?_, ?_, ?_, ?_⟩, fun i hi => ?_, fun j hj => ?_⟩
  · rw [f.I (no 87 0 (by decide))]; exact a1
  · rw [f.I (no 87 3 (by decide))]; exact a2
  · rw [f.I (no 87 7 (by decide))]; exact a3
  · rw [f.I (no 87 8 (by decide))]; exact a4
  · rw [f.I (no 87 9 (by decide))]; exact a5
  · rw [f.I (no 88 i (by simp only [stC]; omega)), f.I (no 89 i (by simp only [stC]; omega))]; exact b i hi
  · rw [f.I (no 90 j (by simp only [stC]; omega)), f.I (no 91 j (by simp only [stC]; omega)), f.I (no 92 j (by simp only [stC]; omega))]; exact c j hj
/-- the image in the reference -/
def RIm (M : Mem) (σ : StT) (w : Nat → Nat) (h : Int) : Prop := sWF σ ∧ (mJ M 112 0 = lN (sN σ) ∧ mJ M 112 1 = lN (sS σ) ∧ mJ M 112 2 = lN (sMo σ) ∧ mJ M 112 3 = lN (sCo σ) ∧ mJ M 112 4 = lN (sHo σ) ∧ mJ M 112 5 = jI h) ∧ (-20 ≤ h ∧ h ≤ 20) ∧ (∀ i, i < sN σ → mJ M 112 (6 * i + 6) = lN (sCh σ i) ∧ mJ M 112 (6 * i + 7) = lN (sVa σ i) ∧ mJ M 112 (6 * i + 8) = lN (w i) ∧ w i ≤ 100000000000) ∧ ∀ j, j < sS σ → mJ M 112 (6 * j + 9) = lN (sKd σ j) ∧ mJ M 112 (6 * j + 10) = lN (sPt σ j) ∧ mJ M 112 (6 * j + 11) = lN (sLi σ j)
/-- a shelf in the reference -/
def RSh (M : Mem) (d : Nat) (g : ShT) : Prop := (g.1 = 0 ∧ mI M 113 d = 0) ∨ (g.1 = 1 ∧ mI M 113 d = 1 ∧ mI M 114 d = nI g.2.1 ∧ g.2.1 ≤ 5 ∧ mI M 115 d = nI g.2.2.1 ∧ g.2.2.1 ≤ 49) ∨ (g.1 = 2 ∧ mI M 113 d = 2 ∧ g.2.1 ≤ 2 ∧ mI M 116 d = nI g.2.1 ∧ g.2.2.1 ≤ 100 ∧ mI M 117 d = nI g.2.2.1 ∧ ∀ i, i < g.2.2.1 → (-2147483648 ≤ g.2.2.2 i ∧ g.2.2.2 i < 2147483648 ∧ (g.2.1 = 0 → -128 ≤ g.2.2.2 i ∧ g.2.2.2 i < 128)) ∧ mJ M 118 (100 * d + i) = jI (g.2.2.2 i))
/-- what is thought, held, in the reference -/
def RTh (M : Mem) (n : Nat) (w : Nat → Nat) (h : Int) : Prop := mI M 87 11 = iI h ∧ (-20 ≤ h ∧ h ≤ 20) ∧ ∀ i, i < n → w i ≤ 100000000000 ∧ mJ M 93 i = lN (w i)
def AbsR (M : Mem) (c : CT) : Prop := MdOK M ∧ RS M (cS c) ∧ RTh M (sN (cS c)) (cW c) (cH c) ∧ mI M 87 45 = bI (cI c) ∧ (cI c = true → RIm M (cS2 c) (cW2 c) (cH2 c)) ∧ ∀ d, d < 8 → RSh M d (cG c d)
theorem RIm.fg {P : Nat → Nat → Prop} {M M' : Mem} {σ : StT} {w : Nat → Nat} {h : Int} (hi : RIm M σ w h) (f : Fg P M M') (hP : ∀ k, ¬ P 112 k) : RIm M' σ w h := by
  unfold RIm
  have e : ∀ k, mJ M' 112 k = mJ M 112 k := fun k => f.J (hP k)
  simp only [e]
  exact hi
theorem RSh.fg {P : Nat → Nat → Prop} {M M' : Mem} {d : Nat} {g : ShT} (hi : RSh M d g) (f : Fg P M M') (hP : ∀ a k, P a k → ¬ (113 ≤ a ∧ a ≤ 118)) : RSh M' d g := by
  unfold RSh
  have e : ∀ a k, 113 ≤ a → a ≤ 118 → mI M' a k = mI M a k := fun a k h1 h2 => f.I (fun q => hP a k q ⟨h1, h2⟩)
  have e2 : ∀ k, mJ M' 118 k = mJ M 118 k := fun k => f.J (fun q => hP 118 k q (by omega))
  rw [e 113 d (by omega) (by omega), e 114 d (by omega) (by omega), e 115 d (by omega) (by omega), e 116 d (by omega) (by omega), e 117 d (by omega) (by omega)]
  simp only [e2]
  exact hi
theorem RTh.fg {P : Nat → Nat → Prop} {M M' : Mem} {n : Nat} {w : Nat → Nat} {h : Int} (hi : RTh M n w h) (f : Fg P M M') (h0 : ¬ P 87 11) (h1 : ∀ k, ¬ P 93 k) : RTh M' n w h := by
  unfold RTh
  have e : ∀ k, mJ M' 93 k = mJ M 93 k := fun k => f.J (h1 k)
  rw [f.I h0]
  simp only [e]
  exact hi
theorem AbsR.fg {P : Nat → Nat → Prop} {M M' : Mem} {c : CT} (h : AbsR M c) (f : Fg P M M') (hP : ∀ a k, P a k → ¬ coC a k) : AbsR M' c := by
  obtain ⟨h1, h2, h3, h4, h5, h6⟩ := h
  have no : ∀ a k, coC a k → ¬ P a k := fun a k h q => hP a k q h
  refine ⟨h1.fg f, h2.fg f (fun a k q => ?_), h3.fg f (no 87 11 (by decide)) (fun k => no 93 k (by simp only [coC]; omega)), ?_, fun hi => (h5 hi).fg f (fun k => no 112 k (by simp only [coC]; omega)), fun d hd => (h6 d hd).fg f (fun a k q => ?_)⟩
  · have := hP a k q
    simp only [coC] at this
    simp only [stC]
    omega
  · rw [f.I (no 87 45 (by decide))]; exact h4
  · have := hP a k q
    simp only [coC] at this
    omega
theorem th0 {M : Mem} {c : CT} {R : Mem → Prop} (h : AbsR M c) (k : ∀ M1, AbsR M1 c → Fg mdC8 M M1 → mI M1 87 12 = 0 → R M1) : mK M 87 = 14 ∧ ∀ M1 : Mem, M1 = uI M 87 12 0 → R M1 :=
  ⟨h.1.1, fun M1 e1 => by
    subst e1
    exact k _ (h.fg (P := fun a k => a = 87 ∧ k = 12) (Fg.pI ⟨rfl, rfl⟩) (fun a k q => by simp only [coC]; omega)) (Fg.pI ⟨by omega, by omega⟩) (by rw [mI_uI, if_pos rfl, if_pos rfl])⟩
/-! numbers in ranges -/
theorem ix_lt {x : Int32} {n : Nat} (hn : n ≤ 2147483648) : ix x < n ↔ 0 ≤ x.toInt ∧ x.toInt < n := by
  unfold ix
  have e0 : x < 0 ↔ x.toInt < 0 := Int32.lt_iff_toInt_lt
  split
  · rename_i c
    have := e0.mp c
    constructor
    · intro q; omega
    · intro q; omega
  · rename_i c
    have := mt e0.mpr c
    have e : x.toInt = (x.toNatClampNeg : Int) := nn_i c
    omega
theorem ix_ex {x : Int32} {n : Nat} (h : ix x < n) (hn : n ≤ 2147483648) : ∃ j, j < n ∧ x = nI j := (inN_ix hn).mpr h
section REF
variable {M : Mem} {σ : StT} {c : CT} {Q : Int32 → Mem → Prop} {QJ0 : Int64 → Mem → Prop} {QV0 : Mem → Prop}
theorem S_in {x lo hi : Int64} (h1 : lo.toInt ≤ x.toInt ∧ x.toInt ≤ hi.toInt → Q 1 M) (h0 : ¬ (lo.toInt ≤ x.toInt ∧ x.toInt ≤ hi.toInt) → Q 0 M) : wp_X13_in x lo hi M Q := by
  have e1 : x < lo ↔ x.toInt < lo.toInt := Int64.lt_iff_toInt_lt
  have e2 : hi < x ↔ hi.toInt < x.toInt := Int64.lt_iff_toInt_lt
  exact ⟨fun z => h0 (by have := e1.mp z; omega), fun z => ⟨fun y => h0 (by have := e2.mp y; omega), fun y => h1 (by have := mt e1.mpr z; have := mt e2.mpr y; omega)⟩⟩
theorem S_inX {x : Int32} {hi : Int64} (k : Nat) (hk : k < 2147483648) (e : hi = lN k) (h1 : ix x < k + 1 → Q 1 M) (h0 : ¬ ix x < k + 1 → Q 0 M) : wp_X13_in x.toInt64 0 hi M Q := by
  have a1 : x.toInt64.toInt = x.toInt := Int32.toInt_toInt64 x
  have a2 : hi.toInt = (k : Int) := by rw [e]; exact lN_toInt hk
  have a3 : (0 : Int64).toInt = 0 := rfl
  have a4 := ix_lt (x := x) (n := k + 1) (by omega)
  refine S_in (fun q => h1 (a4.mpr ?_)) (fun q => h0 (fun z => q ?_))
  · rw [a1, a2, a3] at q; omega
  · rw [a1, a2, a3]; have := a4.mp z; omega
theorem S_inM {x : Int32} {y : Int32} (n : Nat) (hn : n ≤ 1000) (e : y = nI n) (h1 : ix x < n → Q 1 M) (h0 : ¬ ix x < n → Q 0 M) : wp_X13_in x.toInt64 0 ((y - 1).toInt64) M Q := by
  have a1 : x.toInt64.toInt = x.toInt := Int32.toInt_toInt64 x
  have a2 : ((y - 1).toInt64).toInt = (n : Int) - 1 := by
    rw [e, nI_iI, show (1 : Int32) = iI 1 from rfl, iI_sub, Int32.toInt_toInt64, iI_toInt (by omega) (by omega)]
  have a3 : (0 : Int64).toInt = 0 := rfl
  have a4 := ix_lt (x := x) (n := n) (by omega)
  refine S_in (fun q => h1 (a4.mpr ?_)) (fun q => h0 (fun z => q ?_))
  · rw [a1, a2, a3] at q; omega
  · rw [a1, a2, a3]; have := a4.mp z; omega
theorem S_R_isWorth {x : Int32} (hm : MdOK M) (hr : RS M σ) (h1 : ix x < sN σ → Q 1 M) (h0 : ¬ ix x < sN σ → Q 0 M) : wp_X13_isWorth 87 x M Q := by
  have := hr.1.1
  exact ⟨hm.1, S_inM (sN σ) (by omega) hr.2.1.1 (fun q => ⟨Or.inr rfl, h1 q⟩) (fun q => ⟨Or.inl rfl, h0 q⟩)⟩
theorem S_R_isSlate {x y : Int32} (h1 : sl x y → Q 1 M) (h0 : ¬ sl x y → Q 0 M) : wp_X13_isSlate x y M Q := by
  refine S_inX 100 (by omega) rfl (fun q => ⟨fun z => absurd z (by decide), fun _ => S_inX 100 (by omega) rfl (fun q2 => ⟨fun z => absurd z (by decide), fun _ => ⟨fun z => h0 ?_, fun z => h1 ?_⟩⟩) (fun q2 => ⟨fun _ => h0 (fun s => q2 (by have := s.2; omega)), fun z => absurd rfl z⟩)⟩) (fun q => ⟨fun _ => h0 (fun s => q (by have := s.1; have := s.2; omega)), fun z => absurd rfl z⟩)
  · obtain ⟨a, ha, rfl⟩ := ix_ex q (by omega)
    obtain ⟨b, hb, rfl⟩ := ix_ex q2 (by omega)
    have := (nI_le31 (by omega) (by omega)).mp z
    unfold sl
    rw [ix_nI (by omega), ix_nI (by omega)]
    omega
  · obtain ⟨a, ha, rfl⟩ := ix_ex q (by omega)
    obtain ⟨b, hb, rfl⟩ := ix_ex q2 (by omega)
    have := mt (nI_le31 (by omega) (by omega)).mpr z
    unfold sl
    rw [ix_nI (by omega), ix_nI (by omega)]
    omega
theorem S_R_chances (hm : MdOK M) (hr : RS M σ) (hQ : Q (nI (sumN (sCh σ) (sN σ))) M) : wp_X13_chancesTogether 87 M Q := by
  have w1 := hr.1.1
  refine for_up (fun m i => lp_X13_chancesTogether_4 Q m 87 (nI (sumN (sCh σ) i)) (nI i) M) (sN σ) (fun m => ?_) (fun m i hi ih => ?_)
  · unfold lp_X13_chancesTogether_4
    exact ⟨hm.1, fun _ => hQ, fun hn => absurd (by rw [hr.2.1.1]; exact nI_le (Nat.le_refl _) (by omega)) hn⟩
  · unfold lp_X13_chancesTogether_4
    refine ⟨hm.1, fun hle => absurd (by rw [hr.2.1.1] at hle; exact hle) (nI_ge hi (by omega)), fun _ => ?_⟩
    rw [hm.r1]
    refine ⟨hm.k1, by rw [hm.n1]; exact vp_in_nI (by omega) (by omega), fun y hy => ?_⟩
    rw [hy, nI_clamp (by omega), (hr.2.2.1 i hi).1, nI_add, nI_1]
    exact ih
theorem S_R_parts (hm : MdOK M) (hr : RS M σ) (hQ : Q (nI (sumN (sPt σ) (sS σ))) M) : wp_X13_partsTogether 87 M Q := by
  have w1 := hr.1.2.2.1
  refine for_up (fun m i => lp_X13_partsTogether_4 Q m 87 (nI (sumN (sPt σ) i)) (nI i) M) (sS σ) (fun m => ?_) (fun m i hi ih => ?_)
  · unfold lp_X13_partsTogether_4
    exact ⟨hm.1, fun _ => hQ, fun hn => absurd (by rw [hr.2.1.2.1]; exact nI_le (Nat.le_refl _) (by omega)) hn⟩
  · unfold lp_X13_partsTogether_4
    refine ⟨hm.1, fun hle => absurd (by rw [hr.2.1.2.1] at hle; exact hle) (nI_ge hi (by omega)), fun _ => ?_⟩
    rw [hm.r5]
    refine ⟨hm.k5, by rw [hm.n5]; exact vp_in_nI (by omega) (by omega), fun y hy => ?_⟩
    rw [hy, nI_clamp (by omega), (hr.2.2.2 i hi).2.1, nI_add, nI_1]
    exact ih
theorem S_R_isReady (hm : MdOK M) (hr : RS M σ) (h1 : sumN (sCh σ) (sN σ) = 100 → Q 1 M) (h0 : ¬ sumN (sCh σ) (sN σ) = 100 → Q 0 M) : wp_X13_isReady 87 M Q := by
  refine ⟨hm.1, S_R_chances hm hr ?_⟩
  have hle : sumN (sCh σ) (sN σ) ≤ 100 := hr.1.2.2.2.2.1
  have e : nI (sumN (sCh σ) (sN σ)) = (100 : Int32) ↔ sumN (sCh σ) (sN σ) = 100 := nI_eq (b := 100) (by omega) (by omega)
  exact ⟨fun q => h0 (fun z => q (e.mpr z)), fun q => h1 (e.mp q)⟩
theorem S_R_heldBy {ev : Nat} {h : Int} (hev : ev ≤ 2) (hQ : Q (iI (hA ev h)) M) : wp_X13_heldBy (nI ev) (iI h) M Q := by
  have e1 : nI ev = (1 : Int32) ↔ ev = 1 := nI_eq (b := 1) (by omega) (by omega)
  have e2 : nI ev = (2 : Int32) ↔ ev = 2 := nI_eq (b := 2) (by omega) (by omega)
  unfold hA at hQ
  refine ⟨fun a => ⟨fun b => ?_, fun b => ?_⟩, fun a => ?_⟩
  · rw [if_neg (mt e1.mpr a), if_neg (mt e2.mpr b)] at hQ; exact hQ
  · rw [if_neg (mt e1.mpr a), if_pos (e2.mp b)] at hQ; rw [show (1 : Int32) = iI 1 from rfl, iI_add]; exact hQ
  · rw [if_pos (e1.mp a)] at hQ; rw [show (1 : Int32) = iI 1 from rfl, iI_sub]; exact hQ
theorem S_R_alw {e : Nat} {h : Int} (hm : MdOK M) (hr : RS M σ) (he : e ≤ 2) (hh : -100 ≤ h ∧ h ≤ 100) (hQ : Q (nI (alw σ h e)) M) : wp_X13_allowed 87 (nI e) (iI h) M Q := by
  have e1 : nI e = (1 : Int32) ↔ e = 1 := nI_eq (b := 1) (by omega) (by omega)
  have e2 : nI e = (2 : Int32) ↔ e = 2 := nI_eq (b := 2) (by omega) (by omega)
  have hmo := hr.1.2.2.2.2.2.2.1
  unfold alw at hQ
  refine ⟨fun a => ⟨fun b => ?_, fun b => ⟨hm.1, fun z => ?_, fun z => ?_⟩⟩, fun a => ⟨hm.1, fun z => ?_, fun z => ⟨fun b => ?_, fun b => absurd ((e1.mp a).symm.trans (e2.mp b)) (by decide)⟩⟩⟩
  · rw [if_neg (mt e1.mpr a), if_neg (mt e2.mpr b)] at hQ; exact hQ
  · rw [if_neg (mt e1.mpr a), if_pos (e2.mp b)] at hQ
    rw [hr.2.1.2.2.1, nI_iI, iI_lt (by omega) (by omega)] at z
    rw [if_pos z] at hQ
    rw [e2.mp b]; exact hQ
  · rw [if_neg (mt e1.mpr a), if_pos (e2.mp b)] at hQ
    rw [hr.2.1.2.2.1, nI_iI, iI_lt (by omega) (by omega)] at z
    rw [if_neg z] at hQ
    exact hQ
  · rw [if_pos (e1.mp a)] at hQ
    rw [hr.2.1.2.2.1, nI_iI, iI_neg, iI_le (by omega) (by omega)] at z
    rw [if_neg (by omega)] at hQ
    exact hQ
  · rw [if_pos (e1.mp a)] at hQ
    rw [hr.2.1.2.2.1, nI_iI, iI_neg, iI_le (by omega) (by omega)] at z
    rw [if_pos (by omega)] at hQ
    rw [e1.mp a]; exact hQ
theorem S_R_dealt {j va bid ask : Nat} (hm : MdOK M) (hr : RS M σ) (hj : j < sS σ) (hva : va ≤ 99) (hbid : bid ≤ 100) (hask : ask ≤ 100) (hQ : Q (nI (sDeal σ j va bid ask)) M) : wp_X13_dealt 87 (nI j) (nI va) (nI bid) (nI ask) M Q := by
  obtain ⟨-, -, w3, w4, -⟩ := hr.1
  obtain ⟨b1, b2, b3⟩ := hr.2.2.2 j hj
  obtain ⟨c1, c2, c3⟩ := w4 j hj
  unfold sDeal at hQ
  unfold wp_X13_dealt
  have hin : vp_in (nI j) 6 := vp_in_nI (by omega) (by omega)
  rw [hm.r4, hm.r6, hm.n4, hm.n6, nI_clamp (by omega), b1, b3]
  generalize sKd σ j = kd at *
  generalize sLi σ j = li at *
  have e9 : nI bid - nI li ≤ nI va ↔ bid ≤ va + li := by
    rw [nI_iI, nI_iI, nI_iI, iI_sub, iI_le (by omega) (by omega)]
    omega
  have k0 : nI kd = (0 : Int32) ↔ kd = 0 := nI_eq (b := 0) (by omega) (by omega)
  have k1 : nI kd = (1 : Int32) ↔ kd = 1 := nI_eq (b := 1) (by omega) (by omega)
  have k2 : nI kd = (2 : Int32) ↔ kd = 2 := nI_eq (b := 2) (by omega) (by omega)
  have k3 : nI kd = (3 : Int32) ↔ kd = 3 := nI_eq (b := 3) (by omega) (by omega)
  have d0 : ¬ wbuy kd li va ask → ¬ wsel kd li va bid → Q 0 M := fun p q => by
    unfold dealN at hQ; rw [if_neg p, if_neg q] at hQ; exact hQ
  have d1 : wbuy kd li va ask → Q 1 M := fun p => by
    unfold dealN at hQ; rw [if_pos p] at hQ; exact hQ
  have d2 : ¬ wbuy kd li va ask → wsel kd li va bid → Q 2 M := fun p q => by
    unfold dealN at hQ; rw [if_neg p, if_pos q] at hQ; exact hQ
  unfold wbuy wsel at d0 d2
  unfold wbuy at d1
  refine ⟨hm.1, hm.k6, hin, fun y1 ey => ?_⟩
  subst ey
  refine ⟨hm.k4, hin, fun q => ?_, fun q => ⟨fun z => ?_, fun z => ?_⟩, fun q => ⟨fun z => ?_, fun z => ?_⟩, fun q => ⟨fun z => ⟨fun y => ?_, fun y => ?_⟩, fun z => ?_⟩, fun q => ⟨fun z => ⟨fun y => ?_, fun y => ?_⟩, fun z => ?_⟩⟩
  · rw [nI_toInt (by omega)] at q
    exact d0 (by omega) (by omega)
  · have q := k0.mp q
    have z := (nI_lt31 (by omega) (by omega)).mp z
    exact d0 (by omega) (by omega)
  · have q := k0.mp q
    have z := mt (nI_lt31 (by omega) (by omega)).mpr z
    exact d1 (by omega)
  · have q := k1.mp q
    have z := (nI_lt31 (by omega) (by omega)).mp z
    exact d0 (by omega) (by omega)
  · have q := k1.mp q
    have z := mt (nI_lt31 (by omega) (by omega)).mpr z
    exact d2 (by omega) (by omega)
  · have q := k2.mp q
    have z := (nI_le31 (by omega) (by omega)).mp z
    have y := (nI_le31 (by omega) (by omega)).mp y
    exact d0 (by omega) (by omega)
  · have q := k2.mp q
    have z := (nI_le31 (by omega) (by omega)).mp z
    have y := mt (nI_le31 (by omega) (by omega)).mpr y
    exact d2 (by omega) (by omega)
  · have q := k2.mp q
    have z := mt (nI_le31 (by omega) (by omega)).mpr z
    exact d1 (by omega)
  · have q := k3.mp q
    rw [nI_add] at z
    have z := (nI_le31 (by omega) (by omega)).mp z
    have y := e9.mp y
    exact d0 (by omega) (by omega)
  · have q := k3.mp q
    rw [nI_add] at z
    have z := (nI_le31 (by omega) (by omega)).mp z
    have y := mt e9.mpr y
    exact d2 (by omega) (by omega)
  · have q := k3.mp q
    rw [nI_add] at z
    have z := mt (nI_le31 (by omega) (by omega)).mpr z
    exact d1 (by omega)
theorem S_R_hun {ev i b a : Nat} {h : Int} (hm : MdOK M) (hr : RS M σ) (hev : ev ≤ 2) (hi : i < sN σ) (hb : b ≤ 100) (ha : a ≤ 100) (hh : -100 ≤ h ∧ h ≤ 100) (hQ : Q (nI (hun σ h ev i b a)) M) : wp_X13_hundredths 87 (nI ev) (nI i) (nI b) (nI a) (iI h) M Q := by
  obtain ⟨w1, w2, w3, w4, w5, w6, -⟩ := hr.1
  have go : ∀ x : Nat, x = (if ev = 0 then 100 - sumN (sPt σ) (sS σ) else 0) → jn_X13_hundredths_15 Q 87 (nI ev) (nI i) (nI b) (nI a) (iI h) (nI x) M := by
    intro x hx
    unfold hun at hQ
    rw [← hx] at hQ
    refine for_up (fun m j => lp_X13_hundredths_20 Q m 87 (nI ev) (nI i) (nI b) (nI a) (iI h) (nI (x + sumN (fun j => bit (alw σ h (sDeal σ j (sVa σ i) b a) = ev) (sPt σ j)) j)) (nI j) M) (sS σ) (fun m => ?_) (fun m j hj ih => ?_)
    · unfold lp_X13_hundredths_20
      exact ⟨hm.1, fun _ => hQ, fun hn => absurd (by rw [hr.2.1.2.1]; exact nI_le (Nat.le_refl _) (by omega)) hn⟩
    · unfold lp_X13_hundredths_20
      refine ⟨hm.1, fun hle => absurd (by rw [hr.2.1.2.1] at hle; exact hle) (nI_ge hj (by omega)), fun _ => ?_⟩
      rw [hm.r2, hm.n2, nI_clamp (by omega), (hr.2.2.1 i hi).2]
      have hva := (w2 i hi).2.2
      refine ⟨hm.k2, vp_in_nI (by omega) (by omega), S_R_dealt hm hr hj hva hb ha ⟨hm.1, S_R_alw hm hr (dealN_le _ _ _ _ _) hh ?_⟩⟩
      have hal : alw σ h (sDeal σ j (sVa σ i) b a) ≤ 2 := alw_le (dealN_le _ _ _ _ _)
      have ee : nI (alw σ h (sDeal σ j (sVa σ i) b a)) = nI ev ↔ alw σ h (sDeal σ j (sVa σ i) b a) = ev := nI_eq (by omega) (by omega)
      have fin : ∀ y : Nat, y = bit (alw σ h (sDeal σ j (sVa σ i) b a) = ev) (sPt σ j) → jn_X13_hundredths_67 (fun fx0 fx1 fx2 fx3 fx4 fx5 fx6 fx7 fM => lp_X13_hundredths_20 Q m fx0 fx1 fx2 fx3 fx4 fx5 fx6 fx7 fM) Q 87 (nI ev) (nI i) (nI b) (nI a) (iI h) (nI j) (nI y) (nI (x + sumN (fun j => bit (alw σ h (sDeal σ j (sVa σ i) b a) = ev) (sPt σ j)) j)) M := by
        intro y hy z hz
        rw [hz, nI_add, nI_1, hy, Nat.add_assoc]
        exact ih
      rw [hm.r5, hm.n5, nI_clamp (by omega), (hr.2.2.2 j hj).2.1]
      exact ⟨fun q => fin 0 (by rw [bit_f (mt ee.mpr q)]), fun q => ⟨hm.1, hm.k5, vp_in_nI (by omega) (by omega), fin _ (by rw [bit_t (ee.mp q)])⟩⟩
  have e0 : nI ev = (0 : Int32) ↔ ev = 0 := nI_eq (b := 0) (by omega) (by omega)
  refine ⟨fun q => go 0 (by rw [if_neg (mt e0.mpr q)]), fun q => ⟨hm.1, S_R_parts hm hr ?_⟩⟩
  rw [show (100 : Int32) = nI 100 from rfl, pk_sub w6]
  exact go _ (by rw [if_pos (e0.mp q)])
end REF
