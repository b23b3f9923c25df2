/-! THE COMPONENT: rows copied -/
abbrev cpC (c : CT) (d i e j n : Int32) : Prop := ix i < 2147483648 ∧ ix j < 2147483648 ∧ ix n < 2147483648 ∧ ix i + ix n ≤ rL c d ∧ ix j + ix n ≤ rL c e
def cpyG (g f : ShT) (i j n : Nat) : ShT := (g.1, g.2.1, g.2.2.1, fun k => if j ≤ k ∧ k < j + n then f.2.2.2 (i + (k - j)) else g.2.2.2 k)
def aCopy (c : CT) (d i e j n : Int32) : Int32 := if ix d < 8 ∧ ix e < 8 then (if (cG c (ix d)).1 = 0 ∨ (cG c (ix e)).1 = 0 then -11 else if rwR c d ∧ rwR c e ∧ (cG c (ix d)).2.1 = (cG c (ix e)).2.1 then (if cpC c d i e j n then n else -13) else -12) else -1
def nCopy (c : CT) (d i e j n : Int32) : CT := if rwR c d ∧ rwR c e ∧ (cG c (ix d)).2.1 = (cG c (ix e)).2.1 ∧ cpC c d i e j n then setG c (ix e) (cpyG (cG c (ix e)) (cG c (ix d)) (ix i) (ix j) (ix n)) else c
section COMP
variable {M : Mem} {c : CT} {Q : Int32 → Mem → Prop} {QR : Nat → Mem → Prop} {QJ0 : Int64 → Mem → Prop} {QV0 : Mem → Prop}
theorem S_X4_hasPlaces {q s : Nat} {x n : Int32} (hk : mK M q = 5) (hs : mI M q 2 = nI s) (hs2 : s ≤ 100) (h1 : ∀ a b, a + b ≤ s → x = nI a → n = nI b → Q 1 M) (h0 : ¬ (ix x < 2147483648 ∧ ix n < 2147483648 ∧ ix x + ix n ≤ s) → Q 0 M) : wp_X4_hasPlaces q x n M Q := by
  unfold wp_X4_hasPlaces
  rw [hs]
  have neg : ∀ y : Int32, y < 0 → ¬ ix y < 2147483648 := fun y hy z => by unfold ix at z; rw [if_pos hy] at z; omega
  refine ⟨fun z => h0 (fun q => neg x z q.1), fun z => ⟨fun y => h0 (fun q => neg n y q.2.1), fun y => ⟨hk, fun w => ?_, fun w => ?_⟩⟩⟩
  · obtain ⟨a, ha, rfl⟩ := nI_of z
    have w := (nI_lt31 (by omega) ha).mp w
    exact h0 (fun q => by have := q.2.2; rw [ix_nI ha] at this; omega)
  · obtain ⟨a, ha, rfl⟩ := nI_of z
    obtain ⟨b, hb, rfl⟩ := nI_of y
    have w := mt (nI_lt31 (by omega) ha).mpr w
    rw [pk_sub (by omega)]
    have e : nI (s - a) < nI b ↔ s - a < b := nI_lt31 (by omega) hb
    refine ⟨fun v => h0 (fun q => by have := q.2.2; rw [ix_nI ha, ix_nI hb] at this; have := e.mp v; omega), fun v => h1 a b (by have := mt e.mpr v; omega) rfl rfl⟩
end COMP
