/-! THE COMPONENT: rows copied -/
abbrev cpC (c : CT) (d i e j n : Int32) : Prop := ix i < 2147483648 ∧ ix j < 2147483648 ∧ ix n < 2147483648 ∧ ix i + ix n ≤ rL c d ∧ ix j + ix n ≤ rL c e
def cpyG (g f : ShT) (i j n : Nat) : ShT := (g.1, g.2.1, g.2.2.1, fun k => if j ≤ k ∧ k < j + n then f.2.2.2 (i + (k - j)) else g.2.2.2 k)
def aCopy (c : CT) (d i e j n : Int32) : Int32 := if ix d < 8 ∧ ix e < 8 then (if (cG c (ix d)).1 = 0 ∨ (cG c (ix e)).1 = 0 then -11 else if rwR c d ∧ rwR c e ∧ (cG c (ix d)).2.1 = (cG c (ix e)).2.1 then (if cpC c d i e j n then n else -13) else -12) else -1
def nCopy (c : CT) (d i e j n : Int32) : CT := if rwR c d ∧ rwR c e ∧ (cG c (ix d)).2.1 = (cG c (ix e)).2.1 ∧ cpC c d i e j n then setG c (ix e) (cpyG (cG c (ix e)) (cG c (ix d)) (ix i) (ix j) (ix n)) else c
section COMP
variable {M : Mem} {c : CT} {Q : Int32 → Mem → Prop} {QR : Nat → Mem → Prop} {QJ0 : Int64 → Mem → Prop} {QV0 : Mem → Prop}
theorem S_X4_hasPlaces {q s : Nat} {x n : Int32} (hk : mK M q = 5) (hs : mI M q 2 = nI s) (hs2 : s ≤ 100) (h1 : ∀ a b, a + b ≤ s → x = nI a → n = nI b → Q 1 M) (h0 : ¬ (ix x < 2147483648 ∧ ix n < 2147483648 ∧ ix x + ix n ≤ s) → Q 0 M) : wp_X4_hasPlaces q x n M Q := by
  unfold wp_X4_hasPlaces
  rw [hs]
  have neg : ∀ y : Int32, y < 0 → ¬ ix y < 2147483648 := fun y hy z => by unfold ix at z; rw [if_pos hy] at z; omega
  refine ⟨fun z => h0 (fun q => neg x z q.1), fun z => ⟨fun y => h0 (fun q => neg n y q.2.1), fun y => ⟨hk, fun w => ?_, fun w => ?_⟩⟩⟩
  · obtain ⟨a, ha, rfl⟩ := nI_of z
    have w := (nI_lt31 (by omega) ha).mp w
    exact h0 (fun q => by have := q.2.2; rw [ix_nI ha] at this; omega)
  · obtain ⟨a, ha, rfl⟩ := nI_of z
    obtain ⟨b, hb, rfl⟩ := nI_of y
    have w := mt (nI_lt31 (by omega) ha).mpr w
    rw [pk_sub (by omega)]
    have e : nI (s - a) < nI b ↔ s - a < b := nI_lt31 (by omega) hb
    refine ⟨fun v => h0 (fun q => by have := q.2.2; rw [ix_nI ha, ix_nI hb] at this; have := e.mp v; omega), fun v => h1 a b (by have := mt e.mpr v; omega) rfl rfl⟩
theorem S_X12_copy {d i e j n : Int32} (h : AbsC M c) (hQ : ∀ M', Kp cpA M M' → AbsC M' (nCopy c d i e j n) → Q (aCopy c d i e j n) M') : wp_X12_copy 2 d i e j n M Q := by
  unfold nCopy aCopy at hQ
  refine S_X12_isShelf (fun k hk e1 => ⟨fun z => absurd z (by decide), fun _ => S_X12_isShelf (fun l hl e2 => ⟨fun _ => ?_, fun z => absurd z (by decide)⟩) (fun hn => ⟨fun z => absurd rfl z, fun _ => ?_⟩)⟩) (fun hn => ⟨fun _ => ?_, fun z => absurd rfl z⟩)
  · have ek : ix d = k := by rw [e1, ix_nI (by omega)]
    have el : ix e = l := by rw [e2, ix_nI (by omega)]
    have gk := h.2.2.2.2.2.1 k hk
    have gl := h.2.2.2.2.2.1 l hl
    have rk : rL c d = (cG c k).2.2.1 := by unfold rL; rw [ek]
    have rl : rL c e = (cG c l).2.2.1 := by unfold rL; rw [el]
    rw [if_pos (show ix d < 8 ∧ ix e < 8 by omega)] at hQ
    rw [h.1.2.1.2.2.2.2.2.2.1, h.1.2.2.1.2.1, e1, nI_clamp (by omega), S_shelfR h hk]
    have emp : ((cG c (ix d)).1 = 0 ∨ (cG c (ix e)).1 = 0) → Q (-11) M := fun q => by
      rw [if_pos q, if_neg (fun w => by have a := w.1.2; have b := w.2.1.2; omega)] at hQ
      exact hQ M Kp.rf h
    refine ⟨h.1.1, h.1.2.2.1.1, vp_in_nI (by omega) (by omega), gk.1.1, S_X4_isEmpty gk (fun q => ⟨fun _ => emp (Or.inl (by rw [ek]; exact q)), fun z => absurd z (by decide)⟩) (fun q => ⟨fun z => absurd rfl z, fun _ => ?_⟩)⟩
    rw [h.1.2.1.2.2.2.2.2.2.1, h.1.2.2.1.2.1, e2, nI_clamp (by omega), S_shelfR h hl]
    refine ⟨h.1.1, h.1.2.2.1.1, vp_in_nI (by omega) (by omega), gl.1.1, S_X4_isEmpty gl (fun q2 => ⟨fun z => absurd z (by decide), fun _ => emp (Or.inr (by rw [el]; exact q2))⟩) (fun q2 => ⟨fun _ => ⟨h.1.1, ?_⟩, fun z => absurd rfl z⟩)⟩
    rw [← e1, ← e2]
    rw [if_neg (show ¬ ((cG c (ix d)).1 = 0 ∨ (cG c (ix e)).1 = 0) by rw [ek, el]; omega)] at hQ
    have oth : ¬ (rwR c d ∧ rwR c e ∧ (cG c (ix d)).2.1 = (cG c (ix e)).2.1) → Q (-12) M := fun q => by
      rw [if_neg q, if_neg (fun w => q ⟨w.1, w.2.1, w.2.2.1⟩)] at hQ
      exact hQ M Kp.rf h
    have after : ∀ r31 : Nat, (r31 = 0 → ¬ rwR c d) → (r31 ≠ 0 → r31 = 34 + 2 * k ∧ rwR c d) → ∀ r34 : Nat, (r34 = 0 → ¬ rwR c e) → (r34 ≠ 0 → r34 = 34 + 2 * l ∧ rwR c e) → (r31 = 0 → Q (-12) M) ∧ (¬ r31 = 0 → (r34 = 0 → Q (-12) M) ∧ (¬ r34 = 0 → mK M r31 = 5 ∧ mK M r34 = 5 ∧ ((mI M r31 1) = (mI M r34 1) → wp_X4_hasPlaces r31 i n M (fun r49 M48 => (r49 = (0 : Int32) → Q (-13) M48) ∧ (¬ r49 = (0 : Int32) → mK M48 r34 = 5 ∧ wp_X4_hasPlaces r34 j n M48 (fun r56 M55 => (¬ r56 = (0 : Int32) → mK M55 r31 = 5 ∧ mK M55 r34 = 5 ∧ mK M55 (mR M55 r31 3) = 20 ∧ mK M55 (mR M55 r34 3) = 20 ∧ ¬ i < 0 ∧ ¬ j < 0 ∧ ¬ n < 0 ∧ i.toNatClampNeg + n.toNatClampNeg ≤ mN M55 (mR M55 r31 3) ∧ j.toNatClampNeg + n.toNatClampNeg ≤ mN M55 (mR M55 r34 3) ∧ ∀ M61 : Mem, M61 = wI M55 (mR M55 r34 3) (va_cpy (mI M55 (mR M55 r31 3)) (mI M55 (mR M55 r34 3)) i.toNatClampNeg j.toNatClampNeg n.toNatClampNeg) → Q n M61) ∧ (r56 = (0 : Int32) → Q (-13) M55))))) ∧ (¬ (mI M r31 1) = (mI M r34 1) → Q (-12) M))) := by
      intro r31 a1 a2 r34 b1 b2
      refine ⟨fun z => oth (fun q => a1 z q.1), fun z => ⟨fun y => oth (fun q => b1 y q.2.1), fun y => ?_⟩⟩
      obtain ⟨x1, rd⟩ := a2 z
      obtain ⟨x2, re⟩ := b2 y
      rw [x1, x2]
      have hk2 : (cG c k).1 = 2 := by have := rd.2; rw [ek] at this; exact this
      have hl2 : (cG c l).1 = 2 := by have := re.2; rw [el] at this; exact this
      obtain ⟨p1, p2, p3, p4, p5⟩ := row_at h hk hk2
      obtain ⟨q1, q2, q3, q4, q5⟩ := row_at h hl hl2
      rw [p2, q2]
      have es : nI (cG c k).2.1 = nI (cG c l).2.1 ↔ (cG c k).2.1 = (cG c l).2.1 := nI_eq (by omega) (by omega)
      refine ⟨gk.1.1, gl.1.1, fun w => ?_, fun w => oth (fun q => w (es.mpr (by have := q.2.2; rw [ek, el] at this; exact this)))⟩
      have same := es.mp w
      have all : rwR c d ∧ rwR c e ∧ (cG c (ix d)).2.1 = (cG c (ix e)).2.1 := ⟨rd, re, by rw [ek, el]; exact same⟩
      rw [if_pos all] at hQ
      have bad : ¬ cpC c d i e j n → Q (-13) M := fun q => by
        rw [if_neg q, if_neg (fun w => q w.2.2.2)] at hQ
        exact hQ M Kp.rf h
      refine S_X4_hasPlaces gk.1.1 p4 p1 (fun a b hab ea eb => ⟨fun z => absurd z (by decide), fun _ => ⟨gl.1.1, S_X4_hasPlaces gl.1.1 q4 q1 (fun a2 b2 hab2 ea2 eb2 => ⟨fun _ => ?_, fun z => absurd z (by decide)⟩) (fun hno => ⟨fun z => absurd rfl z, fun _ => bad (fun q => hno ⟨q.2.1, q.2.2.1, by have := q.2.2.2.2; rw [rl] at this; exact this⟩)⟩)⟩⟩) (fun hno => ⟨fun _ => bad (fun q => hno ⟨q.1, q.2.2.1, by have := q.2.2.2.1; rw [rk] at this; exact this⟩), fun z => absurd rfl z⟩)
      have eb3 : b = b2 := (nI_eq (by omega) (by omega)).mp (eb.symm.trans eb2)
      have ia : ix i = a := by rw [ea, ix_nI (by omega)]
      have ib : ix n = b := by rw [eb, ix_nI (by omega)]
      have ja : ix j = a2 := by rw [ea2, ix_nI (by omega)]
      have good : cpC c d i e j n := ⟨by omega, by omega, by omega, by rw [rk, ia, ib]; omega, by rw [rl, ja, ib]; omega⟩
      rw [if_pos good, if_pos ⟨all.1, all.2.1, all.2.2, good⟩, ek, el, ia, ja, ib] at hQ
      rw [gk.1.2.1, gl.1.2.1, gk.1.2.2.2, gl.1.2.2.2, ea, ea2, eb, nI_clamp (by omega), nI_clamp (by omega), nI_clamp (by omega)]
      refine ⟨gk.1.1, gl.1.1, gk.1.2.2.1, gl.1.2.2.1, nI_pos (by omega), nI_pos (by omega), nI_pos (by omega), by omega, by omega, fun M61 e61 => ?_⟩
      have f : Fr (fun y => y = 34 + 2 * l + 1) M M61 := by rw [e61]; exact Fr.wI rfl
      have gg : ShAt M61 (34 + 2 * l) (cpyG (cG c l) (cG c k) a a2 b) := by
        refine ⟨gl.1.fr f, Or.inr (Or.inr ?_)⟩
        rcases gl.2 with ⟨w1, -⟩ | ⟨w1, -⟩ | ⟨w1, w2, w3, w4, w5, w6, w7⟩
        · omega
        · omega
        · rcases gk.2 with ⟨v1, -⟩ | ⟨v1, -⟩ | ⟨v1, v2, v3, v4, v5, v6, v7⟩
          · omega
          · omega
          · refine ⟨w1, by rw [f.R]; exact w2, w3, by rw [f.I (by omega)]; exact w4, w5, by rw [f.I (by omega)]; exact w6, fun t ht => ?_⟩
            change t < (cG c l).2.2.1 at ht
            have et : (cpyG (cG c l) (cG c k) a a2 b).2.2.2 t = if a2 ≤ t ∧ t < a2 + b then (cG c k).2.2.2 (a + (t - a2)) else (cG c l).2.2.2 t := rfl
            rw [et, e61, mI_wI, if_pos rfl]
            show _ ∧ (if a2 ≤ t ∧ t < a2 + b then mI M (34 + 2 * k + 1) (a + (t - a2)) else mI M (34 + 2 * l + 1) t) = _
            by_cases ct : a2 ≤ t ∧ t < a2 + b
            · rw [if_pos ct, if_pos ct]
              have v := v7 (a + (t - a2)) (by omega)
              exact ⟨⟨v.1.1, v.1.2.1, fun z => v.1.2.2 (by change (cG c l).2.1 = 0 at z; omega)⟩, v.2⟩
            · rw [if_neg ct, if_neg ct]; exact w7 t ht
      obtain ⟨k9, c9⟩ := h.cells hl f gg
      have := hQ M61 k9 c9
      rw [← eb]; exact this
    refine S_X12_rowOn h (fun hn => ⟨h.1.1, S_X12_rowOn h (fun hn2 => after 0 (fun _ => hn) (fun z => absurd rfl z) 0 (fun _ => hn2) (fun z => absurd rfl z)) (fun l2 hl2 e22 r2 g2 => ?_)⟩) (fun k2 hk2 e12 r1 g1 => ⟨h.1.1, S_X12_rowOn h (fun hn2 => ?_) (fun l2 hl2 e22 r2 g2 => ?_)⟩)
    · have : l2 = l := by have := ix_nI (i := l2) (by omega); rw [← e22] at this; omega
      subst this
      exact after 0 (fun _ => hn) (fun z => absurd rfl z) _ (fun z => by omega) (fun _ => ⟨rfl, r2⟩)
    · have : k2 = k := by have := ix_nI (i := k2) (by omega); rw [← e12] at this; omega
      subst this
      exact after _ (fun z => by omega) (fun _ => ⟨rfl, r1⟩) 0 (fun _ => hn2) (fun z => absurd rfl z)
    · have q1 : k2 = k := by have := ix_nI (i := k2) (by omega); rw [← e12] at this; omega
      have q2 : l2 = l := by have := ix_nI (i := l2) (by omega); rw [← e22] at this; omega
      subst q1 q2
      exact after _ (fun z => by omega) (fun _ => ⟨rfl, r1⟩) _ (fun z => by omega) (fun _ => ⟨rfl, r2⟩)
  · have no : ¬ ix e < 8 := fun q => hn ((inN_ix (by omega)).mpr q)
    rw [if_neg (fun q => no q.2.1.1), if_neg (fun q => no q.2)] at hQ
    exact hQ M Kp.rf h
  · have no : ¬ ix d < 8 := fun q => hn ((inN_ix (by omega)).mpr q)
    rw [if_neg (fun q => no q.1.1), if_neg (fun q => no q.1)] at hQ
    exact hQ M Kp.rf h
end COMP
