/-! THE COMPONENT: cells put, copied -/
def setG (c : CT) (d : Nat) (g : ShT) : CT := (cS c, cW c, cH c, cI c, cS2 c, cW2 c, cH2 c, fun j => if j = d then g else cG c j)
def nrw (s : Nat) (v : Int32) : Int := if s = 0 then v.toInt8.toInt else if s = 1 then v.toInt16.toInt else v.toInt
abbrev rwR (c : CT) (d : Int32) : Prop := ix d < 8 ∧ (cG c (ix d)).1 = 2
def aPut (c : CT) (d i : Int32) : Int32 := if rwR c d then (if ix i < rL c d then 0 else -13) else wNo c d
def putG (g : ShT) (i : Nat) (v : Int32) : ShT := (g.1, g.2.1, g.2.2.1, fun k => if k = i then nrw g.2.1 v else g.2.2.2 k)
def nPut (c : CT) (d i v : Int32) : CT := if rwR c d ∧ ix i < rL c d then setG c (ix d) (putG (cG c (ix d)) (ix i) v) else c
theorem iI_ti (v : Int32) : iI v.toInt = v := by
  unfold iI
  exact Int32.ofInt_toInt v
theorem nrw_rng (s : Nat) (v : Int32) : -2147483648 ≤ nrw s v ∧ nrw s v < 2147483648 ∧ (s = 0 → -128 ≤ nrw s v ∧ nrw s v < 128) := by
  have a1 := Int8.le_toInt v.toInt8
  have a2 := Int8.toInt_lt v.toInt8
  have b1 := Int16.le_toInt v.toInt16
  have b2 := Int16.toInt_lt v.toInt16
  have c1 := Int32.le_toInt v
  have c2 := Int32.toInt_lt v
  unfold nrw
  split
  · exact ⟨by omega, by omega, fun _ => ⟨by omega, by omega⟩⟩
  · split
    · exact ⟨by omega, by omega, fun z => by omega⟩
    · exact ⟨by omega, by omega, fun z => by omega⟩
theorem nrw_0 (v : Int32) : v.toInt8.toInt32 = iI (nrw 0 v) := by
  show _ = iI v.toInt8.toInt
  rw [← Int8.toInt_toInt32, iI_ti]
theorem nrw_1 (v : Int32) : v.toInt16.toInt32 = iI (nrw 1 v) := by
  show _ = iI v.toInt16.toInt
  rw [← Int16.toInt_toInt32, iI_ti]
section COMP
variable {M : Mem} {c : CT} {Q : Int32 → Mem → Prop} {QR : Nat → Mem → Prop} {QJ0 : Int64 → Mem → Prop} {QV0 : Mem → Prop}
theorem AbsC.cells {d : Nat} {g : ShT} {M' : Mem} (h : AbsC M c) (hd : d < 8) (f : Fr (fun x => x = 34 + 2 * d + 1) M M') (hg : ShAt M' (34 + 2 * d) g) : Kp cpA M M' ∧ AbsC M' (setG c d g) := by
  refine ⟨f.Kp (fun a q => by simp only [cpA]; omega), ?_⟩
  obtain ⟨h1, h2, h3, h4, h5, h6, p, h7⟩ := h
  refine ⟨h1.fr f, h2.fr f (fun a _ _ => by omega), h3.fr f (by omega) (by omega), ?_, fun hi => ⟨(h5 hi).1.fr f (fun a _ _ => by omega), (h5 hi).2.fr f (by omega) (by omega)⟩, fun j hj => ?_, p, h7.fr f (by omega) (by omega)⟩
  · rw [f.I (by omega)]; exact h4
  · show ShAt M' (34 + 2 * j) (if j = d then g else cG c j)
    by_cases e : j = d
    · rw [if_pos e, e]; exact hg
    · rw [if_neg e]; exact (h6 j hj).fr f (by omega) (by omega) (fun a ha => by omega)
theorem S_X4_isRow {q : Nat} {g : ShT} (h : ShAt M q g) (h1 : g.1 = 2 → Q 1 M) (h0 : g.1 ≠ 2 → Q 0 M) : wp_X4_isRow q M Q := by
  refine ⟨h.1.1, ?_⟩
  rcases h.2 with ⟨a1, a2, a3⟩ | ⟨a1, a2, a3, a4, a5⟩ | ⟨a1, a2, a3, a4, -⟩
  · rw [a3]; exact ⟨fun _ => h0 (by omega), fun z => absurd rfl z⟩
  · rw [a4]; exact ⟨fun _ => h0 (by omega), fun z => absurd rfl z⟩
  · rw [a4]
    refine ⟨fun z => ?_, fun _ => h1 a1⟩
    rw [nI_iI, show (-1 : Int32) = iI (-1) from rfl, iI_eq (by omega) (by omega)] at z
    omega
theorem S_X12_rowOn {x : Int32} (h : AbsC M c) (h0 : ¬ rwR c x → QR 0 M) (h1 : ∀ d, d < 8 → x = nI d → rwR c x → (cG c d).1 = 2 → QR (34 + 2 * d) M) : wp_X12_rowOn 2 x M QR := by
  refine S_X12_isShelf (fun d hd e => ⟨fun z => absurd z (by decide), fun _ => ?_⟩) (fun hn => ⟨fun _ => h0 (fun q => hn ((inN_ix (by omega)).mpr q.1)), fun z => absurd rfl z⟩)
  rw [h.1.2.1.2.2.2.2.2.2.1, h.1.2.2.1.2.1, e, nI_clamp (by omega), S_shelfR h hd]
  have g := h.2.2.2.2.2.1 d hd
  have ei : ix x = d := by rw [e, ix_nI (by omega)]
  refine ⟨h.1.1, h.1.2.2.1.1, vp_in_nI (by omega) (by omega), g.1.1, S_X4_isRow g (fun y => ⟨fun z => absurd z (by decide), fun _ => ?_⟩) (fun y => ⟨fun _ => h0 (fun q => y (by have := q.2; rw [ei] at this; exact this)), fun z => absurd rfl z⟩)⟩
  rw [h.1.2.1.2.2.2.2.2.2.1, h.1.2.2.1.2.1, S_shelfR h hd]
  exact ⟨h.1.1, h.1.2.2.1.1, vp_in_nI (by omega) (by omega), h1 d hd e ⟨by omega, by rw [ei]; exact y⟩ y⟩
theorem S_X12_put {d i v : Int32} (h : AbsC M c) (hQ : ∀ M', Kp cpA M M' → AbsC M' (nPut c d i v) → Q (aPut c d i) M') : wp_X12_put 2 d i v M Q := by
  unfold nPut aPut at hQ
  refine ⟨h.1.1, S_X12_rowOn h (fun hn => ⟨fun z => absurd rfl z, fun _ => ⟨h.1.1, S_X12_whyNo h ?_⟩⟩) (fun k hk e hr g1 => ⟨fun _ => ?_, fun z => by omega⟩)⟩
  · rw [if_neg (fun q => hn q.1), if_neg hn] at hQ; exact hQ M Kp.rf h
  · have ek : ix d = k := by rw [e, ix_nI (by omega)]
    obtain ⟨r1, r2, r3, r4, r5⟩ := row_at h hk g1
    have g := h.2.2.2.2.2.1 k hk
    have el : rL c d = (cG c k).2.2.1 := by unfold rL; rw [ek]
    rw [if_pos hr, el] at hQ
    refine ⟨g.1.1, S_X4_hasPlace g.1.1 r4 r1 (fun j hj ej => ⟨fun _ => ?_, fun z => absurd z (by decide)⟩) (fun hn => ⟨fun z => absurd rfl z, fun _ => ?_⟩)⟩
    · have ei : ix i = j := by rw [ej, ix_nI (by omega)]
      rw [ei, if_pos ⟨hr, hj⟩, if_pos hj, ek] at hQ
      have fin : ∀ x : Int32, x = iI (nrw (cG c k).2.1 v) → jn_X4_store_31 (fun M16 => Q 0 M16) x i (mR M (34 + 2 * k) 3) M := by
        intro x hx
        unfold jn_X4_store_31
        rw [g.1.2.1, g.1.2.2.2, ej, nI_clamp (by omega)]
        refine ⟨g.1.2.2.1, vp_in_nI (by omega) (by omega), fun M9 e9 => ?_⟩
        have f : Fr (fun y => y = 34 + 2 * k + 1) M M9 := by rw [e9]; exact Fr.uI rfl
        have gg : ShAt M9 (34 + 2 * k) (putG (cG c k) j v) := by
          refine ⟨g.1.fr f, Or.inr (Or.inr ?_)⟩
          rcases g.2 with ⟨a1, -⟩ | ⟨a1, -⟩ | ⟨a1, a2, a3, a4, a5, a6, a7⟩
          · omega
          · omega
          · refine ⟨a1, by rw [f.R]; exact a2, a3, by rw [f.I (by omega)]; exact a4, a5, by rw [f.I (by omega)]; exact a6, fun t ht => ?_⟩
            show (-2147483648 ≤ (if t = j then nrw (cG c k).2.1 v else (cG c k).2.2.2 t) ∧ (if t = j then nrw (cG c k).2.1 v else (cG c k).2.2.2 t) < 2147483648 ∧ ((cG c k).2.1 = 0 → -128 ≤ (if t = j then nrw (cG c k).2.1 v else (cG c k).2.2.2 t) ∧ (if t = j then nrw (cG c k).2.1 v else (cG c k).2.2.2 t) < 128)) ∧ mI M9 (34 + 2 * k + 1) t = iI (if t = j then nrw (cG c k).2.1 v else (cG c k).2.2.2 t)
            rw [e9, mI_uI, if_pos rfl]
            by_cases ct : t = j
            · rw [if_pos ct, if_pos ct]; exact ⟨nrw_rng _ _, hx⟩
            · rw [if_neg ct, if_neg ct]; exact a7 t ht
        obtain ⟨k9, c9⟩ := h.cells hk f gg
        exact hQ M9 k9 c9
      have e0 : nI (cG c k).2.1 = (0 : Int32) ↔ (cG c k).2.1 = 0 := nI_eq (b := 0) (by omega) (by omega)
      have e1 : nI (cG c k).2.1 = (1 : Int32) ↔ (cG c k).2.1 = 1 := nI_eq (b := 1) (by omega) (by omega)
      unfold wp_X4_store
      rw [r2]
      refine ⟨g.1.1, g.1.1, fun z => ⟨fun y => fin v ?_, fun y => fin _ ?_⟩, fun z => fin _ ?_⟩
      · show v = iI (nrw (cG c k).2.1 v)
        unfold nrw
        rw [if_neg (mt e0.mpr z), if_neg (mt e1.mpr y), iI_ti]
      · rw [e1.mp y]; exact nrw_1 v
      · rw [e0.mp z]; exact nrw_0 v
    · have no : ¬ ix i < (cG c k).2.2.1 := fun q => by
        obtain ⟨j, hj, e⟩ := (inN_ix (by omega)).mpr q
        exact hn j hj e
      rw [if_neg (fun q => no q.2), if_neg no] at hQ
      exact hQ M Kp.rf h
end COMP
