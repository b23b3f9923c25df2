/-! THE COMPONENT: streets told as texts, widths, cells of rows -/
def byN (e : Nat → Int) (i : Nat) : Nat := if 0 ≤ e i then (e i).toNat else (e i + 256).toNat
theorem byN_sb {e : Nat → Int} {i : Nat} (h : -128 ≤ e i ∧ e i < 128) : byN e i < 256 ∧ iI (e i) = sb (byN e i) := by
  have k : byN e i < 256 ∧ byI (byN e i) = e i := by
    unfold byN
    by_cases c : 0 ≤ e i
    · rw [if_pos c]
      refine ⟨by omega, ?_⟩
      unfold byI
      rw [if_pos (by omega)]
      omega
    · rw [if_neg c]
      refine ⟨by omega, ?_⟩
      unfold byI
      rw [if_neg (by omega)]
      omega
  refine ⟨k.1, ?_⟩
  unfold sb
  rw [k.2]
abbrev bR (c : CT) (d : Int32) : Prop := ix d < 8 ∧ (cG c (ix d)).1 = 2 ∧ (cG c (ix d)).2.1 = 0
def rB (c : CT) (d : Int32) : Nat → Nat := byN (cG c (ix d)).2.2.2
def rL (c : CT) (d : Int32) : Nat := (cG c (ix d)).2.2.1
def wNo (c : CT) (x : Int32) : Int32 := if ix x < 8 then (if (cG c (ix x)).1 = 0 then -11 else -12) else -1
def aStreet (c : CT) (d : Int32) : Int32 := if bR c d then (if fmV (rB c d) (rL c d) < 0 then iI (fmV (rB c d) (rL c d)) else iI (tlV (rB c d) (rL c d) (cS c)).1) else wNo c d
def newS (c : CT) (σ : StT) : CT := (σ, sCh σ, 0, cI c, cS2 c, cW2 c, cH2 c, cG c)
def nStreet (c : CT) (d : Int32) : CT := if bR c d ∧ 0 ≤ fmV (rB c d) (rL c d) ∧ 0 < (tlV (rB c d) (rL c d) (cS c)).1 then newS c (tlV (rB c d) (rL c d) (cS c)).2 else c
def aSpread (c : CT) (d : Int32) : Int32 := if ix d < 8 ∧ (cG c (ix d)).1 = 1 then nI (widN (cG c (ix d)).2.1 (cG c (ix d)).2.2.1) else wNo c d
section COMP
variable {M : Mem} {c : CT} {Q : Int32 → Mem → Prop} {QR : Nat → Mem → Prop} {QJ0 : Int64 → Mem → Prop} {QV0 : Mem → Prop}
theorem S_X12_whyNo {x : Int32} (h : AbsC M c) (hQ : Q (wNo c x) M) : wp_X12_whyNot 2 x M Q := by
  unfold wNo at hQ
  refine S_X12_whyNot h (fun z => ?_) (fun d hd e z => ?_) (fun d hd e z => ?_)
  · rw [if_neg (fun q => z ((inN_ix (by omega)).mpr q))] at hQ; exact hQ
  · subst e
    rw [ix_nI (by omega), if_pos hd, if_pos z] at hQ; exact hQ
  · subst e
    rw [ix_nI (by omega), if_pos hd, if_neg z] at hQ; exact hQ
theorem row_by {d : Nat} (h : AbsC M c) (hd : d < 8) (h2 : (cG c d).1 = 2) (h0 : (cG c d).2.1 = 0) : byAt M (34 + 2 * d) (cG c d).2.2.1 (byN (cG c d).2.2.2) := by
  have g := h.2.2.2.2.2.1 d hd
  rcases g.2 with ⟨a1, -⟩ | ⟨a1, -⟩ | ⟨a1, a2, a3, a4, a5, a6, a7⟩
  · omega
  · omega
  · refine ⟨g.1, a5, a6, fun i hi => ?_⟩
    obtain ⟨⟨-, -, r⟩, e⟩ := a7 i hi
    obtain ⟨b1, b2⟩ := byN_sb (r h0)
    exact ⟨b1, by rw [e, b2]⟩
theorem AbsC.text {M' : Mem} {p : PsT} (h : AbsC M c) (f : Fr (fun a => scr a ∨ txA 50 a) M M') (hp : PsAt M' 50 p) : Kp cpA M M' ∧ AbsC M' c := by
  refine ⟨f.Kp (fun a q => by simp only [scr, txA, cpA] at *; omega), ?_⟩
  obtain ⟨h1, h2, h3, h4, h5, h6, p0, h7⟩ := h
  refine ⟨h1.fr f, h2.fr f (fun a _ _ => by simp only [scr, txA]; omega), h3.fr f (by simp only [scr, txA]; omega) (by simp only [scr, txA]; omega), ?_, fun hi => ?_, fun d hd => ?_, p, hp⟩
  · rw [f.I (by simp only [scr, txA]; omega)]; exact h4
  · exact ⟨(h5 hi).1.fr f (fun a _ _ => by simp only [scr, txA]; omega), (h5 hi).2.fr f (by simp only [scr, txA]; omega) (by simp only [scr, txA]; omega)⟩
  · exact (h6 d hd).fr f (by simp only [scr, txA]; omega) (by simp only [scr, txA]; omega) (fun a ha => by simp only [scr, txA]; omega)
theorem tl_rng {b : Nat → Nat} : ∀ r t st cnt p σ, t + r ≤ 100 → st ≤ t → cnt ≤ t → -3000 ≤ (tl b r t st cnt p σ).1 ∧ (tl b r t st cnt p σ).1 ≤ 1000 := by
  intro r
  induction r with
  | zero => intro t st cnt p σ h1 h2 h3; show -3000 ≤ (cnt : Int) ∧ (cnt : Int) ≤ 1000; omega
  | succ r ih =>
    intro t st cnt p σ h1 h2 h3
    unfold tl
    split
    · show -3000 ≤ (-1 : Int) ∧ (-1 : Int) ≤ 1000; omega
    · split
      · split
        · show -3000 ≤ -2000 - (st : Int) ∧ -2000 - (st : Int) ≤ 1000; omega
        · exact ih _ _ _ _ _ (by omega) (by omega) (by omega)
      · exact ih _ _ _ _ _ (by omega) (by omega) (by omega)
theorem fm_rng {b : Nat → Nat} {len : Nat} (hl : len ≤ 100) : -2000 ≤ fmV b len ∧ fmV b len ≤ 0 := by
  unfold fmV formV
  have : ∀ r t p, t + r ≤ 100 → ∀ a, run b r t p = .inl a → a < 100 := by
    intro r
    induction r with
    | zero => intro t p _ a ha; exact absurd ha (by unfold run; simp)
    | succ r ih =>
      intro t p ht a ha
      unfold run at ha
      split at ha
      · injection ha with ha; omega
      · exact ih _ _ (by omega) a ha
  split
  · rename_i a ha; have := this len 0 _ (by omega) a ha; omega
  · split <;> omega
theorem S_X12_street {d : Int32} (h : AbsC M c) (hQ : ∀ M', Kp cpA M M' → AbsC M' (nStreet c d) → Q (aStreet c d) M') : wp_X12_street 2 d M Q := by
  unfold nStreet aStreet at hQ
  refine ⟨h.1.1, S_X12_bytesOn h (fun hn => ⟨fun z => absurd rfl z, fun _ => ⟨h.1.1, S_X12_whyNo h ?_⟩⟩) (fun i hi e g1 g2 => ⟨fun _ => ?_, fun z => by omega⟩)⟩
  · have no : ¬ bR c d := fun q => by
      obtain ⟨j, hj, e⟩ := (inN_ix (by omega)).mpr q.1
      have q2 := q.2
      rw [e, ix_nI (by omega)] at q2
      exact hn j hj e q2
    rw [if_neg (fun q => no q.1), if_neg no] at hQ
    exact hQ M Kp.rf h
  · have ei : ix d = i := by rw [e, ix_nI (by omega)]
    have yes : bR c d := ⟨by omega, by rw [ei]; exact g1, by rw [ei]; exact g2⟩
    rw [if_pos yes] at hQ
    have by0 := row_by h hi g1 g2
    have eb : byN (cG c i).2.2.2 = rB c d := by unfold rB; rw [ei]
    have el : (cG c i).2.2.1 = rL c d := by unfold rL; rw [ei]
    rw [eb, el] at by0
    rw [h.1.2.1.1, h.1.2.1.2.1]
    refine ⟨h.1.1, h.1.2.2.2.1.1, S_X6_copyFrom h.2.1 h.1.2.2.2.1 (by unfold apart; omega) (fun M9 f9 d9 => ?_)⟩
    obtain ⟨k9, c9⟩ := h.keep f9 (fun x hx => by simp only [stA, scr] at *; omega)
    rw [c9.1.2.1.2.1, c9.1.2.1.2.2.2.2.2.2.2.1]
    obtain ⟨p, hp⟩ := c9.2.2.2.2.2.2
    have by9 := by0.fr f9 (by simp only [stA]; omega) (by simp only [stA]; omega)
    refine ⟨c9.1.1, hp.1.1, S_X7_tellTo by9 hp d9.1 (by unfold apart; omega) (by unfold apart; omega) (by unfold apart; omega) (fun hF p' M' f hp' => ?_) (fun hF p' M' f hp' hs' => ?_)⟩
    · have hr := fm_rng (b := rB c d) by0.2.1
      have e0 : iI (fmV (rB c d) (rL c d)) ≤ (0 : Int32) ↔ fmV (rB c d) (rL c d) ≤ 0 := iI_le (b := 0) (by omega) (by omega)
      rw [if_neg (fun q => by have := q.2.1; omega), if_pos hF] at hQ
      obtain ⟨k, c1⟩ := c9.text (f.mono (fun x hx => Or.inr hx)) hp'
      exact ⟨fun _ => hQ M' (k9.tr k) c1, fun z => absurd (e0.mpr (by omega)) z⟩
    · have hr := tl_rng (b := rB c d) (rL c d) 0 0 0 pZ (cS c) (by have := by0.2.1; omega) (by omega) (by omega)
      change -3000 ≤ (tlV (rB c d) (rL c d) (cS c)).1 ∧ (tlV (rB c d) (rL c d) (cS c)).1 ≤ 1000 at hr
      have e0 : iI (tlV (rB c d) (rL c d) (cS c)).1 ≤ (0 : Int32) ↔ (tlV (rB c d) (rL c d) (cS c)).1 ≤ 0 := iI_le (b := 0) (by omega) (by omega)
      rw [if_neg (show ¬ fmV (rB c d) (rL c d) < 0 by omega)] at hQ
      obtain ⟨k11, c11⟩ := c9.text (f.mono (fun x hx => by simp only [scr, txA, stA] at *; omega)) hp'
      refine ⟨fun z => ?_, fun z => ?_⟩
      · have z := e0.mp z
        rw [if_neg (fun q => by have := q.2.2; omega)] at hQ
        exact hQ M' (k9.tr k11) c11
      · have z := mt e0.mpr z
        have hs2 := hs' (by omega)
        clear hs'
        rw [if_pos ⟨yes, hF, by omega⟩] at hQ
        generalize (tlV (rB c d) (rL c d) (cS c)).2 = σ' at *
        generalize (tlV (rB c d) (rL c d) (cS c)).1 = v at *
        rw [c11.1.2.1.2.1]
        refine ⟨c11.1.1, c11.1.2.2.2.1.1, S_X6_tally hs2 (fun M18 f18 d18 => ?_)⟩
        obtain ⟨k18, c18⟩ := c11.keep f18 (fun x hx => by simp only [tabA, scr] at *; omega)
        rw [c18.1.2.1.1, c18.1.2.1.2.1]
        refine ⟨c18.1.1, c18.2.1.1.1.1, S_X6_copyFrom d18 c18.2.1.1.1 (by unfold apart; omega) (fun M20 f20 n20 => ?_)⟩
        have m20 := c18.1.fr f20
        have t20 := c18.2.2.1.1.fr f20
        rw [m20.2.1.1, m20.2.1.2.2.2.1]
        refine ⟨m20.1, t20.1, S_X9_begin n20.1 t20 (by unfold apart; omega) (fun M22 f22 h22 => ?_)⟩
        have all : Fr (fun x => (3 ≤ x ∧ x < 11) ∨ x = 27 ∨ x = 28) M18 M22 := (f20.mono (fun x hx => by simp only [stA] at hx; omega)).t2 (f22.mono (fun x hx => by simp only [thA] at hx; omega))
        have n22 := n20.fr f22 (fun a _ _ => by simp only [thA]; omega)
        refine hQ M22 (((k9.tr k11).tr k18).tr (all.Kp (fun a q => by simp only [cpA]; omega))) ?_
        obtain ⟨h1, h2, h3, h4, h5, h6, p0, h7⟩ := c18
        refine ⟨h1.fr all, n22, h22.up (by omega), ?_, fun hi => ⟨(h5 hi).1.fr all (fun a _ _ => by omega), (h5 hi).2.fr all (by omega) (by omega)⟩, fun d hd => (h6 d hd).fr all (by omega) (by omega) (fun a ha => by omega), p0, h7.fr all (by omega) (by omega)⟩
        rw [all.I (by omega)]; exact h4
theorem S_X12_spread {d : Int32} (h : AbsC M c) (hQ : Q (aSpread c d) M) : wp_X12_spread 2 d M Q := by
  unfold aSpread at hQ
  refine ⟨h.1.1, S_X12_wayOn h (fun hn => ⟨fun z => absurd rfl z, fun _ => ⟨h.1.1, S_X12_whyNo h ?_⟩⟩) (fun i a hi e g1 g2 g3 g4 g5 => ⟨fun _ => ⟨g5.isW, S_width g5 ?_⟩, fun z => absurd z g2⟩)⟩
  · rw [if_neg (fun q => by
      obtain ⟨j, hj, e⟩ := (inN_ix (by omega)).mpr q.1
      have q2 := q.2
      rw [e, ix_nI (by omega)] at q2
      exact hn j hj e q2)] at hQ
    exact hQ
  · have ei : ix d = i := by rw [e, ix_nI (by omega)]
    rw [ei, if_pos ⟨hi, g1⟩] at hQ
    exact hQ
end COMP
