/-! THE COMPONENT: what a log tells -/
def enN (c : CT) (d : Int32) (i : Nat) : Nat := ((cG c (ix d)).2.2.2 i).toNat
def lgF (σ : StT) (e : Nat → Nat) (b a : Nat) : Nat → Nat → Nat
  | 0, m => m
  | r + 1, m => if 0 < lgw σ e b a m then lgF σ e b a r (m + 1) else m
theorem lgF_at {σ : StT} {e : Nat → Nat} {b a : Nat} : ∀ r m k, m + k < m + r → (∀ j, j < k → 0 < lgw σ e b a (m + j)) → ¬ 0 < lgw σ e b a (m + k) → lgF σ e b a r m = m + k
  | 0, m, k, h, _, _ => absurd h (by omega)
  | r + 1, m, 0, h, h1, h2 => by
    unfold lgF
    exact if_neg h2
  | r + 1, m, k + 1, h, h1, h2 => by
    have e0 : 0 < lgw σ e b a m := h1 0 (by omega)
    unfold lgF
    rw [if_pos e0]
    have := lgF_at r (m + 1) k (by omega) (fun j hj => by have := h1 (j + 1) (by omega); rw [show m + 1 + j = m + (j + 1) by omega]; exact this) (by rw [show m + 1 + k = m + (k + 1) by omega]; exact h2)
    rw [this]; omega
theorem lgF_all {σ : StT} {e : Nat → Nat} {b a : Nat} : ∀ r m, (∀ j, j < r → 0 < lgw σ e b a (m + j)) → lgF σ e b a r m = m + r
  | 0, m, _ => rfl
  | r + 1, m, h => by
    have e0 : 0 < lgw σ e b a m := h 0 (by omega)
    unfold lgF
    rw [if_pos e0, lgF_all r (m + 1) (fun j hj => by have := h (j + 1) (by omega); rw [show m + 1 + j = m + (j + 1) by omega]; exact this)]
    omega
abbrev lgC (c : CT) (d : Int32) : Prop := 1 ≤ rL c d ∧ ∀ i, i < rL c d → 0 ≤ (cG c (ix d)).2.2.2 i ∧ (cG c (ix d)).2.2.2 i < 3
def aKnew (c : CT) (d b a p : Int32) : Int64 :=
  if sl b a ∧ ix p < 2 then
    (if bR c d then
      (if lgC c d then
        (if rdy c then
          (if lgF (cS c) (enN c d) (ix b) (ix a) (rL c d) 0 = rL c d then lN ((if ix p = 0 then lgk (cS c) (enN c d) (ix b) (ix a) (rL c d - 1) else lgw (cS c) (enN c d) (ix b) (ix a) (rL c d - 1)) / Nat.gcd (lgk (cS c) (enN c d) (ix b) (ix a) (rL c d - 1)) (lgw (cS c) (enN c d) (ix b) (ix a) (rL c d - 1)))
          else jI (-100 - (lgF (cS c) (enN c d) (ix b) (ix a) (rL c d) 0 : Int)) - 4000000000000000000)
        else -4000000000000000003)
      else -4000000000000000013)
    else (wNo c d).toInt64 - 4000000000000000000)
  else -4000000000000000001
section COMP
variable {M : Mem} {c : CT} {Q : Int32 → Mem → Prop} {QR : Nat → Mem → Prop} {QJ0 : Int64 → Mem → Prop} {QV0 : Mem → Prop}
theorem row_at {d : Nat} (h : AbsC M c) (hd : d < 8) (h2 : (cG c d).1 = 2) : (cG c d).2.2.1 ≤ 100 ∧ mI M (34 + 2 * d) 1 = nI (cG c d).2.1 ∧ (cG c d).2.1 ≤ 2 ∧ mI M (34 + 2 * d) 2 = nI (cG c d).2.2.1 ∧ ∀ i, i < (cG c d).2.2.1 → (-2147483648 ≤ (cG c d).2.2.2 i ∧ (cG c d).2.2.2 i < 2147483648) ∧ mI M (34 + 2 * d + 1) i = iI ((cG c d).2.2.2 i) := by
  have g := h.2.2.2.2.2.1 d hd
  rcases g.2 with ⟨a1, -⟩ | ⟨a1, -⟩ | ⟨a1, a2, a3, a4, a5, a6, a7⟩
  · omega
  · omega
  · exact ⟨a5, a4, a3, a6, fun i hi => ⟨⟨(a7 i hi).1.1, (a7 i hi).1.2.1⟩, (a7 i hi).2⟩⟩
theorem S_X4_allBelow {q n k : Nat} {e : Nat → Int} (hq : ShOK M q) (hn : n ≤ 100) (hk : k < 2147483648) (h2 : mI M q 2 = nI n) (he : ∀ i, i < n → (-2147483648 ≤ e i ∧ e i < 2147483648) ∧ mI M (q + 1) i = iI (e i)) (h1 : (∀ i, i < n → 0 ≤ e i ∧ e i < k) → Q 1 M) (h0 : ¬ (∀ i, i < n → 0 ≤ e i ∧ e i < k) → Q 0 M) : wp_X4_allBelow q (nI k) M Q := by
  refine for_up (fun m i => (∀ j, j < i → 0 ≤ e j ∧ e j < k) → lp_X4_allBelow_2 Q m q (nI k) (nI i) M) n (fun m hall => ?_) (fun m i hi ih hall => ?_) |> fun ⟨m, hm⟩ => ⟨m, hm (fun j hj => absurd hj (by omega))⟩
  · unfold lp_X4_allBelow_2
    exact ⟨hq.1, fun _ => h1 hall, fun z => absurd (by rw [h2]; exact nI_le (Nat.le_refl _) (by omega)) z⟩
  · obtain ⟨r, ei⟩ := he i hi
    unfold lp_X4_allBelow_2
    rw [h2, hq.2.1, hq.2.2.2, nI_clamp (by omega), ei]
    have e0 : iI (e i) < (0 : Int32) ↔ e i < 0 := iI_lt (b := 0) (by omega) (by omega)
    have e1 : iI (e i) < nI k ↔ e i < k := by rw [nI_iI]; exact iI_lt (by omega) (by omega)
    have hin : vp_in (nI i) 100 := vp_in_nI (by omega) (by omega)
    refine ⟨hq.1, fun z => absurd z (nI_ge hi (by omega)), fun _ => ⟨hq.2.2.1, hin, fun z => h0 (fun w => by have := w i hi; have := e0.mp z; omega), fun z => ⟨hin, fun y => ?_, fun y => h0 (fun w => y (e1.mpr (w i hi).2))⟩⟩⟩
    rw [nI_1]
    refine ih (fun j hj => ?_)
    by_cases cj : j = i
    · subst cj; exact ⟨by have := mt e0.mpr z; omega, e1.mp y⟩
    · exact hall j (by omega)
theorem lg_b {σ : StT} {e : Nat → Nat} {b a : Nat} (hw : sWF σ) : ∀ m, (∀ j, j < m → 0 < lgw σ e b a j) → ∀ i, i < sN σ → (lgx σ e b a m).1 i ≤ 100000000000
  | 0, _, i, hi => Nat.le_trans (hw.2.1 i hi).2.1 (by omega)
  | m + 1, h, i, hi => by
    refine stl_le (fun j hj => ?_) i hi
    exact Nat.mul_le_mul (lg_b hw m (fun j hj => h j (by omega)) j hj) (odds_le hw)
theorem S_X12_knew {d b a p : Int32} (h : AbsC M c) (hQ : ∀ M', Kp cpA M M' → AbsC M' c → QJ0 (aKnew c d b a p) M') : wp_X12_knew 2 d b a p M QJ0 := by
  have h6 := h.2.1.1.2.1.1
  have hw := h.2.1.1.2.1
  unfold aKnew at hQ
  refine S_X12_isSlate (fun p1 q1 hpq hq e3 e4 => ⟨fun z => absurd z (by decide), fun _ => S_X12_isPart (fun j hj ej => ⟨fun _ => ⟨h.1.1, S_X12_bytesOn h (fun hn => ⟨fun z => absurd rfl z, fun _ => ⟨h.1.1, S_X12_whyNo h ?_⟩⟩) (fun i hi e g1 g2 => ⟨fun _ => ?_, fun z => by omega⟩)⟩, fun z => absurd z (by decide)⟩) (fun hn => ⟨fun z => absurd rfl z, fun _ => ?_⟩)⟩) (fun hn => ⟨fun _ => ?_, fun z => absurd rfl z⟩)
  · have base : sl b a ∧ ix p < 2 := ⟨isSl_ix.mp ⟨p1, q1, hpq, hq, e3, e4⟩, by rw [ej, ix_nI (by omega)]; exact hj⟩
    have no : ¬ bR c d := fun q => by
      obtain ⟨j, hj, e⟩ := (inN_ix (by omega)).mpr q.1
      have q2 := q.2
      rw [e, ix_nI (by omega)] at q2
      exact hn j hj e q2
    rw [if_pos base, if_neg no] at hQ
    exact hQ M Kp.rf h
  · have base : sl b a ∧ ix p < 2 := ⟨isSl_ix.mp ⟨p1, q1, hpq, hq, e3, e4⟩, by rw [ej, ix_nI (by omega)]; exact hj⟩
    have ei : ix d = i := by rw [e, ix_nI (by omega)]
    have eb : ix b = p1 := by rw [e3, ix_nI (by omega)]
    have ea : ix a = q1 := by rw [e4, ix_nI (by omega)]
    have ep : ix p = j := by rw [ej, ix_nI (by omega)]
    have yes : bR c d := ⟨by omega, by rw [ei]; exact g1, by rw [ei]; exact g2⟩
    rw [if_pos base, if_pos yes] at hQ
    obtain ⟨r1, r2, r3, r4, r5⟩ := row_at h hi g1
    have g := (h.2.2.2.2.2.1 i hi).1
    have el : rL c d = (cG c i).2.2.1 := by unfold rL; rw [ei]
    rw [r4]
    have c1 : nI (cG c i).2.2.1 < (1 : Int32) ↔ (cG c i).2.2.1 < 1 := nI_lt31 (b := 1) (by omega) (by omega)
    refine ⟨g.1, fun z => ?_, fun z => S_X4_allBelow (k := 3) g r1 (by omega) r4 r5 (fun hall => ⟨fun _ => ?_, fun z => absurd z (by decide)⟩) (fun hall => ⟨fun z => absurd rfl z, fun _ => ?_⟩)⟩
    · rw [if_neg (fun q => by have := q.1; have := c1.mp z; omega)] at hQ; exact hQ M Kp.rf h
    · have z := mt c1.mpr z
      rw [if_pos (show lgC c d from ⟨by omega, by rw [el, ei]; exact hall⟩)] at hQ
      rw [h.1.2.1.1]
      refine ⟨h.1.1, h.2.1.1.1.1, S_ready h (fun r => ⟨fun _ => ?_, fun z => absurd z (by decide)⟩) (fun r => ⟨fun z => absurd rfl z, fun _ => ?_⟩)⟩
      · rw [if_pos r, el, eb, ea, ep] at hQ
        obtain ⟨L, hL⟩ : ∃ L, (cG c i).2.2.1 = L + 1 := ⟨(cG c i).2.2.1 - 1, by omega⟩
        rw [hL] at hQ r4 hall r5
        rw [h.1.2.1.1, h.1.2.1.2.2.2.2.2.2.2.2.1, e3, e4]
        refine ⟨h.1.1, h.1.2.2.2.2.2.2.2.1.1, S_X0_readLog (L := L) (e := enN c d) h.1.2.2.2.2.2.2.2.1 h.2.1 g (by unfold apart; omega) (by unfold apart; omega) (by omega) r4 (fun k hk => ?_) (by omega) hq hpq (fun m hm hc hno M9 f9 => ?_) (fun hc M9 f9 j7 j8 => ?_)⟩
        · obtain ⟨w1, w2⟩ := hall k hk
          refine ⟨?_, ?_⟩
          · show ((cG c (ix d)).2.2.2 k).toNat ≤ 2
            rw [ei]; omega
          · rw [(r5 k hk).2, nI_iI]
            show iI _ = iI (((cG c (ix d)).2.2.2 k).toNat : Int)
            rw [ei, Int.toNat_of_nonneg w1]
        · obtain ⟨k9, c9⟩ := h.keep f9 (fun x hx => dy_scr hx)
          have ef := lgF_at (σ := cS c) (e := enN c d) (b := p1) (a := q1) (L + 1) 0 m (by omega) (fun j hj => by rw [Nat.zero_add]; exact hc j hj) (by rw [Nat.zero_add]; exact hno)
          rw [Nat.zero_add] at ef
          rw [ef, if_neg (by omega)] at hQ
          refine ⟨fun z => absurd z (nI_pos (by omega)), fun _ => ?_⟩
          rw [nI_iI, show (-100 : Int32) = iI (-100) from rfl, iI_sub, iI_jI (by omega) (by omega)]
          exact hQ M9 k9 c9
        · obtain ⟨k9, c9⟩ := h.keep f9 (fun x hx => dy_scr hx)
          have ef := lgF_all (σ := cS c) (e := enN c d) (b := p1) (a := q1) (L + 1) 0 (fun j hj => by rw [Nat.zero_add]; exact hc j hj)
          rw [Nat.zero_add] at ef
          rw [ef, if_pos rfl, show L + 1 - 1 = L by omega] at hQ
          have hx := lg_b (a := q1) (b := p1) (e := enN c d) hw L (fun j hj => hc j (by omega))
          have b1 : lgw (cS c) (enN c d) p1 q1 L ≤ 6 * 10000000000000 := sumN_le' (fun i hi => Nat.mul_le_mul (hx i hi) (odds_le hw)) h6 _ (Nat.le_refl _)
          have b2 : lgk (cS c) (enN c d) p1 q1 L ≤ 6 * 10000000000000 := by
            unfold lgk
            split
            · omega
            · exact sumN_le' (fun i hi => Nat.mul_le_mul (hx i hi) (kno_le hw)) h6 _ (Nat.le_refl _)
          have pos := hc L (by omega)
          rw [c9.1.2.1.2.2.2.2.2.2.2.2.1, j7, j8]
          refine ⟨fun _ => ⟨c9.1.1, c9.1.2.2.2.2.2.2.2.1.1, S_X12_inLeastTerms (by omega) (by omega) (fun _ => by omega) ?_⟩, fun z => absurd (show (-1 : Int32) < 0 by decide) z⟩
          have hQ := hQ M9 k9 c9
          have e0 : p = (0 : Int32) ↔ j = 0 := by rw [ej]; exact nI_eq (b := 0) (by omega) (by omega)
          by_cases z : j = 0
          · rw [if_pos z] at hQ; rw [if_pos (e0.mpr z)]; exact hQ
          · rw [if_neg z] at hQ; rw [if_neg (mt e0.mp z)]; exact hQ
      · rw [if_neg r] at hQ; exact hQ M Kp.rf h
    · rw [if_neg (fun q => hall (by have := q.2; rw [el, ei] at this; exact this))] at hQ; exact hQ M Kp.rf h
  · rw [if_neg (fun q => hn ((inN_ix (by omega)).mpr q.2))] at hQ; exact hQ M Kp.rf h
  · rw [if_neg (fun q => hn (isSl_ix.mpr q.1))] at hQ; exact hQ M Kp.rf h
end COMP
