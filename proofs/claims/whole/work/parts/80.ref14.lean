/-! THE REFERENCE: what a log tells -/
def kaR (σ : StT) (h : Int) (ev i b a : Nat) : Nat := sumN (fun j => bit (alw σ h (sDeal σ j (sVa σ i) b a) = ev ∧ (sKd σ j = 2 ∨ sKd σ j = 3)) (sPt σ j)) (sS σ)
def kbR (σ : StT) (h : Int) (ev i b a : Nat) : Nat := sumN (fun j => bit (alw σ h (sDeal σ j (sVa σ i) b a) = ev) (sPt σ j)) (sS σ)
theorem lgx_h {σ : StT} {e : Nat → Nat} {b a : Nat} (hw : sWF σ) : ∀ m, (∀ j, j < m → 0 < lgw σ e b a j) → -20 ≤ (lgx σ e b a m).2 ∧ (lgx σ e b a m).2 ≤ 20
  | 0, _ => by show (-20 : Int) ≤ 0 ∧ (0 : Int) ≤ 20; omega
  | m + 1, h => hA_rng hw (lgx_h hw m (fun j hj => h j (by omega))) (h m (by omega))
/-- what is possible is not barred -/
theorem alw_open {σ : StT} {w : Nat → Nat} {h : Int} {ev b a : Nat} (hp : 0 < sumN (flw σ w h ev b a) (sN σ)) (h1 : ev = 1 ∨ ev = 2) {d : Nat} (hd : d ≤ 2) : alw σ h d = ev ↔ d = ev := by
  obtain ⟨i, hi, hx⟩ := (sumN_pos (sN σ)).mp hp
  have ho : odds σ h ev i b a ≠ 0 := fun e => by
    have : flw σ w h ev b a i = 0 := by show w i * odds σ h ev i b a = 0; rw [e, Nat.mul_zero]
    omega
  have hd3 : d = 0 ∨ d = 1 ∨ d = 2 := by omega
  unfold odds at ho
  rcases h1 with rfl | rfl
  · rw [if_pos rfl] at ho
    unfold odB at ho
    have c : -(sMo σ : Int) < h := by
      by_cases c : -(sMo σ : Int) < h
      · exact c
      · rw [if_neg c] at ho; exact absurd rfl ho
    unfold alw
    rcases hd3 with rfl | rfl | rfl
    · simp
    · simp [c]
    · simp
      split <;> omega
  · rw [if_neg (by omega), if_pos rfl] at ho
    unfold odS at ho
    have c : h < (sMo σ : Int) := by
      by_cases c : h < (sMo σ : Int)
      · exact c
      · rw [if_neg c] at ho; exact absurd rfl ho
    unfold alw
    rcases hd3 with rfl | rfl | rfl
    · simp
    · simp
      split <;> omega
    · simp [c]
theorem kbR_odds {σ : StT} (hw : sWF σ) {h : Int} {ev i b a : Nat} (h1 : ev = 1 ∨ ev = 2) (hba : b < a) : kbR σ h ev i b a = odds σ h ev i b a := by
  rw [odds_hun hw (by omega) hba]
  unfold hun kbR
  rw [if_neg (by omega), Nat.zero_add]
theorem kaR_kno {σ : StT} {w : Nat → Nat} {h : Int} {ev i b a : Nat} (hp : 0 < sumN (flw σ w h ev b a) (sN σ)) (h1 : ev = 1 ∨ ev = 2) : kaR σ h ev i b a = kno σ ev i b a := by
  unfold kaR kno
  refine sumN_congr (sS σ) (fun j hj => bit_iff ?_)
  have := alw_open hp h1 (d := sDeal σ j (sVa σ i) b a) (dealN_le _ _ _ _ _)
  exact ⟨fun q => ⟨q.2, this.mp q.1⟩, fun q => ⟨this.mpr q.2, q.1⟩⟩
theorem kR_le {σ : StT} (hw : sWF σ) {h : Int} {ev i b a : Nat} : kaR σ h ev i b a ≤ 100 ∧ kbR σ h ev i b a ≤ 100 := ⟨Nat.le_trans (sum_bit_le _) hw.2.2.2.2.2.1, Nat.le_trans (sum_bit_le _) hw.2.2.2.2.2.1⟩
theorem wsum_le {w k : Nat → Nat} {n : Nat} (hn : n ≤ 6) (hw : ∀ i, i < n → w i ≤ 100000000000) (hk : ∀ i, k i ≤ 100) : sumN (fun i => w i * k i) n ≤ 60000000000000 := by
  have := sumN_le (f := fun i => w i * k i) (c := 10000000000000) n (fun i hi => Nat.mul_le_mul (hw i hi) (hk i))
  have : n * 10000000000000 ≤ 6 * 10000000000000 := Nat.mul_le_mul_right _ hn
  omega
section REF
variable {M : Mem} {σ : StT} {c : CT} {w p : Nat → Nat} {hh g : Int} {Q : Int32 → Mem → Prop} {QJ0 : Int64 → Mem → Prop} {QV0 : Mem → Prop}
theorem kn_in {i b a ev A B : Nat} {d part : Int32} {x7 x12 : Int32} {K1 : Nat → Int32 → Int32 → Int32 → Int32 → Int32 → Int32 → Int64 → Int64 → Int32 → Mem → Prop} {K2 : Nat → Int32 → Int32 → Int32 → Int32 → Int32 → Int32 → Int64 → Int64 → Int32 → Int32 → Int32 → Mem → Prop} (hm : MdOK M) (hr : RS M σ) (hi : i < sN σ) (hM : Mi M (sN σ) w) (hb : b ≤ 100) (ha : a ≤ 100) (hev : ev ≤ 2) (hh2 : -20 ≤ hh ∧ hh ≤ 20)
    (hk : K2 87 d (nI b) (nI a) part (iI hh) x7 (lN (A + w i * kaR σ hh ev i b a)) (lN (B + w i * kbR σ hh ev i b a)) x12 (nI ev) (nI (i + 1)) M) : ∃ n, lp_X13_knew_232 K1 K2 QJ0 n 87 d (nI b) (nI a) part (iI hh) x7 (lN A) (lN B) x12 (nI ev) (nI i) 0 M := by
  obtain ⟨w1, w2, w3, w4, w5, w6, -⟩ := hr.1
  have hva := (w2 i hi).2.2
  have hin : vp_in (nI i) 6 := vp_in_nI (by omega) (by omega)
  refine for_up (fun m j => lp_X13_knew_232 K1 K2 QJ0 m 87 d (nI b) (nI a) part (iI hh) x7 (lN (A + w i * sumN (fun j => bit (alw σ hh (sDeal σ j (sVa σ i) b a) = ev ∧ (sKd σ j = 2 ∨ sKd σ j = 3)) (sPt σ j)) j)) (lN (B + w i * sumN (fun j => bit (alw σ hh (sDeal σ j (sVa σ i) b a) = ev) (sPt σ j)) j)) x12 (nI ev) (nI i) (nI j) M) (sS σ) (fun m => ?_) (fun m j hj ih => ?_) |> fun ⟨m, h⟩ => ⟨m, by
    have h := h
    simp only [sumN, Nat.mul_zero, Nat.add_zero] at h
    exact h⟩
  · unfold lp_X13_knew_232
    refine ⟨hm.1, fun _ => ?_, fun hn => absurd (by rw [hr.2.1.2.1]; exact nI_le (Nat.le_refl _) (by omega)) hn⟩
    rw [nI_1]; exact hk
  · obtain ⟨hkd, hpt, -⟩ := w4 j hj
    have hd : sDeal σ j (sVa σ i) b a ≤ 2 := dealN_le _ _ _ _ _
    have he := alw_le (σ := σ) (h := hh) hd
    have sA : ∀ x, w i * (sumN (fun j => bit (alw σ hh (sDeal σ j (sVa σ i) b a) = ev ∧ (sKd σ j = 2 ∨ sKd σ j = 3)) (sPt σ j)) j + x) = w i * sumN (fun j => bit (alw σ hh (sDeal σ j (sVa σ i) b a) = ev ∧ (sKd σ j = 2 ∨ sKd σ j = 3)) (sPt σ j)) j + w i * x := fun x => Nat.mul_add _ _ _
    have sB : ∀ x, w i * (sumN (fun j => bit (alw σ hh (sDeal σ j (sVa σ i) b a) = ev) (sPt σ j)) j + x) = w i * sumN (fun j => bit (alw σ hh (sDeal σ j (sVa σ i) b a) = ev) (sPt σ j)) j + w i * x := fun x => Nat.mul_add _ _ _
    have ih : lp_X13_knew_232 K1 K2 QJ0 m 87 d (nI b) (nI a) part (iI hh) x7 (lN (A + w i * sumN (fun j => bit (alw σ hh (sDeal σ j (sVa σ i) b a) = ev ∧ (sKd σ j = 2 ∨ sKd σ j = 3)) (sPt σ j)) j + w i * bit (alw σ hh (sDeal σ j (sVa σ i) b a) = ev ∧ (sKd σ j = 2 ∨ sKd σ j = 3)) (sPt σ j))) (lN (B + w i * sumN (fun j => bit (alw σ hh (sDeal σ j (sVa σ i) b a) = ev) (sPt σ j)) j + w i * bit (alw σ hh (sDeal σ j (sVa σ i) b a) = ev) (sPt σ j))) x12 (nI ev) (nI i) (nI j + 1) M := by
      have ih := ih
      simp only [sumN] at ih
      rw [sA, sB, ← Nat.add_assoc, ← Nat.add_assoc, ← nI_1] at ih
      exact ih
    generalize A + w i * sumN (fun j => bit (alw σ hh (sDeal σ j (sVa σ i) b a) = ev ∧ (sKd σ j = 2 ∨ sKd σ j = 3)) (sPt σ j)) j = A' at *
    generalize B + w i * sumN (fun j => bit (alw σ hh (sDeal σ j (sVa σ i) b a) = ev) (sPt σ j)) j = B' at *
    have ee : nI (alw σ hh (sDeal σ j (sVa σ i) b a)) = nI ev ↔ alw σ hh (sDeal σ j (sVa σ i) b a) = ev := nI_eq (by omega) (by omega)
    have k2 : nI (sKd σ j) = (2 : Int32) ↔ sKd σ j = 2 := nI_eq (b := 2) (by omega) (by omega)
    have k3 : nI (sKd σ j) = (3 : Int32) ↔ sKd σ j = 3 := nI_eq (b := 3) (by omega) (by omega)
    unfold lp_X13_knew_232
    refine ⟨hm.1, fun hle => absurd (by rw [hr.2.1.2.1] at hle; exact hle) (nI_ge hj (by omega)), fun _ => ?_⟩
    rw [hm.r2, hm.n2, nI_clamp (by omega), (hr.2.2.1 i hi).2]
    refine ⟨hm.k2, hin, S_R_dealt hm hr hj hva hb ha ⟨hm.1, S_R_alw hm hr hd (by omega) ⟨fun z => ?_, fun z => ?_⟩⟩⟩
    · have z := mt ee.mpr z
      rw [bit_f z, bit_f (fun q => z q.1), Nat.mul_zero, Nat.add_zero, Nat.add_zero] at ih
      refine ⟨fun _ y1 h1 => ⟨fun _ y2 h2 => ?_, fun q => absurd rfl q⟩, fun q => absurd rfl q⟩
      rw [h1, h2, Int64.add_zero, Int64.add_zero]
      exact ih
    · have z := ee.mp z
      rw [bit_t z] at ih
      have fin : ∀ x : Nat, x = bit (alw σ hh (sDeal σ j (sVa σ i) b a) = ev ∧ (sKd σ j = 2 ∨ sKd σ j = 3)) (sPt σ j) → jn_X13_knew_323 K1 K2 (fun fx0 fx1 fx2 fx3 fx4 fx6 fx7 fx8 fx10 fx12 fx13 fx14 fx15 fM => lp_X13_knew_232 K1 K2 QJ0 m fx0 fx1 fx2 fx3 fx4 fx6 fx7 fx8 fx10 fx12 fx13 fx14 fx15 fM) QJ0 87 d (nI b) (nI a) part (iI hh) x7 (lN B') x12 (nI ev) (nI i) (nI j) 1 (lN (w i * x)) (lN A') M := by
        intro x ex y1 h1
        refine ⟨fun q => absurd q (by decide), fun _ => ?_⟩
        rw [hm.r23, hm.n23, hm.r5, hm.n5, nI_clamp (by omega), nI_clamp (by omega), hM i hi, (hr.2.2.2 j hj).2.1, nI_l (by omega), lN_mul]
        refine ⟨hm.1, hm.k23, hin, hm.k5, vp_in_nI (by omega) (by omega), fun y2 h2 => ?_⟩
        rw [h1, h2, lN_add, lN_add, ex]
        exact ih
      have yes : (sKd σ j = 2 ∨ sKd σ j = 3) → jn_X13_knew_303 K1 K2 (fun fx0 fx1 fx2 fx3 fx4 fx6 fx7 fx8 fx10 fx12 fx13 fx14 fx15 fM => lp_X13_knew_232 K1 K2 QJ0 m fx0 fx1 fx2 fx3 fx4 fx6 fx7 fx8 fx10 fx12 fx13 fx14 fx15 fM) QJ0 87 d (nI b) (nI a) part (iI hh) x7 (lN B') x12 (nI ev) (nI i) (nI j) 1 (lN A') M := by
        intro hk
        unfold jn_X13_knew_303
        rw [hm.r23, hm.n23, hm.r5, hm.n5, nI_clamp (by omega), nI_clamp (by omega), hM i hi, (hr.2.2.2 j hj).2.1, nI_l (by omega), lN_mul]
        exact ⟨hm.1, hm.k23, hin, hm.k5, vp_in_nI (by omega) (by omega), fin _ (bit_t ⟨z, hk⟩).symm⟩
      unfold jn_X13_knew_272
      rw [hm.r4, hm.n4, nI_clamp (by omega), (hr.2.2.2 j hj).1]
      have hj6 : vp_in (nI j) 6 := vp_in_nI (by omega) (by omega)
      refine ⟨fun q => absurd q (by decide), fun _ => ⟨hm.1, hm.k4, hj6, fun q => yes (Or.inl (k2.mp q)), fun q => ⟨hj6, fun q2 => ?_, fun q2 => yes (Or.inr (k3.mp q2))⟩⟩⟩
      have := fin 0 (bit_f (fun y => by have := mt k2.mpr q; have := mt k3.mpr q2; omega)).symm
      rw [Nat.mul_zero] at this
      exact this
/-- an event of the log, from what is thought ahead of it -/
theorem kn_ev {b a ev L i : Nat} {d part : Int32} {K1 : Nat → Int32 → Int32 → Int32 → Int32 → Int32 → Int32 → Int64 → Int64 → Int32 → Mem → Prop} (hm : MdOK M) (hr : RS M σ) (hM : Mi M (sN σ) w) (hw : ∀ i, i < sN σ → w i ≤ 100000000000) (hba : b < a) (ha : a ≤ 100) (hev : ev ≤ 2) (hh2 : -20 ≤ hh ∧ hh ≤ 20) (hL : 1 ≤ L ∧ L ≤ 100) (hi : i < L)
    (hY : 0 < sumN (flw σ w hh ev b a) (sN σ) → ∀ M', Fg miC M M' → Mi M' (sN σ) (stl (sN σ) (flw σ w hh ev b a)) → K1 87 d (nI b) (nI a) part (iI (hA ev hh)) (nI (L - 1)) (lN (if i + 1 = L then sumN (fun k => w k * kaR σ hh ev k b a) (sN σ) else 0)) (lN (if i + 1 = L then sumN (fun k => w k * kbR σ hh ev k b a) (sN σ) else 0)) (nI (i + 1)) M')
    (hN : ¬ 0 < sumN (flw σ w hh ev b a) (sN σ) → ∀ M', Fg miC M M' → QJ0 (jI (-100 - (i : Int)) - 4000000000000000000) M') : ∃ n, lp_X13_knew_213 K1 QJ0 n 87 d (nI b) (nI a) part (iI hh) (nI (L - 1)) 0 0 (nI i) (nI ev) 0 M := by
  have w1 := hr.1.1
  have ei : nI i = nI (L - 1) ↔ i + 1 = L := by
    have : nI i = nI (L - 1) ↔ i = L - 1 := nI_eq (by omega) (by omega)
    rw [this]; omega
  have fin : ∀ A B : Nat, A = (if i + 1 = L then sumN (fun k => w k * kaR σ hh ev k b a) (sN σ) else 0) → B = (if i + 1 = L then sumN (fun k => w k * kbR σ hh ev k b a) (sN σ) else 0) → jn_X13_knew_368 K1 QJ0 87 d (nI b) (nI a) part (iI hh) (nI (L - 1)) (lN A) (lN B) (nI i) (nI ev) M := by
    intro A B eA eB
    refine ⟨hm.1, S_R_goesOn hm hr hM hw hev hba ha hh2 (fun hp M2 f2 i2 => ⟨fun _ => S_R_heldBy hev ?_, fun z => absurd z (by decide)⟩) (fun hp M2 f2 => ⟨fun z => absurd rfl z, fun _ => ?_⟩)⟩
    · rw [eA, eB, nI_1]; exact hY hp M2 f2 i2
    · have e : (-4000000000000000100 : Int64) - (nI i).toInt64 = jI (-100 - (i : Int)) - 4000000000000000000 := by
        rw [nI_l (by omega), lN_jI, show (-4000000000000000100 : Int64) = jI (-4000000000000000100) from rfl, show (4000000000000000000 : Int64) = jI 4000000000000000000 from rfl, jI_sub, jI_sub]
        congr 1; omega
      rw [e]; exact hN hp M2 f2
  by_cases c : i + 1 = L
  · rw [if_pos c, if_pos c] at fin
    refine for_up (fun m k => lp_X13_knew_213 K1 QJ0 m 87 d (nI b) (nI a) part (iI hh) (nI (L - 1)) (lN (sumN (fun k => w k * kaR σ hh ev k b a) k)) (lN (sumN (fun k => w k * kbR σ hh ev k b a) k)) (nI i) (nI ev) (nI k) M) (sN σ) (fun m => ?_) (fun m k hk ih => ?_)
    · unfold lp_X13_knew_213
      exact ⟨hm.1, fun _ => fin _ _ rfl rfl, fun hn => absurd (by rw [hr.2.1.1]; exact nI_le (Nat.le_refl _) (by omega)) hn⟩
    · unfold lp_X13_knew_213
      exact ⟨hm.1, fun hle => absurd (by rw [hr.2.1.1] at hle; exact hle) (nI_ge hk (by omega)), fun _ => ⟨fun z => absurd (ei.mpr c) z, fun _ => kn_in hm hr hk hM (by omega) ha hev hh2 ih⟩⟩
  · rw [if_neg c, if_neg c] at fin
    refine ⟨1, ?_⟩
    unfold lp_X13_knew_213
    exact ⟨hm.1, fun _ => fin 0 0 rfl rfl, fun _ => ⟨fun _ => fin 0 0 rfl rfl, fun z => absurd (ei.mp z) c⟩⟩
theorem kn_end {b a L : Nat} {e : Nat → Nat} {p : Int32} (hw : sWF σ) (hba : b < a) (hL : 1 ≤ L ∧ L ≤ 100) (he : ∀ i, i < L → e i ≤ 2) (hall : ∀ j, j < L → 0 < lgw σ e b a j) (hp : ix p < 2) {v : Int64} (ev : v = lN (e (L - 1)))
    (hQ : QJ0 (lN ((if ix p = 0 then lgk σ e b a (L - 1) else lgw σ e b a (L - 1)) / Nat.gcd (lgk σ e b a (L - 1)) (lgw σ e b a (L - 1)))) M) :
    (v = (0 : Int64) → QJ0 p.toInt64 M) ∧ (¬ v = (0 : Int64) → (¬ lN (sumN (fun k => (lgx σ e b a (L - 1)).1 k * kaR σ (lgx σ e b a (L - 1)).2 (e (L - 1)) k b a) (sN σ)) = (0 : Int64) → wp_X13_divisor (lN (sumN (fun k => (lgx σ e b a (L - 1)).1 k * kaR σ (lgx σ e b a (L - 1)).2 (e (L - 1)) k b a) (sN σ))) (lN (sumN (fun k => (lgx σ e b a (L - 1)).1 k * kbR σ (lgx σ e b a (L - 1)).2 (e (L - 1)) k b a) (sN σ))) M (fun r74 M73 => (¬ p = (0 : Int32) → ¬ r74 = 0 ∧ QJ0 (lN (sumN (fun k => (lgx σ e b a (L - 1)).1 k * kbR σ (lgx σ e b a (L - 1)).2 (e (L - 1)) k b a) (sN σ)) / r74) M73) ∧ (p = (0 : Int32) → ¬ r74 = 0 ∧ QJ0 (lN (sumN (fun k => (lgx σ e b a (L - 1)).1 k * kaR σ (lgx σ e b a (L - 1)).2 (e (L - 1)) k b a) (sN σ)) / r74) M73))) ∧ (lN (sumN (fun k => (lgx σ e b a (L - 1)).1 k * kaR σ (lgx σ e b a (L - 1)).2 (e (L - 1)) k b a) (sN σ)) = (0 : Int64) → QJ0 p.toInt64 M)) := by
  have h6 := hw.1
  have hpos := hall (L - 1) (by omega)
  have he2 := he (L - 1) (by omega)
  have wl := lg_b (e := e) (b := b) (a := a) hw (L - 1) (fun j hj => hall j (by omega))
  have ev0 : v = (0 : Int64) ↔ e (L - 1) = 0 := by rw [ev]; exact pk_lEQ (b := 0) (by omega) (by omega)
  -- where nobody who knows made it, or nobody deals
  have nobody : lgk σ e b a (L - 1) = 0 → QJ0 p.toInt64 M := by
    intro h0
    rw [h0, Nat.gcd_zero_left] at hQ
    have hp2 : ix p = 0 ∨ ix p = 1 := by omega
    rcases hp2 with q | q
    · have := (ix_eq (x := p) (k := 0) (by omega)).mpr q
      rw [this]
      rw [if_pos q, Nat.zero_div] at hQ
      exact hQ
    · have := (ix_eq (x := p) (k := 1) (by omega)).mpr q
      rw [this]
      rw [if_neg (by omega), Nat.div_self hpos] at hQ
      exact hQ
  refine ⟨fun z => nobody ?_, fun z => ?_⟩
  · unfold lgk
    rw [if_pos (ev0.mp z)]
  · have z := mt ev0.mpr z
    have h12 : e (L - 1) = 1 ∨ e (L - 1) = 2 := by omega
    have eA : sumN (fun k => (lgx σ e b a (L - 1)).1 k * kaR σ (lgx σ e b a (L - 1)).2 (e (L - 1)) k b a) (sN σ) = lgk σ e b a (L - 1) := by
      unfold lgk
      rw [if_neg z]
      exact sumN_congr _ (fun k hk => by rw [kaR_kno hpos h12])
    have eB : sumN (fun k => (lgx σ e b a (L - 1)).1 k * kbR σ (lgx σ e b a (L - 1)).2 (e (L - 1)) k b a) (sN σ) = lgw σ e b a (L - 1) := by
      unfold lgw
      exact sumN_congr _ (fun k hk => by rw [kbR_odds hw h12 hba])
    have bA := wsum_le (k := fun k => kaR σ (lgx σ e b a (L - 1)).2 (e (L - 1)) k b a) h6 wl (fun i => (kR_le hw).1)
    have bB := wsum_le (k := fun k => kbR σ (lgx σ e b a (L - 1)).2 (e (L - 1)) k b a) h6 wl (fun i => (kR_le hw).2)
    rw [eA] at bA ⊢
    rw [eB] at bB ⊢
    generalize lgk σ e b a (L - 1) = X at *
    generalize lgw σ e b a (L - 1) = Y at *
    have x0 : lN X = (0 : Int64) ↔ X = 0 := pk_lEQ (b := 0) (by omega) (by omega)
    refine ⟨fun y => S_R_divisor (by omega) (by omega) ?_, fun y => nobody (x0.mp y)⟩
    have gp : 0 < Nat.gcd X Y := Nat.gcd_pos_of_pos_right _ hpos
    have gl : Nat.gcd X Y ≤ Y := Nat.gcd_le_right _ hpos
    have nz : ¬ lN (Nat.gcd X Y) = (0 : Int64) := fun q => by
      have := (pk_lEQ (by omega) (b := 0) (by omega)).mp q
      omega
    refine ⟨fun q => ⟨nz, ?_⟩, fun q => ⟨nz, ?_⟩⟩
    · rw [if_neg (mt (ix_eq (k := 0) (by omega)).mpr q)] at hQ
      rw [pk_lDiv (by omega) gp (by omega)]; exact hQ
    · rw [if_pos ((ix_eq (k := 0) (by omega)).mp q)] at hQ
      rw [pk_lDiv (by omega) gp (by omega)]; exact hQ
end REF
