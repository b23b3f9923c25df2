/-! STREETS: beside another, copies, additions -/
def sumZ (f : Nat → Int) : Nat → Int
  | 0 => 0
  | n + 1 => sumZ f n + f n
theorem sumZ_add (f g : Nat → Int) : ∀ n, sumZ (fun i => f i + g i) n = sumZ f n + sumZ g n
  | 0 => rfl
  | n + 1 => by
    simp only [sumZ]
    rw [sumZ_add f g n]
    omega
theorem sumZ_0 : ∀ n, sumZ (fun _ => 0) n = 0
  | 0 => rfl
  | n + 1 => by
    simp only [sumZ]
    rw [sumZ_0 n]
    rfl
theorem sumZ_congr {f g : Nat → Int} : ∀ n, (∀ i, i < n → f i = g i) → sumZ f n = sumZ g n
  | 0, _ => rfl
  | n + 1, h => by
    simp only [sumZ]
    rw [sumZ_congr n (fun i hi => h i (by omega)), h n (by omega)]
theorem sumZ_swap (f : Nat → Nat → Int) (m : Nat) : ∀ n, sumZ (fun j => sumZ (fun i => f i j) m) n = sumZ (fun i => sumZ (fun j => f i j) n) m
  | 0 => by simp only [sumZ]; rw [sumZ_0]
  | n + 1 => by
    simp only [sumZ]
    rw [sumZ_swap f m n, ← sumZ_add]
theorem sumZ_abs {f : Nat → Int} {c : Nat} : ∀ n, (∀ i, i < n → (f i).natAbs ≤ c) → (sumZ f n).natAbs ≤ n * c
  | 0, _ => by simp [sumZ]
  | n + 1, h => by
    have h1 := sumZ_abs n (fun i hi => h i (by omega))
    have h2 := h n (by omega)
    simp only [sumZ, Nat.succ_mul]
    omega
theorem iMin_nI {a b : Nat} (ha : a < 2147483648) (hb : b < 2147483648) : iMin (nI a) (nI b) = nI (min a b) := by
  unfold iMin
  by_cases h : b < a
  · rw [if_pos ((nI_lt31 hb ha).mpr h)]; congr 1; omega
  · rw [if_neg (mt (nI_lt31 hb ha).mp h)]; congr 1; omega
theorem iMax_nI {a b : Nat} (ha : a < 2147483648) (hb : b < 2147483648) : iMax (nI a) (nI b) = nI (max a b) := by
  unfold iMax
  by_cases h : a < b
  · rw [if_pos ((nI_lt31 ha hb).mpr h)]; congr 1; omega
  · rw [if_neg (mt (nI_lt31 ha hb).mp h)]; congr 1; omega
/-- what one comer of a sort brings beside another one, se: he sells, bu: he buys -/
def gnB (σ : StT) (hi lo : Nat) (se bu : Prop) [Decidable se] [Decidable bu] (i j : Nat) : Int := if sDeal σ j (sVa σ i) hi lo = 1 then (if se then (lo : Int) - sVa σ i - sCo σ else 0) else if sDeal σ j (sVa σ i) hi lo = 2 then (if bu then (sVa σ i : Int) - hi - sCo σ else 0) else 0
def tmB (σ : StT) (hi lo : Nat) (se bu : Prop) [Decidable se] [Decidable bu] (i j : Nat) : Int := gnB σ hi lo se bu i j * sCh σ i * sPt σ j
def mbB (σ : StT) (bid ask ob oa : Nat) (al : Bool) : Int := if 0 < sMo σ then sumZ (fun j => sumZ (fun i => tmB σ (max bid ob) (min ask oa) (ask < oa ∨ (al = true ∧ ask = oa)) (ob < bid ∨ (al = true ∧ bid = ob)) i j) (sN σ)) (sS σ) else 0
def bI (b : Bool) : Int32 := if b then 1 else 0
theorem bI_0 {b : Bool} : bI b = 0 ↔ ¬ b = true := by cases b <;> decide
section STREET
variable {M : Mem} {s : Nat} {σ : StT} {Q : Int32 → Mem → Prop} {QJ0 : Int64 → Mem → Prop} {QV0 : Mem → Prop}
theorem gnB_abs {hi lo i j : Nat} {se bu : Prop} [Decidable se] [Decidable bu] (hw : sWF σ) (h1 : hi ≤ 100) (h2 : lo ≤ 100) (h3 : i < sN σ) : (gnB σ hi lo se bu i j).natAbs ≤ 200 := by
  have := (hw.2.1 i h3).2.2
  have := hw.2.2.2.2.2.2.2.1
  unfold gnB
  split <;> split <;> first | omega | (split <;> omega)
theorem mB_in {se bu : Bool} {hi lo j : Nat} {acc : Int} {K67 : Nat → Int32 → Int32 → Int32 → Int32 → Int64 → Int32 → Mem → Prop} (h : StAt M s σ) (hj : j < sS σ) (h1 : hi ≤ 100) (h2 : lo ≤ 100)
    (hK : K67 s (bI se) (bI bu) (nI lo) (nI hi) (jI (acc + sumZ (fun i => tmB σ hi lo (se = true) (bu = true) i j) (sN σ))) (nI (j + 1)) M) : ∃ m, lp_X6_meanBeside_86 K67 QJ0 m s (bI se) (bI bu) (nI lo) (nI hi) (jI acc) (nI j) 0 M := by
  have h' := h
  obtain ⟨⟨hk, ⟨r1, r2, r4, r5, r6, r10, r11⟩, ⟨k1, k2, k3, k4, k5, k6, k7⟩, n1, n2, n3, n4, n5, n6, n7⟩, ⟨w1, w2, w3, w4, w5, w6, w7, w8, -⟩, ⟨f0, f3, f7, f8, -⟩, ha, hb⟩ := h'
  have hw := h.2.1
  refine for_up (fun m i => lp_X6_meanBeside_86 K67 QJ0 m s (bI se) (bI bu) (nI lo) (nI hi) (jI (acc + sumZ (fun i => tmB σ hi lo (se = true) (bu = true) i j) i)) (nI j) (nI i) M) (sN σ) (fun m => ?_) (fun m i hi9 ih => ?_) |> fun q => by simpa only [sumZ, Int.add_zero, nI_0] using q
  · unfold lp_X6_meanBeside_86
    refine ⟨hk, fun _ => ?_, fun hn => absurd (by rw [f0]; exact nI_le (Nat.le_refl _) (by omega)) hn⟩
    rw [nI_1]
    exact hK
  · obtain ⟨b1, b2, b3⟩ := hb j hj
    have hva := (w2 i hi9).2.2
    have hpt := (w4 j hj).2.1
    have hch := (w2 i hi9).2.1
    have hin : vp_in (nI i) 6 := vp_in_nI (by omega) (by omega)
    have hinj : vp_in (nI j) 6 := vp_in_nI (by omega) (by omega)
    simp only [sumZ] at ih
    -- the end of a turn, with what it brought
    have fin : ∀ g : Int, g = gnB σ hi lo (se = true) (bu = true) i j → jn_X6_meanBeside_176 K67 (fun fx0 fx6 fx7 fx8 fx9 fx10 fx12 fx13 fM => lp_X6_meanBeside_86 K67 QJ0 m fx0 fx6 fx7 fx8 fx9 fx10 fx12 fx13 fM) QJ0 s (bI se) (bI bu) (nI lo) (nI hi) (jI (acc + sumZ (fun i => tmB σ hi lo (se = true) (bu = true) i j) i)) (nI j) (nI i) (iI g) M := by
      intro g hg
      have ga := gnB_abs (se := se = true) (bu := bu = true) (i := i) (j := j) hw h1 h2 hi9
      rw [← hg] at ga
      unfold jn_X6_meanBeside_176
      rw [r1, r5, n1, n4, nI_clamp (by omega), nI_clamp (by omega), (ha i hi9).1, b2]
      refine ⟨hk, k1, hin, k4, hinj, fun y hy => ?_⟩
      rw [hy, nI_iI (sCh σ i), nI_iI (sPt σ j), iI_jI (by omega) (by omega), iI_jI (by omega) (by omega), iI_jI (by omega) (by omega), jI_mul, jI_mul, jI_add, nI_1]
      unfold tmB at ih ⊢
      rw [← hg, ← Int.add_assoc] at ih
      exact ih
    have b148 : ∀ x14 : Int32, (x14 = 2 → bu = true → gnB σ hi lo (se = true) (bu = true) i j = (sVa σ i : Int) - hi - sCo σ) → (¬ (x14 = 2 ∧ bu = true) → gnB σ hi lo (se = true) (bu = true) i j = 0) → jn_X6_meanBeside_148 K67 (fun fx0 fx6 fx7 fx8 fx9 fx10 fx12 fx13 fM => lp_X6_meanBeside_86 K67 QJ0 m fx0 fx6 fx7 fx8 fx9 fx10 fx12 fx13 fM) QJ0 s (bI se) (bI bu) (nI lo) (nI hi) (jI (acc + sumZ (fun i => tmB σ hi lo (se = true) (bu = true) i j) i)) (nI j) (nI i) x14 0 M := by
      intro x14 e1 e2
      unfold jn_X6_meanBeside_148
      refine ⟨fun q => fin 0 (e2 (fun z => q z.1)).symm, fun q => ⟨fun z => fin 0 (e2 (fun y => (bI_0.mp z) y.2)).symm, fun z => ⟨hk, by rw [r2]; exact k2, by rw [r2, n2]; exact hin, fun y hy => ?_⟩⟩⟩
      rw [hy, r2, nI_clamp (by omega), (ha i hi9).2, f8, nI_iI (sVa σ i), nI_iI (sCo σ), nI_iI hi, iI_sub, iI_sub]
      rw [← nI_iI hi]
      exact fin _ (e1 q (Classical.byContradiction fun y => z (bI_0.mpr y))).symm
    unfold lp_X6_meanBeside_86
    refine ⟨hk, fun hle => absurd (by rw [f0] at hle; exact hle) (nI_ge hi9 (by omega)), fun _ => ?_⟩
    rw [r2, n2, nI_clamp (by omega), (ha i hi9).2]
    refine ⟨k2, hin, S_X6_dealOf h hj hva h1 h2 ?_⟩
    have hd := dealN_le (sKd σ j) (sLi σ j) (sVa σ i) hi lo
    have hd : sDeal σ j (sVa σ i) hi lo ≤ 2 := hd
    have e1 : nI (sDeal σ j (sVa σ i) hi lo) = (1 : Int32) ↔ sDeal σ j (sVa σ i) hi lo = 1 := nI_eq (b := 1) (by omega) (by omega)
    have e2 : nI (sDeal σ j (sVa σ i) hi lo) = (2 : Int32) ↔ sDeal σ j (sVa σ i) hi lo = 2 := nI_eq (b := 2) (by omega) (by omega)
    refine ⟨fun q => ?_, fun q => ⟨fun z => ?_, fun z => ⟨hk, by rw [r2]; exact k2, by rw [r2, n2]; exact hin, fun y hy => ?_⟩⟩⟩
    · have q1 := mt e1.mpr q
      refine b148 _ (fun z zb => ?_) (fun z => ?_)
      · unfold gnB; rw [if_neg q1, if_pos (e2.mp z), if_pos zb]
      · unfold gnB; rw [if_neg q1]
        by_cases y : sDeal σ j (sVa σ i) hi lo = 2
        · rw [if_pos y, if_neg (fun w => z ⟨e2.mpr y, w⟩)]
        · rw [if_neg y]
    · have q1 := e1.mp q
      refine b148 _ (fun y _ => ?_) (fun _ => ?_)
      · rw [q] at y; exact absurd y (by decide)
      · unfold gnB; rw [if_pos q1, if_neg (bI_0.mp z)]
    · have q1 := e1.mp q
      rw [hy, r2, (ha i hi9).2, f8, nI_iI (sVa σ i), nI_iI (sCo σ), nI_iI lo, iI_sub, iI_sub, ← nI_iI lo]
      refine fin _ ?_
      unfold gnB; rw [if_pos q1, if_pos (Classical.byContradiction fun w => z (bI_0.mpr w))]
theorem S_X6_meanBeside {bid ask ob oa : Nat} {al : Bool} (h : StAt M s σ) (h1 : bid ≤ 100) (h2 : ask ≤ 100) (h3 : ob ≤ 100) (h4 : oa ≤ 100) (hQ : QJ0 (jI (mbB σ bid ask ob oa al)) M) : wp_X6_meanBeside s (nI bid) (nI ask) (nI ob) (nI oa) (bI al) M QJ0 := by
  have h' := h
  obtain ⟨⟨hk, -⟩, ⟨w1, w2, w3, w4, w5, w6, w7, w8, -⟩, ⟨f0, f3, f7, -⟩, -⟩ := h'
  have loop : ∀ se bu : Bool, (se = true ↔ (ask < oa ∨ (al = true ∧ ask = oa))) → (bu = true ↔ (ob < bid ∨ (al = true ∧ bid = ob))) → jn_X6_meanBeside_44 QJ0 s (nI bid) (nI ask) (nI ob) (nI oa) (bI se) (bI bu) M := by
    intro se bu e1 e2
    unfold jn_X6_meanBeside_44
    intro y hy y2 hy2
    rw [hy, hy2, iMin_nI (by omega) (by omega), iMax_nI (by omega) (by omega)]
    have he : ∀ i j, tmB σ (max bid ob) (min ask oa) (ask < oa ∨ (al = true ∧ ask = oa)) (ob < bid ∨ (al = true ∧ bid = ob)) i j = tmB σ (max bid ob) (min ask oa) (se = true) (bu = true) i j := by
      intro i j
      unfold tmB gnB
      simp only [e1, e2]
    unfold mbB at hQ
    simp only [he] at hQ
    by_cases hm : 0 < sMo σ
    · rw [if_pos hm] at hQ
      refine for_up (fun m j => lp_X6_meanBeside_67 QJ0 m s (bI se) (bI bu) (nI (min ask oa)) (nI (max bid ob)) (jI (sumZ (fun j => sumZ (fun i => tmB σ (max bid ob) (min ask oa) (se = true) (bu = true) i j) (sN σ)) j)) (nI j) M) (sS σ) (fun m => ?_) (fun m j hj ih => ?_)
      · unfold lp_X6_meanBeside_67
        exact ⟨hk, fun _ => hQ, fun hn => absurd (by rw [f3]; exact nI_le (Nat.le_refl _) (by omega)) hn⟩
      · unfold lp_X6_meanBeside_67
        refine ⟨hk, fun hle => absurd (by rw [f3] at hle; exact hle) (nI_ge hj (by omega)), fun _ => ⟨fun hz => ?_, fun _ => ?_⟩⟩
        · rw [f7] at hz
          exact absurd ((nI_le31 (b := 0) (by omega) (by omega)).mp hz) (by omega)
        · exact mB_in h hj (by omega) (by omega) ih
    · rw [if_neg hm] at hQ
      refine ⟨1, ?_⟩
      unfold lp_X6_meanBeside_67
      refine ⟨hk, fun _ => hQ, fun _ => ⟨fun _ => hQ, fun hz => absurd ?_ hz⟩⟩
      rw [f7]
      exact (nI_le31 (b := 0) (by omega) (by omega)).mpr (by omega)
  have c1 : nI ask < nI oa ↔ ask < oa := nI_lt31 (by omega) (by omega)
  have c2 : nI ask = nI oa ↔ ask = oa := nI_eq (by omega) (by omega)
  have c3 : nI ob < nI bid ↔ ob < bid := nI_lt31 (by omega) (by omega)
  have c4 : nI bid = nI ob ↔ bid = ob := nI_eq (by omega) (by omega)
  have second : ∀ se : Bool, (se = true ↔ (ask < oa ∨ (al = true ∧ ask = oa))) → jn_X6_meanBeside_22 QJ0 s (nI bid) (nI ask) (nI ob) (nI oa) (bI al) (bI se) M := by
    intro se e1
    unfold jn_X6_meanBeside_22
    refine ⟨fun q => loop se true e1 ⟨fun _ => Or.inl (c3.mp q), fun _ => rfl⟩, fun q => ⟨fun z => loop se false e1 ⟨fun y => (by cases y), fun y => ?_⟩, fun z => ⟨fun w => loop se false e1 ⟨fun y => (by cases y), fun y => ?_⟩, fun w => loop se true e1 ⟨fun _ => Or.inr ⟨Classical.byContradiction fun y => z (bI_0.mpr y), c4.mp w⟩, fun _ => rfl⟩⟩⟩⟩
    · rcases y with y | y
      · exact absurd (c3.mpr y) q
      · exact absurd y.1 (bI_0.mp z)
    · rcases y with y | y
      · exact absurd (c3.mpr y) q
      · exact absurd (c4.mpr y.2) w
  refine ⟨fun q => second true ⟨fun _ => Or.inl (c1.mp q), fun _ => rfl⟩, fun q => ⟨fun z => second false ⟨fun y => (by cases y), fun y => ?_⟩, fun z => ⟨fun w => second false ⟨fun y => (by cases y), fun y => ?_⟩, fun w => second true ⟨fun _ => Or.inr ⟨Classical.byContradiction fun y => z (bI_0.mpr y), c2.mp w⟩, fun _ => rfl⟩⟩⟩⟩
  · rcases y with y | y
    · exact absurd (c1.mpr y) q
    · exact absurd y.1 (bI_0.mp z)
  · rcases y with y | y
    · exact absurd (c1.mpr y) q
    · exact absurd (c2.mpr y.2) w
end STREET
