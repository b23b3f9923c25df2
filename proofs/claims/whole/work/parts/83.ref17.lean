/-! THE REFERENCE: two hours, the best -/
abbrev bfC (a k : Nat) : Prop := a = 108 ∨ (a = 87 ∧ (k = 38 ∨ k = 39 ∨ k = 40))
theorem bf_st {a k : Nat} (q : bfC a k) : ¬ stC a k := by simp only [bfC] at q; simp only [stC]; omega
theorem bf8 {a k : Nat} (q : bfC a k) : 87 ≤ a ∧ a < 120 := by simp only [bfC] at q; omega
section REF
variable {M : Mem} {σ : StT} {c : CT} {w p : Nat → Nat} {h g : Int} {Q : Int32 → Mem → Prop} {QJ0 : Int64 → Mem → Prop} {QV0 : Mem → Prop}
theorem AbsR.bf {M' : Mem} (h : AbsR M c) (f : Fg bfC M M') : AbsR M' c := h.fg f (fun a k q => by simp only [bfC] at q; simp only [coC]; omega)
theorem th_in {n L b a ev : Nat} {acc : Int64} {K6 : Nat → Int32 → Int32 → Int32 → Int64 → Int32 → Mem → Prop} (hm : MdOK M) (hr : RS M σ) (hn : 10 ≤ n ∧ n ≤ 50) (hL : L = 100 / n) (hba : b < a) (ha : a ≤ 100) (hev : ev ≤ 2)
    (hk : ∀ M', Fg (fun x _k => x = 108) M M' → K6 87 (nI n) (nI b) (nI a) (acc + thT σ n L b a ev) (nI (ev + 1)) M') : ∃ m, lp_X13_twoHours_18 K6 QJ0 m 87 (nI n) (nI b) (nI a) acc (nI ev) 0 0 M := by
  have w1 := hr.1.1
  have hW : ∀ i, i < sN σ → flw σ (sCh σ) 0 ev b a i ≤ 100 * 100 := fun i hi => Nat.mul_le_mul (hr.1.2.1 i hi).2.1 (odds_le hr.1)
  have no : ∀ x k, (fun x _k => x = 108) x k → ¬ stC x k := fun x k q => by simp only [stC]; omega
  refine for_up (fun m i => ∀ M', Fg (fun x _k => x = 108) M M' → (∀ j, j < i → mJ M' 108 j = lN (flw σ (sCh σ) 0 ev b a j)) → lp_X13_twoHours_18 K6 QJ0 m 87 (nI n) (nI b) (nI a) acc (nI ev) (if 0 < sumN (flw σ (sCh σ) 0 ev b a) i then 1 else 0) (nI i) M') (sN σ) (fun m M' f hz => ?_) (fun m i hi ih M' f hz => ?_) |> fun ⟨m, hx⟩ => ⟨m, by
    have q := hx M Fg.rf (fun j hj => absurd hj (by omega))
    rw [if_neg (show ¬ 0 < sumN (flw σ (sCh σ) 0 ev b a) 0 from by show ¬ 0 < 0; omega)] at q
    exact q⟩
  · have r1 := hr.fg f no
    have m1 := hm.fg f
    unfold lp_X13_twoHours_18
    refine ⟨m1.1, fun _ => ⟨fun z => ?_, fun z => S_R_heldBy (h := 0) hev ?_⟩, fun hn => absurd (by rw [r1.2.1.1]; exact nI_le (Nat.le_refl _) (by omega)) hn⟩
    · have c0 : ¬ 0 < sumN (flw σ (sCh σ) 0 ev b a) (sN σ) := fun c => by rw [if_pos c] at z; exact absurd z (by decide)
      have q := hk M' f
      unfold thT at q
      rw [if_neg c0, Int64.add_zero] at q
      unfold jn_X13_twoHours_146
      rw [nI_1]; exact q
    · have c0 : 0 < sumN (flw σ (sCh σ) 0 ev b a) (sN σ) := by
        by_cases c : 0 < sumN (flw σ (sCh σ) 0 ev b a) (sN σ)
        · exact c
        · rw [if_neg c] at z; exact absurd rfl z
      have q := hk M' f
      unfold thT at q
      rw [if_pos c0] at q
      have e1 : nI ev = (1 : Int32) ↔ ev = 1 := nI_eq (b := 1) (by omega) (by omega)
      have e2 : nI ev = (2 : Int32) ↔ ev = 2 := nI_eq (b := 2) (by omega) (by omega)
      have e0 : nI ev ≤ (0 : Int32) ↔ ev ≤ 0 := nI_le31 (b := 0) (by omega) (by omega)
      have wc := hr.1.2.2.2.2.2.2.2.1
      have h3 := hA_rng hr.1 (by omega) c0
      have tb := tk_b (ev := ev) hr.1 (show b ≤ 100 by omega) ha h3
      have hab : (hA ev 0).natAbs = if ev = 0 then 0 else 1 := by
        unfold hA
        have : ev = 0 ∨ ev = 1 ∨ ev = 2 := by omega
        rcases this with rfl | rfl | rfl <;> rfl
      have fin : ∀ t : Int, t = tkI ev b a → jn_X13_twoHours_126 K6 QJ0 87 (nI n) (nI b) (nI a) (nI ev) (iI t) (iI (hA ev 0)) (nI n) 87 acc M' := by
        intro t et
        have nb : ∀ x : Int, x = ((sCo σ * (hA ev 0).natAbs : Nat) : Int) → jn_X13_twoHours_139 K6 QJ0 87 (nI n) (nI b) (nI a) (nI ev) (iI x) (iI t) (iI (hA ev 0)) (nI n) 87 acc M' := by
          intro x ex
          unfold jn_X13_twoHours_139
          rw [iI_sub, et, ex]
          refine ⟨m1.1, S_R_bestLast m1 r1 hz (fun i hi => Nat.le_trans (hW i hi) (by omega)) hn hL h3 (by omega) (fun y hy => ?_)⟩
          unfold jn_X13_twoHours_146
          rw [hy, nI_1]; exact q
        refine ⟨fun z => nb 0 ?_, fun z => ⟨m1.1, ?_⟩⟩
        · have z := e0.mp z
          rw [hab, if_pos (by omega), Nat.mul_zero]; rfl
        · have z := mt e0.mpr z
          rw [r1.2.1.2.2.2.1, nI_iI]
          exact nb _ (by rw [hab, if_neg (by omega), Nat.mul_one])
      refine ⟨fun z => ⟨fun y => fin 0 ?_, fun y => ?_⟩, fun z => ?_⟩
      · unfold tkI; rw [if_neg (mt e1.mpr z), if_neg (mt e2.mpr y)]
      · have := fin (-(b : Int)) (by unfold tkI; rw [if_neg (mt e1.mpr z), if_pos (e2.mp y)])
        rw [← iI_neg, ← nI_iI] at this
        exact this
      · have := fin (a : Int) (by unfold tkI; rw [if_pos (e1.mp z)])
        rw [← nI_iI] at this
        exact this
  · have r1 := hr.fg f no
    have m1 := hm.fg f
    have hch := (hr.1.2.1 i hi).2.1
    have hWi := hW i hi
    have hin : vp_in (nI i) 6 := vp_in_nI (by omega) (by omega)
    unfold lp_X13_twoHours_18
    refine ⟨m1.1, fun hle => absurd (by rw [r1.2.1.1] at hle; exact hle) (nI_ge hi (by omega)), fun _ => ?_⟩
    rw [m1.r1, m1.n1, m1.r37, nI_clamp (by omega), (r1.2.2.1 i hi).1]
    refine ⟨m1.k1, hin, S_R_hun (h := 0) m1 r1 hev hi (by omega) ha (by omega) ?_⟩
    rw [← odds_hun hr.1 hev hba, m1.n37]
    have lo := odds_le hr.1 (h := 0) (ev := ev) (i := i) (bid := b) (ask := a)
    rw [nI_l (by omega), nI_l (by omega), lN_mul]
    refine ⟨m1.k37, hin, fun M3 e3 => ?_⟩
    have eW : lN (sCh σ i * odds σ 0 ev i b a) = lN (flw σ (sCh σ) 0 ev b a i) := rfl
    rw [eW] at e3
    have f3 : Fg (fun x _k => x = 108) M M3 := by rw [e3]; exact f.sJ rfl
    have m3 := hm.fg f3
    have v3 : mJ M3 108 i = lN (flw σ (sCh σ) 0 ev b a i) := by rw [e3, mJ_uJ, if_pos rfl, if_pos rfl]
    have ih := ih M3 f3 (by rw [e3]; exact fil (f := fun j => lN (flw σ (sCh σ) 0 ev b a j)) hz rfl)
    have sS1 : sumN (flw σ (sCh σ) 0 ev b a) (i + 1) = sumN (flw σ (sCh σ) 0 ev b a) i + flw σ (sCh σ) 0 ev b a i := rfl
    rw [sS1] at ih
    have e0 : lN (flw σ (sCh σ) 0 ev b a i) ≤ (0 : Int64) ↔ flw σ (sCh σ) 0 ev b a i ≤ 0 := pk_lLE (b := 0) (by omega) (by omega)
    generalize flw σ (sCh σ) 0 ev b a i = x at *
    refine ⟨fun z => ?_, fun z => ⟨m3.1, ?_⟩⟩
    · have c0 : 0 < sumN (flw σ (sCh σ) 0 ev b a) i := by
        by_cases c : 0 < sumN (flw σ (sCh σ) 0 ev b a) i
        · exact c
        · rw [if_neg c] at z; exact absurd rfl z
      rw [if_pos (by omega), ← nI_1] at ih
      exact ih
    · have c0 : ¬ 0 < sumN (flw σ (sCh σ) 0 ev b a) i := fun c => by rw [if_pos c] at z; exact absurd z (by decide)
      rw [m3.r37, m3.n37, v3]
      refine ⟨m3.k37, hin, fun y => ?_, fun y => ?_⟩
      · have y := e0.mp y
        rw [if_neg (by omega), ← nI_1] at ih
        exact ih
      · have y := mt e0.mpr y
        rw [if_pos (by omega), ← nI_1] at ih
        exact ih
theorem S_R_twoHours {n L b a : Nat} (hm : MdOK M) (hr : RS M σ) (hn : 10 ≤ n ∧ n ≤ 50) (hL : L = 100 / n) (hba : b < a) (ha : a ≤ 100) (hQ : ∀ M', Fg (fun x _k => x = 108) M M' → QJ0 (sumJ (thT σ n L b a) 3) M') : wp_X13_twoHours 87 (nI n) (nI b) (nI a) M QJ0 := by
  refine for_up (fun m e => ∀ M', Fg (fun x _k => x = 108) M M' → lp_X13_twoHours_6 QJ0 m 87 (nI n) (nI b) (nI a) (sumJ (thT σ n L b a) e) (nI e) M') 3 (fun m M' f => ?_) (fun m e he ih M' f => ?_) |> fun ⟨m, hx⟩ => ⟨m, hx M Fg.rf⟩
  · unfold lp_X13_twoHours_6
    exact ⟨fun _ => hQ M' f, fun z => absurd (nI_le (a := 3) (b := 3) (Nat.le_refl _) (by omega)) z⟩
  · unfold lp_X13_twoHours_6
    exact ⟨fun z => absurd z (nI_ge (b := 3) he (by omega)), fun _ => th_in (hm.fg f) (hr.fg f (fun x k q => by simp only [stC]; omega)) hn hL hba ha (by omega) (fun M2 f2 => ih M2 (f.t2 f2))⟩
/-- the state of the search for the best slate -/
def Fb (M : Mem) (n L : Nat) (F : Nat → Int64) (s : Nat) : Prop := 0 < s → mI M 87 38 = nI (pB L (bst F s) * n) ∧ mI M 87 39 = nI (pA L (bst F s) * n) ∧ mJ M 87 40 = F (bst F s)
theorem fb_step {n L b a s : Nat} {F : Nat → Int64} {many : Int32} {K5 : Nat → Int32 → Int32 → Int32 → Int32 → Mem → Prop} {K18 : Nat → Int32 → Int32 → Int32 → Int32 → Int32 → Mem → Prop} (hm : MdOK M) (hb : pB L s * n = b) (ha : pA L s * n = a) (hF : Fb M n L F s)
    (hk : ∀ M', Fg bfC M M' → Fb M' n L F (s + 1) → K18 87 (nI n) many 1 (nI b) (nI a + nI n) M') : jn_X13_findBest_92 K5 K18 QV0 87 (nI n) many (fs s) (nI b) (nI a) (F s) M := by
  have take : (s = 0 ∨ ¬ F s ≤ F (bst F s)) → jn_X13_findBest_106 K5 K18 QV0 87 (nI n) many (nI b) (nI a) (F s) M := by
    intro o
    have eb : bst F (s + 1) = s := by
      by_cases z : s = 0
      · rw [z]; rfl
      · rw [bst_s z, if_neg (by rcases o with o | o; exact absurd o z; exact o)]
    refine ⟨hm.1, fun M26 e26 M29 e29 M32 e32 y hy => ?_⟩
    rw [hy]
    refine hk M32 (by rw [e32, e29, e26]; exact ((Fg.pJ (Or.inr ⟨rfl, by omega⟩)).sI (Or.inr ⟨rfl, by omega⟩)).sI (Or.inr ⟨rfl, by omega⟩)) (fun _ => ?_)
    rw [eb, hb, ha]
    refine ⟨?_, ?_, ?_⟩
    · rw [e32, mI_uI, if_pos rfl, if_neg (by decide), e29, mI_uI, if_pos rfl, if_pos rfl]
    · rw [e32, mI_uI, if_pos rfl, if_pos rfl]
    · rw [e32, mJ_uI, e29, mJ_uI, e26, mJ_uJ, if_pos rfl, if_pos rfl]
  refine ⟨fun z => take (Or.inl (fs_0.mp z)), fun z => ⟨hm.1, ?_⟩⟩
  have z := mt fs_0.mpr z
  obtain ⟨q1, q2, q3⟩ := hF (by omega)
  rw [q3]
  refine ⟨fun y y2 hy2 => ?_, fun y => take (Or.inr y)⟩
  rw [hy2, fs_1 z]
  refine hk M Fg.rf (fun _ => ?_)
  rw [bst_s z, if_pos y]
  exact ⟨q1, q2, q3⟩
theorem S_R_findBest {n L hr0 : Nat} (hm : MdOK M) (hr : RS M σ) (hn : 10 ≤ n ∧ n ≤ 50) (hL : L = 100 / n) (hh : hr0 = 1 ∨ hr0 = 2)
    (hQ : ∀ M', Fg bfC M M' → Fb M' n L (fbF σ n L hr0) (bse L L) → QV0 M') : wp_X13_findBest 87 (nI n) (nI hr0) M QV0 := by
  have w1 := hr.1.1
  have hL2 : 2 ≤ L ∧ L ≤ 10 := by
    rw [hL]
    exact ⟨(Nat.le_div_iff_mul_le (by omega)).mpr (by omega), Nat.le_trans (Nat.div_le_div_left hn.1 (by omega)) (by omega)⟩
  have st := fun b => stp (b := b) (n := n) (L := L) (by omega) hL
  have bse1 : ∀ b, bse L (b + 1) = bse L b + (L - b) := fun b => rfl
  refine for_up (fun m b => ∀ M', Fg bfC M M' → Fb M' n L (fbF σ n L hr0) (bse L b) → lp_X13_findBest_5 QV0 m 87 (nI n) (nI hr0) (fs (bse L b)) (nI (b * n)) M') (L + 1) (fun m M' f hb => ?_) (fun m b hb ih M' f hfb => ?_) |> fun ⟨m, hx⟩ => ⟨m, by
    have hx := hx M Fg.rf (fun z => absurd z (by show ¬ 0 < 0; omega))
    rw [Nat.zero_mul] at hx
    exact hx⟩
  · unfold lp_X13_findBest_5
    have hgt : 100 < (L + 1) * n := by have := mt (st (L + 1)).mp (by omega); omega
    have hle : (L + 1) * n ≤ 11 * 50 := Nat.mul_le_mul (by omega) hn.2
    rw [bse1, Nat.sub_self, Nat.add_zero] at hb
    exact ⟨fun _ => hQ M' f hb, fun z => absurd (nI_lt (a := 100) hgt (by omega)) z⟩
  · have hbn := (st b).mpr (by omega)
    unfold lp_X13_findBest_5
    refine ⟨fun z => absurd ((nI_lt31 (a := 100) (by omega) (by omega)).mp z) (by omega), fun _ y hy => ?_⟩
    have ey : y = nI ((b + 1 + 0) * n) := by rw [hy, nI_add, Nat.add_zero, Nat.succ_mul]
    rw [ey]
    refine for_up (fun m' i => ∀ M2, Fg bfC M M2 → Fb M2 n L (fbF σ n L hr0) (bse L b + i) → lp_X13_findBest_18 (fun fx0 fx1 fx2 fx3 fx4 fM => lp_X13_findBest_5 QV0 m fx0 fx1 fx2 fx3 fx4 fM) QV0 m' 87 (nI n) (nI hr0) (fs (bse L b + i)) (nI (b * n)) (nI ((b + 1 + i) * n)) M2) (L - b) (fun m' M2 f2 hfb2 => ?_) (fun m' i hi ih2 M2 f2 hfb2 => ?_) |> fun ⟨m', hx⟩ => ⟨m', hx M' f hfb⟩
    · unfold lp_X13_findBest_18
      have hgt : 100 < (b + 1 + (L - b)) * n := by have := mt (st (b + 1 + (L - b))).mp (by omega); omega
      have hle : (b + 1 + (L - b)) * n ≤ 11 * 50 := Nat.mul_le_mul (by omega) hn.2
      refine ⟨fun _ y2 hy2 => ?_, fun z => absurd (nI_lt (a := 100) hgt (by omega)) z⟩
      have ey2 : y2 = nI ((b + 1) * n) := by rw [hy2, nI_add, Nat.succ_mul]
      rw [ey2, ← bse1]
      rw [← bse1] at hfb2
      exact ih M2 f2 hfb2
    · have han := (st (b + 1 + i)).mpr (by omega)
      obtain ⟨qB, qA⟩ := pBA (L := L) (b := b) (i := i) (by omega) hi
      have hlt : b * n < (b + 1 + i) * n := Nat.mul_lt_mul_of_pos_right (by omega) (by omega)
      have nxt : nI ((b + 1 + i) * n) + nI n = nI ((b + 1 + (i + 1)) * n) := by rw [nI_add, ← Nat.add_assoc (b + 1) i 1, Nat.succ_mul]
      have go : ∀ M3, Fg (fun x _k => x = 108) M2 M3 → jn_X13_findBest_92 (fun fx0 fx1 fx2 fx3 fx4 fM => lp_X13_findBest_5 QV0 m fx0 fx1 fx2 fx3 fx4 fM) (fun fx0 fx1 fx2 fx3 fx4 fx5 fM => lp_X13_findBest_18 (fun fx0 fx1 fx2 fx3 fx4 fM => lp_X13_findBest_5 QV0 m fx0 fx1 fx2 fx3 fx4 fM) QV0 m' fx0 fx1 fx2 fx3 fx4 fx5 fM) QV0 87 (nI n) (nI hr0) (fs (bse L b + i)) (nI (b * n)) (nI ((b + 1 + i) * n)) (fbF σ n L hr0 (bse L b + i)) M3 := by
        intro M3 f3
        have f23 := f2.t2 (f3.mono (fun a k q => Or.inl q))
        refine fb_step (hm.fg f23) (by rw [qB]) (by rw [qA]) (fun z => ?_) (fun M4 f4 h4 => ?_)
        · rw [f3.I (by omega), f3.I (by omega), f3.J (by omega)]; exact hfb2 z
        · rw [nxt]
          have q := ih2 M4 (f23.t2 f4) h4
          rw [fs_1 (by omega)] at q
          exact q
      have m2 := hm.fg f2
      have r2 := hr.fg f2 (fun a k q => bf_st q)
      unfold lp_X13_findBest_18
      refine ⟨fun z => absurd ((nI_lt31 (a := 100) (by omega) (by omega)).mp z) (by omega), fun _ => ⟨fun z => ⟨m2.1, S_R_twoHours m2 r2 hn hL hlt han (fun M3 f3 => ?_)⟩, fun z => ?_⟩⟩
      · have h2 : hr0 ≠ 1 := fun e => z (by rw [e]; rfl)
        have q := go M3 f3
        unfold fbF thV at q
        rw [if_neg h2, qB, qA] at q
        exact q
      · have h2 : hr0 = 1 := (nI_eq (b := 1) (by omega) (by omega)).mp z
        refine for_up (fun m9 k => ∀ M3, Fg (fun x _k => x = 108) M2 M3 → (∀ j, j < k → mJ M3 108 j = lN (sCh σ j)) → lp_X13_findBest_36 (fun fx0 fx1 fx2 fx3 fx4 fM => lp_X13_findBest_5 QV0 m fx0 fx1 fx2 fx3 fx4 fM) (fun fx0 fx1 fx2 fx3 fx4 fx5 fM => lp_X13_findBest_18 (fun fx0 fx1 fx2 fx3 fx4 fM => lp_X13_findBest_5 QV0 m fx0 fx1 fx2 fx3 fx4 fM) QV0 m' fx0 fx1 fx2 fx3 fx4 fx5 fM) QV0 m9 87 (nI n) (nI hr0) (fs (bse L b + i)) (nI (b * n)) (nI ((b + 1 + i) * n)) (nI k) M3) (sN σ) (fun m9 M3 f3 hz => ?_) (fun m9 k hk ih9 M3 f3 hz => ?_) |> fun ⟨m9, hx⟩ => ⟨m9, hx M2 Fg.rf (fun j hj => absurd hj (by omega))⟩
        · have r3 := r2.fg f3 (fun x k q => by simp only [stC]; omega)
          have m3 := m2.fg f3
          unfold lp_X13_findBest_36
          refine ⟨m3.1, fun _ => S_R_lastHour (h := 0) (g := 0) m3 r3 hz (fun i hi => Nat.le_trans (hr.1.2.1 i hi).2.1 (by omega)) hlt han (by omega) (by omega) ?_, fun hn => absurd (by rw [r3.2.1.1]; exact nI_le (Nat.le_refl _) (by omega)) hn⟩
          have q := go M3 f3
          unfold fbF at q
          rw [if_pos h2, pkF_lh hr.1 (by rw [qB, qA]; exact hlt), qB, qA] at q
          exact q
        · have r3 := r2.fg f3 (fun x k q => by simp only [stC]; omega)
          have m3 := m2.fg f3
          have hch := (hr.1.2.1 k hk).2.1
          unfold lp_X13_findBest_36
          refine ⟨m3.1, fun hle => absurd (by rw [r3.2.1.1] at hle; exact hle) (nI_ge hk (by omega)), fun _ => ?_⟩
          rw [m3.r1, m3.n1, m3.r37, m3.n37, nI_clamp (by omega), (r3.2.2.1 k hk).1, nI_l (by omega)]
          refine ⟨m3.k1, vp_in_nI (by omega) (by omega), m3.k37, vp_in_nI (by omega) (by omega), fun M4 e4 => ?_⟩
          rw [nI_1]
          exact ih9 M4 (by rw [e4]; exact f3.sJ rfl) (by rw [e4]; exact fil (f := fun j => lN (sCh σ j)) hz rfl)
theorem S_X13_best {n hr p : Int32} (h : AbsR M c) (hQ : ∀ M', Fg mdC8 M M' → AbsR M' c → QJ0 (aBest c n hr p) M') : wp_X13_best 87 n hr p M QJ0 := by
  unfold aBest at hQ
  refine th0 h (fun M1 h1 f1 z1 => ?_)
  have q := hQ M1 f1 h1
  refine S_inY 10 50 (by omega) (by omega) rfl rfl (fun p1 => ⟨fun z => absurd z (by decide), fun _ => S_inY 1 2 (by omega) (by omega) rfl rfl (fun p2 => ⟨fun z => absurd z (by decide), fun _ => S_inX 2 (by omega) rfl (fun p3 => ⟨fun _ => ⟨h1.1.1, S_R_isReady h1.1 h1.2.1 (fun r => ⟨fun _ => ⟨h1.1.1, ?_⟩, fun z => absurd z (by decide)⟩) (fun r => ⟨fun z => absurd rfl z, fun _ => ?_⟩)⟩, fun z => absurd z (by decide)⟩) (fun p3 => ⟨fun z => absurd rfl z, fun _ => ?_⟩)⟩) (fun p2 => ⟨fun _ => ?_, fun z => absurd rfl z⟩)⟩) (fun p1 => ⟨fun _ => ?_, fun z => absurd rfl z⟩)
  · have bc : bsC n hr p := ⟨p1.1, p1.2, p2.1, p2.2, by omega⟩
    simp only [if_pos bc, if_pos r] at hQ
    unfold bsI at hQ
    obtain ⟨n, hn, rfl⟩ := ix_ex (x := n) (n := 51) (by omega) (by omega)
    obtain ⟨m, hm, rfl⟩ := ix_ex (x := hr) (n := 3) (by omega) (by omega)
    simp only [ix_nI (show n < 2147483648 by omega), ix_nI (show m < 2147483648 by omega)] at hQ p1 p2
    refine S_R_findBest h1.1 h1.2.1 p1 rfl (by omega) (fun M2 f2 hb => ?_)
    have h2 := h1.bf f2
    have q := hQ M2 (f1.t2 (f2.m8 (fun a k q => bf8 q))) h2
    have hL2 : 2 ≤ 100 / n ∧ 100 / n ≤ 10 := ⟨(Nat.le_div_iff_mul_le (by omega)).mpr (by omega), Nat.le_trans (Nat.div_le_div_left p1.1 (by omega)) (by omega)⟩
    have hLn : 100 / n * n ≤ 100 := Nat.div_mul_le_self _ _
    generalize 100 / n = L at *
    have hbL : 0 < bse L L := by
      obtain ⟨k, rfl⟩ : ∃ k, L = k + 1 := ⟨L - 1, by omega⟩
      have : bse (k + 1) 1 ≤ bse (k + 1) (1 + k) := bse_mono k 1
      rw [Nat.add_comm 1 k] at this
      have : bse (k + 1) 1 = 0 + (k + 1 - 0) := rfl
      omega
    obtain ⟨x1, x2, x3⟩ := hb hbL
    have bl := bst_lt (f := fbF (cS c) n L m) _ hbL
    obtain ⟨-, -, k1, k2, -⟩ := prd (n := n) (L := L) (by omega) hLn bl
    rw [x1, x2, x3, nI_l (by omega), nI_l (by omega)]
    refine ⟨fun y0 => ⟨fun y1 => ⟨h2.1.1, ?_⟩, fun y1 => ⟨h2.1.1, ?_⟩⟩, fun y0 => ⟨h2.1.1, ?_⟩⟩
    · rw [if_neg (mt (ix_eq (k := 0) (by omega)).mpr y0), if_neg (mt (ix_eq (k := 1) (by omega)).mpr y1)] at q; exact q
    · rw [if_neg (mt (ix_eq (k := 0) (by omega)).mpr y0), if_pos ((ix_eq (k := 1) (by omega)).mp y1)] at q; exact q
    · rw [if_pos ((ix_eq (k := 0) (by omega)).mp y0)] at q; exact q
  · rw [if_pos ⟨p1.1, p1.2, p2.1, p2.2, by omega⟩, if_neg r] at q; exact q
  · rw [if_neg (fun z => p3 (by have := z.2.2.2.2; omega))] at q; exact q
  · rw [if_neg (fun z => p2 ⟨z.2.2.1, z.2.2.2.1⟩)] at q; exact q
  · rw [if_neg (fun z => p1 ⟨z.1, z.2.1⟩)] at q; exact q
end REF
