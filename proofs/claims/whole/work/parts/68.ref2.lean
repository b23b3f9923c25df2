/-! THE REFERENCE: what stands in mind; settling; fair prices; calls -/
def Mi (M : Mem) (n : Nat) (w : Nat → Nat) : Prop := ∀ i, i < n → mJ M 99 i = lN (w i)
abbrev miC (a _k : Nat) : Prop := a = 99
theorem Mi.step {M : Mem} {n i : Nat} {g w : Nat → Nat} {v : Int64} (h : Mi M n (mixN i g w)) (hv : v = lN (g i)) : Mi (uJ M 99 i v) n (mixN (i + 1) g w) := Wt.step (t := 98) h hv
theorem Mi.done {M : Mem} {n : Nat} {g w : Nat → Nat} (h : Mi M n (mixN n g w)) : Mi M n g := Wt.done (t := 98) h
theorem Mi.now {M : Mem} {n i : Nat} {g w : Nat → Nat} (h : Mi M n (mixN i g w)) (hi : i < n) : mJ M 99 i = lN (w i) := Wt.now (t := 98) h hi
theorem Mi.fg {P : Nat → Nat → Prop} {M M' : Mem} {n : Nat} {w : Nat → Nat} (h : Mi M n w) (f : Fg P M M') (hP : ∀ k, ¬ P 99 k) : Mi M' n w := fun i hi => by rw [f.J (hP i)]; exact h i hi
theorem Mi.cg {M : Mem} {n : Nat} {w v : Nat → Nat} (h : Mi M n w) (e : ∀ i, i < n → w i = v i) : Mi M n v := fun i hi => by rw [h i hi, e i hi]
theorem fil {M : Mem} {a i : Nat} {f : Nat → Int64} {v : Int64} (h : ∀ j, j < i → mJ M a j = f j) (hv : v = f i) : ∀ j, j < i + 1 → mJ (uJ M a i v) a j = f j := fun j hj => by
  rw [mJ_uJ, if_pos rfl]
  by_cases c : j = i
  · rw [if_pos c, hv, c]
  · rw [if_neg c]; exact h j (by omega)
theorem mi_st {a k : Nat} (h : miC a k) : ¬ stC a k := by simp only [stC]; simp only [miC] at h; omega
section REF
variable {M : Mem} {σ : StT} {c : CT} {w : Nat → Nat} {h : Int} {Q : Int32 → Mem → Prop} {QJ0 : Int64 → Mem → Prop} {QV0 : Mem → Prop}
theorem S_R_setMind (hm : MdOK M) (hr : RS M σ) (ht : RTh M (sN σ) w h) (hQ : ∀ M', Fg miC M M' → Mi M' (sN σ) w → QV0 M') : wp_X13_setMind 87 M QV0 := by
  have w1 := hr.1.1
  refine for_up (fun m i => ∀ M', Fg miC M M' → (∀ j, j < i → mJ M' 99 j = lN (w j)) → lp_X13_setMind_2 QV0 m 87 (nI i) M') (sN σ) (fun m M' f hz => ?_) (fun m i hi ih M' f hz => ?_) |> fun ⟨m, hm⟩ => ⟨m, hm M Fg.rf (fun j hj => absurd hj (by omega))⟩
  · have r1 := hr.fg f (fun a k q => mi_st q)
    unfold lp_X13_setMind_2
    exact ⟨(hm.fg f).1, fun _ => hQ M' f hz, fun hn => absurd (by rw [r1.2.1.1]; exact nI_le (Nat.le_refl _) (by omega)) hn⟩
  · have r1 := hr.fg f (fun a k q => mi_st q)
    have m1 := hm.fg f
    have t1 := ht.fg f (by simp only [miC]; omega) (fun k => by simp only [miC]; omega)
    unfold lp_X13_setMind_2
    refine ⟨m1.1, fun hle => absurd (by rw [r1.2.1.1] at hle; exact hle) (nI_ge hi (by omega)), fun _ => ?_⟩
    rw [m1.r10, m1.r23, m1.n10, m1.n23, nI_clamp (by omega), (t1.2.2 i hi).2]
    refine ⟨m1.k10, vp_in_nI (by omega) (by omega), m1.k23, vp_in_nI (by omega) (by omega), fun M5 e5 => ?_⟩
    subst e5
    rw [nI_1]
    exact ih _ (f.sJ rfl) (fil (f := fun j => lN (w j)) hz rfl)
theorem S_R_setChances (hm : MdOK M) (hr : RS M σ) (hQ : ∀ M', Fg miC M M' → Mi M' (sN σ) (sCh σ) → QV0 M') : wp_X13_setChances 87 M QV0 := by
  have w1 := hr.1.1
  refine for_up (fun m i => ∀ M', Fg miC M M' → (∀ j, j < i → mJ M' 99 j = lN (sCh σ j)) → lp_X13_setChances_2 QV0 m 87 (nI i) M') (sN σ) (fun m M' f hz => ?_) (fun m i hi ih M' f hz => ?_) |> fun ⟨m, hm⟩ => ⟨m, hm M Fg.rf (fun j hj => absurd hj (by omega))⟩
  · have r1 := hr.fg f (fun a k q => mi_st q)
    unfold lp_X13_setChances_2
    exact ⟨(hm.fg f).1, fun _ => hQ M' f hz, fun hn => absurd (by rw [r1.2.1.1]; exact nI_le (Nat.le_refl _) (by omega)) hn⟩
  · have r1 := hr.fg f (fun a k q => mi_st q)
    have m1 := hm.fg f
    have hc := (r1.1.2.1 i hi).2.1
    unfold lp_X13_setChances_2
    refine ⟨m1.1, fun hle => absurd (by rw [r1.2.1.1] at hle; exact hle) (nI_ge hi (by omega)), fun _ => ?_⟩
    rw [m1.r1, m1.r23, m1.n1, m1.n23, nI_clamp (by omega), (r1.2.2.1 i hi).1, nI_l (by omega)]
    refine ⟨m1.k1, vp_in_nI (by omega) (by omega), m1.k23, vp_in_nI (by omega) (by omega), fun M5 e5 => ?_⟩
    subst e5
    rw [nI_1]
    exact ih _ (f.sJ rfl) (fil (f := fun j => lN (sCh σ j)) hz rfl)
theorem S_R_thinkAnew (hm : MdOK M) (hr : RS M σ) (hQ : ∀ M', Fg (fun a k => a = 93 ∨ (a = 87 ∧ k = 11)) M M' → RTh M' (sN σ) (sCh σ) 0 → QV0 M') : wp_X13_thinkAnew 87 M QV0 := by
  have w1 := hr.1.1
  have no : ∀ a k, (a = 93 ∨ (a = 87 ∧ k = 11)) → ¬ stC a k := fun a k q => by simp only [stC]; omega
  refine for_up (fun m i => ∀ M', Fg (fun a k => a = 93 ∨ (a = 87 ∧ k = 11)) M M' → (∀ j, j < i → mJ M' 93 j = lN (sCh σ j)) → lp_X13_thinkAnew_2 QV0 m 87 (nI i) M') (sN σ) (fun m M' f hz => ?_) (fun m i hi ih M' f hz => ?_) |> fun ⟨m, hm⟩ => ⟨m, hm M Fg.rf (fun j hj => absurd hj (by omega))⟩
  · have r1 := hr.fg f no
    unfold lp_X13_thinkAnew_2
    refine ⟨(hm.fg f).1, fun _ M5 e5 => ?_, fun hn => absurd (by rw [r1.2.1.1]; exact nI_le (Nat.le_refl _) (by omega)) hn⟩
    subst e5
    refine hQ _ (f.sI (Or.inr ⟨rfl, rfl⟩)) ⟨?_, by omega, fun i hi => ⟨Nat.le_trans (r1.1.2.1 i hi).2.1 (by omega), ?_⟩⟩
    · rw [mI_uI, if_pos rfl, if_pos rfl]; rfl
    · rw [mJ_uI]; exact hz i hi
  · have r1 := hr.fg f no
    have m1 := hm.fg f
    have hc := (r1.1.2.1 i hi).2.1
    unfold lp_X13_thinkAnew_2
    refine ⟨m1.1, fun hle => absurd (by rw [r1.2.1.1] at hle; exact hle) (nI_ge hi (by omega)), fun _ => ?_⟩
    rw [m1.r1, m1.r10, m1.n1, m1.n10, nI_clamp (by omega), (r1.2.2.1 i hi).1, nI_l (by omega)]
    refine ⟨m1.k1, vp_in_nI (by omega) (by omega), m1.k10, vp_in_nI (by omega) (by omega), fun M5 e5 => ?_⟩
    subst e5
    rw [nI_1]
    exact ih _ (f.sJ (Or.inl rfl)) (fil (f := fun j => lN (sCh σ j)) hz rfl)
theorem S_R_meanInMind (hm : MdOK M) (hr : RS M σ) (hM : Mi M (sN σ) w) (hw : ∀ i, i < sN σ → w i ≤ 100000000000) (hp : 0 < sumN w (sN σ)) (hQ : Q (nI (mvN σ w)) M) : wp_X13_meanInMind 87 M Q := by
  have h6 := hr.1.1
  have hl := sumN_le' hw h6
  have hl2 := mv_le (w := w) hr.1
  have hla := hl (sN σ) (Nat.le_refl _)
  have hlb := hl2 (sN σ) (Nat.le_refl _)
  have hm9 := mvN_le (w := w) hr.1
  refine for_up (fun m i => lp_X13_meanInMind_7 Q m 87 (lN (sumN (fun i => w i * sVa σ i) i)) (lN (sumN w i)) (nI i) M) (sN σ) (fun m => ?_) (fun m i hi ih => ?_)
  · unfold lp_X13_meanInMind_7
    refine ⟨hm.1, fun _ => ⟨fun z => ?_, ?_⟩, fun hn => absurd (by rw [hr.2.1.1]; exact nI_le (Nat.le_refl _) (by omega)) hn⟩
    · have := (pk_lEQ (a := sumN w (sN σ)) (b := 0) (by omega) (by omega)).mp z
      omega
    · rw [pk_lDiv (by omega) (by omega) (by omega), lN_i]
      exact hQ
  · unfold lp_X13_meanInMind_7
    have hvi := (hr.1.2.1 i hi).2.2
    refine ⟨hm.1, fun hle => absurd (by rw [hr.2.1.1] at hle; exact hle) (nI_ge hi (by omega)), fun _ => ?_⟩
    rw [hm.r23, hm.n23, hm.r2, hm.n2, nI_clamp (by omega), hM i hi, (hr.2.2.1 i hi).2]
    refine ⟨hm.k23, vp_in_nI (by omega) (by omega), hm.k2, vp_in_nI (by omega) (by omega), fun y hy => ⟨vp_in_nI (by omega) (by omega), fun y2 hy2 => ?_⟩⟩
    rw [hy, hy2, nI_l (by omega), lN_mul, lN_add, lN_add, nI_1]
    exact ih
theorem S_R_findChanceMean (hm : MdOK M) (hr : RS M σ) (hQ : ∀ M', Fg (fun a k => a = 87 ∧ k = 26) M M' → mI M' 87 26 = nI (mbc σ) → QV0 M') : wp_X13_findChanceMean 87 M QV0 := by
  have w1 := hr.1.1
  have hb := mbs_le hr.1 (sN σ) (Nat.le_refl _)
  have hc := hr.1.2.2.2.2.1
  refine for_up (fun m i => lp_X13_findChanceMean_4 QV0 m 87 (nI (sumN (fun i => sCh σ i * sVa σ i) i)) (nI i) M) (sN σ) (fun m => ?_) (fun m i hi ih => ?_)
  · unfold lp_X13_findChanceMean_4
    refine ⟨hm.1, fun _ M5 e5 => ?_, fun hn => absurd (by rw [hr.2.1.1]; exact nI_le (Nat.le_refl _) (by omega)) hn⟩
    subst e5
    refine hQ _ (Fg.pI ⟨rfl, rfl⟩) ?_
    rw [mI_uI, if_pos rfl, if_pos rfl]
    exact pk_div (d := 100) (by omega) (by omega) (by omega)
  · unfold lp_X13_findChanceMean_4
    refine ⟨hm.1, fun hle => absurd (by rw [hr.2.1.1] at hle; exact hle) (nI_ge hi (by omega)), fun _ => ?_⟩
    rw [hm.r1, hm.n1, hm.r2, hm.n2, nI_clamp (by omega), (hr.2.2.1 i hi).1, (hr.2.2.1 i hi).2]
    refine ⟨hm.k1, vp_in_nI (by omega) (by omega), hm.k2, vp_in_nI (by omega) (by omega), fun y hy => ?_⟩
    rw [hy, pk_mul, nI_add, nI_1]
    exact ih
theorem rdv_go : ∀ (k a b : Nat), b < k → a < 2 ^ 63 → b < 2 ^ 63 → QJ0 (lN (Nat.gcd a b)) M → lp_X13_divisor_6 QJ0 k (lN a) (lN b) M := by
  intro k
  induction k with
  | zero => intro a b h; omega
  | succ k ih =>
    intro a b hk ha hb hQ
    unfold lp_X13_divisor_6
    have e0 : lN b = (0 : Int64) ↔ b = 0 := pk_lEQ (b := 0) hb (by omega)
    refine ⟨fun z => ?_, fun z => ⟨z, fun y hy => ?_⟩⟩
    · rw [e0.mp z, Nat.gcd_zero_right] at hQ; exact hQ
    · have z := mt e0.mpr z
      have m1 := Nat.mod_lt a (y := b) (by omega)
      have g1 : Nat.gcd a b = Nat.gcd b (a % b) := by rw [Nat.gcd_comm a b, Nat.gcd_rec b a, Nat.gcd_comm]
      rw [hy, pk_lRem ha (by omega) hb]
      rw [g1] at hQ
      exact ih b (a % b) (by omega) hb (by omega) hQ
theorem S_R_divisor {a b : Nat} (ha : a < 2 ^ 63) (hb : b < 2 ^ 63) (hQ : QJ0 (lN (Nat.gcd a b)) M) : wp_X13_divisor (lN a) (lN b) M QJ0 := ⟨b + 1, rdv_go (b + 1) a b (by omega) ha hb hQ⟩
/-- the scan for weights above the most -/
theorem st_scan {v : Nat → Nat} {K : Nat → Int32 → Mem → Prop} (hm : MdOK M) (hr : RS M σ) (hM : Mi M (sN σ) v) (hb : ∀ i, i < sN σ → v i < 2 ^ 62) (hk : ∃ n, lp_X13_settle_116 K Q n 87 (if maxN v (sN σ) ≤ WM then 0 else 1) 0 M) : ∃ n, lp_X13_settle_74 K Q n 87 0 0 M := by
  have h6 := hr.1.1
  refine for_up (fun m i => lp_X13_settle_74 K Q m 87 (if maxN v i ≤ WM then 0 else 1) (nI i) M) (sN σ) (fun m => ?_) (fun m i hi ih => ?_) |> fun ⟨m, h⟩ => ⟨m, h⟩
  · unfold lp_X13_settle_74
    exact ⟨hm.1, fun _ => hk, fun hn => absurd (by rw [hr.2.1.1]; exact nI_le (Nat.le_refl _) (by omega)) hn⟩
  · unfold lp_X13_settle_74
    have hbi := hb i hi
    have e1 : lN (v i) ≤ (100000000000 : Int64) ↔ v i ≤ 100000000000 := pk_lLE (b := 100000000000) (by omega) (by omega)
    have ex : maxN v (i + 1) = max (maxN v i) (v i) := rfl
    refine ⟨hm.1, fun hle => absurd (by rw [hr.2.1.1] at hle; exact hle) (nI_ge hi (by omega)), fun _ => ⟨fun z => ?_, fun z => ?_⟩⟩
    · have c : ¬ maxN v i ≤ WM := fun q => z (by rw [if_pos q])
      rw [if_neg (by rw [ex]; omega), ← nI_1] at ih
      exact ih
    · have c : maxN v i ≤ WM := by
        by_cases q : maxN v i ≤ WM
        · exact q
        · rw [if_neg q] at z; exact absurd z (by decide)
      rw [hm.r23, hm.n23, nI_clamp (by omega), hM i hi]
      refine ⟨hm.k23, vp_in_nI (by omega) (by omega), fun q => ?_, fun q => ?_⟩
      · have q := e1.mp q
        rw [if_pos (by rw [ex]; exact Nat.max_le.mpr ⟨c, q⟩), ← nI_1] at ih
        exact ih
      · have q := mt e1.mpr q
        rw [if_neg (by rw [ex]; intro z2; exact q (Nat.max_le.mp z2).2), ← nI_1] at ih
        exact ih
/-- the halving -/
theorem st_halve {v : Nat → Nat} {K : Nat → Int32 → Mem → Prop} (hm : MdOK M) (hr : RS M σ) (hM : Mi M (sN σ) v) (hb : ∀ i, i < sN σ → v i < 2 ^ 62) (hk : ∀ M', Fg miC M M' → Mi M' (sN σ) (fun i => hv (v i)) → K 87 1 M') : ∃ n, lp_X13_settle_116 K Q n 87 1 0 M := by
  have h6 := hr.1.1
  refine for_up (fun m i => ∀ M', Fg miC M M' → Mi M' (sN σ) (mixN i (fun i => hv (v i)) v) → lp_X13_settle_116 K Q m 87 1 (nI i) M') (sN σ) (fun m M' f hw2 => ?_) (fun m i hi ih M' f hw2 => ?_) |> fun ⟨m, h⟩ => ⟨m, h M Fg.rf (by rw [mixN_0]; exact hM)⟩
  · have r1 := hr.fg f (fun a k q => mi_st q)
    unfold lp_X13_settle_116
    exact ⟨(hm.fg f).1, fun _ => hk M' f hw2.done, fun hn => absurd (by rw [r1.2.1.1]; exact nI_le (Nat.le_refl _) (by omega)) hn⟩
  · have r1 := hr.fg f (fun a k q => mi_st q)
    have m1 := hm.fg f
    have hbi := hb i hi
    have hin : vp_in (nI i) 6 := vp_in_nI (by omega) (by omega)
    unfold lp_X13_settle_116
    refine ⟨m1.1, fun hle => absurd (by rw [r1.2.1.1] at hle; exact hle) (nI_ge hi (by omega)), fun _ => ⟨fun z => absurd z (by decide), fun _ => ?_⟩⟩
    have fin : ∀ x : Int64, x = lN ((fun i => hv (v i)) i) → jn_X13_settle_162 K (fun fx0 fx3 fx4 fM => lp_X13_settle_116 K Q m fx0 fx3 fx4 fM) Q 87 1 (nI i) x (nI i) 99 M' := by
      intro x hx
      unfold jn_X13_settle_162
      rw [m1.n23, nI_clamp (by omega)]
      refine ⟨m1.k23, hin, fun M3 e3 => ?_⟩
      subst e3
      rw [nI_1]
      exact ih _ (f.sJ rfl) (hw2.step hx)
    rw [m1.r23, m1.n23, nI_clamp (by omega), hw2.now hi]
    have e1 : lN (v i) = (1 : Int64) ↔ v i = 1 := pk_lEQ (b := 1) (by omega) (by omega)
    refine ⟨m1.k23, hin, fun q => ⟨hin, fin _ ?_⟩, fun q => fin _ ?_⟩
    · show _ = lN (hv (v i)); unfold hv; rw [if_neg (mt e1.mpr q)]
      exact pk_lDiv (b := 2) (by omega) (by omega) (by omega)
    · show _ = lN (hv (v i)); unfold hv; rw [if_pos (e1.mp q)]; rfl
theorem hv_half {x k : Nat} (hx : x ≤ 100000000000 * 2 ^ (k + 1)) : hv x ≤ 100000000000 * 2 ^ k := by
  have : 1 ≤ 2 ^ k := Nat.one_le_two_pow
  rw [Nat.pow_succ] at hx
  unfold hv
  split <;> omega
theorem st_more {M0 : Mem} (hm : MdOK M0) (hr : RS M0 σ) : ∀ (k : Nat) (v : Nat → Nat) (M : Mem), k ≤ 64 → Fg miC M0 M → Mi M (sN σ) v → (∀ i, i < sN σ → v i < 2 ^ 62) → (∀ i, i < sN σ → v i ≤ WM * 2 ^ k) → (∀ M', Fg miC M0 M' → Mi M' (sN σ) (hlv (sN σ) k v) → Q 1 M') → lp_X13_settle_65 Q (k + 2) 87 1 M := by
  intro k
  induction k with
  | zero =>
    intro v M _ f hM hb hb2 hQ
    have r1 := hr.fg f (fun a k q => mi_st q)
    have m1 := hm.fg f
    unfold lp_X13_settle_65
    refine ⟨fun z => absurd z (by decide), fun _ => st_scan m1 r1 hM hb ?_⟩
    rw [if_pos ((maxN_le (sN σ)).mpr (fun i hi => by have := hb2 i hi; omega))]
    refine ⟨1, ?_⟩
    have k0 : lp_X13_settle_65 Q 1 87 0 M := ⟨fun _ => hQ M f hM, fun z => absurd rfl z⟩
    exact ⟨m1.1, fun _ => k0, fun _ => ⟨fun _ => k0, fun z => absurd rfl z⟩⟩
  | succ k ih =>
    intro v M hk f hM hb hb2 hQ
    have r1 := hr.fg f (fun a k q => mi_st q)
    have m1 := hm.fg f
    have hu : hlv (sN σ) (k + 1) v = if maxN v (sN σ) ≤ WM then v else hlv (sN σ) k (fun i => hv (v i)) := rfl
    rw [hu] at hQ
    unfold lp_X13_settle_65
    refine ⟨fun z => absurd z (by decide), fun _ => st_scan m1 r1 hM hb ?_⟩
    by_cases c : maxN v (sN σ) ≤ WM
    · rw [if_pos c] at hQ ⊢
      refine ⟨1, ?_⟩
      have k0 : lp_X13_settle_65 Q (k + 2) 87 0 M := ⟨fun _ => hQ M f hM, fun z => absurd rfl z⟩
      exact ⟨m1.1, fun _ => k0, fun _ => ⟨fun _ => k0, fun z => absurd rfl z⟩⟩
    · rw [if_neg c] at hQ ⊢
      exact st_halve m1 r1 hM hb (fun M' f' hM' => ih _ M' (by omega) (f.t2 f') hM' (fun i hi => Nat.lt_of_le_of_lt (hv_le (v i)) (hb i hi)) (fun i hi => hv_half (hb2 i hi)) hQ)
theorem S_R_settle {fl : Nat → Nat} (hm : MdOK M) (hr : RS M σ) (hM : Mi M (sN σ) fl) (hfl : ∀ i, i < sN σ → fl i ≤ 10000000000000) (hY : 0 < sumN fl (sN σ) → ∀ M', Fg miC M M' → Mi M' (sN σ) (stl (sN σ) fl) → Q 1 M') (hN : ¬ 0 < sumN fl (sN σ) → Q 0 M) : wp_X13_settle 87 M Q := by
  have h6 := hr.1.1
  have hgl := gcdN_le (f := fl) (sN σ) hfl
  refine for_up (fun m i => lp_X13_settle_4 Q m 87 (lN (gcdN fl i)) (nI i) M) (sN σ) (fun m => ?_) (fun m i hi ih => ?_)
  · unfold lp_X13_settle_4
    have e0 : lN (gcdN fl (sN σ)) = (0 : Int64) ↔ gcdN fl (sN σ) = 0 := pk_lEQ (b := 0) (by omega) (by omega)
    refine ⟨hm.1, fun _ => ⟨fun z => ?_, fun z => hN ?_⟩, fun hn => absurd (by rw [hr.2.1.1]; exact nI_le (Nat.le_refl _) (by omega)) hn⟩
    · have z := mt e0.mpr z
      have hp : 0 < sumN fl (sN σ) := by
        have := mt (gcdN_0 (f := fl) (sN σ)).mpr z
        omega
      have hY := hY hp
      unfold stl at hY
      generalize gcdN fl (sN σ) = g at *
      refine for_up (fun m i => ∀ M', Fg miC M M' → Mi M' (sN σ) (mixN i (fun i => fl i / g) fl) → lp_X13_settle_39 Q m 87 (lN g) (nI i) M') (sN σ) (fun m M' f hw2 => ?_) (fun m i hi ih M' f hw2 => ?_) |> fun ⟨m, h⟩ => ⟨m, h M Fg.rf (by rw [mixN_0]; exact hM)⟩
      · have r1 := hr.fg f (fun a k q => mi_st q)
        unfold lp_X13_settle_39
        have bd : ∀ i, i < sN σ → (fun i => fl i / g) i ≤ 10000000000000 := fun i hi => Nat.le_trans (Nat.div_le_self _ _) (hfl i hi)
        refine ⟨(hm.fg f).1, fun _ => ⟨66, st_more hm hr 64 _ M' (by omega) f hw2.done (fun i hi => Nat.lt_of_le_of_lt (bd i hi) (by omega)) (fun i hi => Nat.le_trans (bd i hi) (show 10000000000000 ≤ 100000000000 * 2 ^ 64 by omega)) hY⟩, fun hn => absurd (by rw [r1.2.1.1]; exact nI_le (Nat.le_refl _) (by omega)) hn⟩
      · have r1 := hr.fg f (fun a k q => mi_st q)
        have m1 := hm.fg f
        have hfi := hfl i hi
        have hin : vp_in (nI i) 6 := vp_in_nI (by omega) (by omega)
        unfold lp_X13_settle_39
        refine ⟨m1.1, fun hle => absurd (by rw [r1.2.1.1] at hle; exact hle) (nI_ge hi (by omega)), fun _ => ?_⟩
        rw [m1.r23, m1.n23, nI_clamp (by omega), hw2.now hi]
        refine ⟨m1.k23, hin, fun q => z (e0.mp q), hin, fun M3 e3 => ?_⟩
        subst e3
        rw [nI_1, pk_lDiv (by omega) (by omega) (by omega)]
        exact ih _ (f.sJ rfl) (hw2.step rfl)
    · have := (gcdN_0 (f := fl) (sN σ)).mp (e0.mp z)
      omega
  · have hfi := hfl i hi
    have hgi := gcdN_le (f := fl) (c := 10000000000000) i (fun j hj => hfl j (by omega))
    unfold lp_X13_settle_4
    refine ⟨hm.1, fun hle => absurd (by rw [hr.2.1.1] at hle; exact hle) (nI_ge hi (by omega)), fun _ => ?_⟩
    rw [hm.r23, hm.n23, nI_clamp (by omega), hM i hi]
    refine ⟨hm.k23, vp_in_nI (by omega) (by omega), S_R_divisor (by omega) (by omega) ?_⟩
    rw [nI_1, Nat.gcd_comm]
    exact ih
theorem S_R_goesOn {ev b a : Nat} (hm : MdOK M) (hr : RS M σ) (hM : Mi M (sN σ) w) (hw : ∀ i, i < sN σ → w i ≤ 100000000000) (hev : ev ≤ 2) (hba : b < a) (ha : a ≤ 100) (hh : -20 ≤ h ∧ h ≤ 20)
    (hY : 0 < sumN (flw σ w h ev b a) (sN σ) → ∀ M', Fg miC M M' → Mi M' (sN σ) (stl (sN σ) (flw σ w h ev b a)) → Q 1 M') (hN : ¬ 0 < sumN (flw σ w h ev b a) (sN σ) → ∀ M', Fg miC M M' → Q 0 M') : wp_X13_goesOn 87 (nI ev) (nI b) (nI a) (iI h) M Q := by
  have h6 := hr.1.1
  refine for_up (fun m i => ∀ M', Fg miC M M' → Mi M' (sN σ) (mixN i (flw σ w h ev b a) w) → lp_X13_goesOn_3 Q m 87 (nI ev) (nI b) (nI a) (iI h) (nI i) M') (sN σ) (fun m M' f hw2 => ?_) (fun m i hi ih M' f hw2 => ?_) |> fun ⟨m, h⟩ => ⟨m, h M Fg.rf (by rw [mixN_0]; exact hM)⟩
  · have r1 := hr.fg f (fun a k q => mi_st q)
    have m1 := hm.fg f
    unfold lp_X13_goesOn_3
    refine ⟨m1.1, fun _ => S_R_settle m1 r1 hw2.done (fun i hi => Nat.mul_le_mul (hw i hi) (odds_le hr.1)) (fun hp M2 f2 h2 => ⟨Or.inr rfl, hY hp M2 (f.t2 f2) h2⟩) (fun hp => ⟨Or.inl rfl, hN hp M' f⟩), fun hn => absurd (by rw [r1.2.1.1]; exact nI_le (Nat.le_refl _) (by omega)) hn⟩
  · have r1 := hr.fg f (fun a k q => mi_st q)
    have m1 := hm.fg f
    have hwi := hw i hi
    have hin : vp_in (nI i) 6 := vp_in_nI (by omega) (by omega)
    unfold lp_X13_goesOn_3
    refine ⟨m1.1, fun hle => absurd (by rw [r1.2.1.1] at hle; exact hle) (nI_ge hi (by omega)), fun _ => ?_⟩
    rw [m1.r23, m1.n23, nI_clamp (by omega), hw2.now hi]
    refine ⟨m1.k23, hin, S_R_hun m1 r1 hev hi (by omega) ha (by omega) ?_⟩
    rw [← odds_hun hr.1 hev hba, m1.n23]
    have lo := odds_le hr.1 (h := h) (ev := ev) (i := i) (bid := b) (ask := a)
    refine ⟨m1.k23, hin, fun M3 e3 => ?_⟩
    subst e3
    rw [nI_1, nI_l (by omega), lN_mul]
    exact ih _ (f.sJ rfl) (hw2.step rfl)
end REF
