/-! THE REFERENCE: pairs at rest -/
theorem bst_max {f : Nat → Int64} : ∀ n k, k < n → f k ≤ f (bst f n)
  | 0, k, h => absurd h (by omega)
  | n + 1, k, h => by
    by_cases n0 : n = 0
    · have : k = 0 := by omega
      subst n0
      rw [this]
      exact Int64.le_refl _
    · rw [bst_s n0]
      by_cases c : f n ≤ f (bst f n)
      · rw [if_pos c]
        by_cases e : k = n
        · rw [e]; exact c
        · exact bst_max n k (by omega)
      · rw [if_neg c]
        by_cases e : k = n
        · rw [e]; exact Int64.le_refl _
        · have h1 := bst_max (f := f) n k (by omega)
          have h2 : f (bst f n) ≤ f n := by
            rcases Int64.le_total (f n) (f (bst f n)) with q | q
            · exact absurd q c
            · exact q
          exact Int64.le_trans h1 h2
theorem bst_iff {f : Nat → Int64} {n i : Nat} (hi : i < n) : f i = f (bst f n) ↔ ∀ k, k < n → f k ≤ f i := by
  constructor
  · intro e k hk
    rw [e]; exact bst_max n k hk
  · intro h
    exact Int64.le_antisymm (bst_max n i hi) (h _ (bst_lt n (by omega)))
theorem atR_iff {σ : StT} {n L i j : Nat} (hi : i < bse L L) (hj : j < bse L L) : atR σ n L i j = true ↔ ∀ k, k < bse L L → mOf σ n L k j false ≤ mOf σ n L i j false ∧ mOf σ n L k i true ≤ mOf σ n L j i true := by
  unfold atR grV
  have e1 := bst_iff (f := fun s => mOf σ n L s j false) hi
  have e2 := bst_iff (f := fun s => mOf σ n L s i true) hj
  rw [Bool.and_eq_true, decide_eq_true_iff, decide_eq_true_iff, e1, e2]
  exact ⟨fun q k hk => ⟨q.1 k hk, q.2 k hk⟩, fun q => ⟨fun k hk => (q k hk).1, fun k hk => (q k hk).2⟩⟩
abbrev rsC (a k : Nat) : Prop := a = 109 ∨ a = 110 ∨ a = 111 ∨ (a = 87 ∧ k = 42)
theorem rs_st {a k : Nat} (q : rsC a k) : ¬ stC a k := by simp only [rsC] at q; simp only [stC]; omega
theorem rs8 {a k : Nat} (q : rsC a k) : 87 ≤ a ∧ a < 120 := by simp only [rsC] at q; omega
theorem at15 {i j : Nat} : (15 : Int32) * nI i + nI j = nI (15 * i + j) := by rw [show (15 : Int32) = nI 15 from rfl, pk_mul, nI_add]
theorem at118' (x y : Nat) : (100 : Int32) * nI x + nI y = nI (100 * x + y) := by rw [show (100 : Int32) = nI 100 from rfl, pk_mul, nI_add]
/-- the slates listed, the means of pairs -/
def SlR (M : Mem) (L s : Nat) : Prop := mI M 87 42 = nI s ∧ ∀ t, t < s → mI M 109 t = nI (nbr L t)
def MnR (M : Mem) (σ : StT) (n L i j : Nat) : Prop := mJ M 110 (15 * i + j) = mOf σ n L i j false ∧ mJ M 111 (15 * i + j) = mOf σ n L j i true
section REF
variable {M : Mem} {σ : StT} {c : CT} {w p : Nat → Nat} {h g : Int} {Q : Int32 → Mem → Prop} {QJ0 : Int64 → Mem → Prop} {QV0 : Mem → Prop}
theorem AbsR.rs {M' : Mem} (h : AbsR M c) (f : Fg rsC M M') : AbsR M' c := h.fg f (fun a k q => by simp only [rsC] at q; simp only [coC]; omega)
theorem sl_row {n L i : Nat} {K66 : Nat → Int32 → Int32 → Mem → Prop} (hm : MdOK M) (hr : RS M σ) (hn : 20 ≤ n ∧ n ≤ 50) (hL : L ≤ 5) (hLn : L * n ≤ 100) (hs : SlR M L (bse L L)) (hi : i < bse L L)
    (hk : ∀ M', Fg (fun a k => (a = 110 ∨ a = 111) ∧ 15 * i ≤ k ∧ k < 15 * i + 15) M M' → (∀ j, j < bse L L → MnR M' σ n L i j) → K66 87 (nI n) (nI (i + 1)) M') : ∃ m, lp_X13_findSlates_76 K66 QV0 m 87 (nI n) (nI i) 0 M := by
  have hc := bse_5 hL
  obtain ⟨i1, i2, i3, i4, i5⟩ := prd (n := n) (L := L) (by omega) hLn hi
  refine for_up (fun m j => ∀ M', Fg (fun a k => (a = 110 ∨ a = 111) ∧ 15 * i ≤ k ∧ k < 15 * i + 15) M M' → (∀ j', j' < j → MnR M' σ n L i j') → lp_X13_findSlates_76 K66 QV0 m 87 (nI n) (nI i) (nI j) M') (bse L L) (fun m M' f hz => ?_) (fun m j hj ih M' f hz => ?_) |> fun ⟨m, hx⟩ => ⟨m, hx M Fg.rf (fun j' hj' => absurd hj' (by omega))⟩
  · have m1 := hm.fg f
    unfold lp_X13_findSlates_76
    refine ⟨m1.1, fun _ => ?_, fun hn => absurd (by rw [f.I (by omega), hs.1]; exact nI_le (Nat.le_refl _) (by omega)) hn⟩
    rw [nI_1]; exact hk M' f hz
  · have m1 := hm.fg f
    have r1 := hr.fg f (fun a k q => by simp only [stC]; omega)
    obtain ⟨j1, j2, j3, j4, j5⟩ := prd (n := n) (L := L) (by omega) hLn hj
    have s1 : SlR M' L (bse L L) := ⟨by rw [f.I (by omega)]; exact hs.1, fun t ht => by rw [f.I (by omega)]; exact hs.2 t ht⟩
    have nd : ∀ t, t < bse L L → nI (nbr L t) / 10 = nI (pB L t) ∧ nI (nbr L t) - nI (nbr L t) / 10 * 10 = nI (pA L t) := fun t ht => by
      obtain ⟨t1, t2, -⟩ := prd (n := n) (L := L) (by omega) hLn ht
      have e1 : nbr L t / 10 = pB L t := by unfold nbr; omega
      have e2 : nbr L t % 10 = pA L t := by unfold nbr; omega
      have e3 : nbr L t < 100 := by unfold nbr; omega
      rw [show (10 : Int32) = nI 10 from rfl, pk_rem (by omega) (by omega) (by omega), pk_div (by omega) (by omega) (by omega), e1, e2]
      exact ⟨rfl, rfl⟩
    have hvi : vp_in (nI i) 15 := vp_in_nI (by omega) (by omega)
    have hvj : vp_in (nI j) 15 := vp_in_nI (by omega) (by omega)
    have hv2 : vp_in (nI (15 * i + j)) 225 := vp_in_nI (by omega) (by omega)
    unfold lp_X13_findSlates_76
    refine ⟨m1.1, fun hle => absurd (by rw [s1.1] at hle; exact hle) (nI_ge hj (by omega)), fun _ => ?_⟩
    rw [m1.r41, m1.n41, m1.r43, at15, nI_clamp (by omega), nI_clamp (by omega), nI_clamp (by omega), s1.2 i hi, s1.2 j hj, (nd i hi).2, (nd i hi).1, (nd j hj).2, (nd j hj).1, pk_mul, pk_mul, pk_mul, pk_mul]
    refine ⟨m1.k41, hvi, fun y1 e1 => ⟨hvi, fun y2 e2 => ⟨hvj, fun y3 e3 => ⟨hvj, fun y4 e4 => ?_⟩⟩⟩⟩
    rw [Nat.mul_comm] at e1 e2 e3 e4
    rw [e1, e2, e3, e4]
    refine S_R_meanBeside (al := false) m1 r1 i3 i4 j3 j4 ?_
    rw [m1.n43]
    refine ⟨m1.k43, hv2, fun M3 em => ?_⟩
    have f3 : Fg (fun a k => (a = 110 ∨ a = 111) ∧ 15 * i ≤ k ∧ k < 15 * i + 15) M M3 := by rw [em]; exact f.sJ ⟨Or.inl rfl, by omega, by omega⟩
    have m3 := hm.fg f3
    have r3 := hr.fg f3 (fun a k q => by simp only [stC]; omega)
    refine ⟨m3.1, S_R_meanBeside (al := true) m3 r3 j3 j4 i3 i4 ?_⟩
    rw [m3.r44, m3.n44]
    refine ⟨m3.k44, hv2, fun M4 en => ?_⟩
    rw [nI_1]
    refine ih M4 (by rw [en]; exact f3.sJ ⟨Or.inr rfl, by omega, by omega⟩) (fun j' hj' => ?_)
    unfold MnR
    refine ⟨?_, ?_⟩
    · rw [en, mJ_uJ, if_neg (show ¬ (110 : Nat) = 111 by decide), em, mJ_uJ, if_pos rfl]
      by_cases e : j' = j
      · rw [if_pos (by omega), e]; rfl
      · rw [if_neg (by omega)]; exact (hz j' (by omega)).1
    · rw [en, mJ_uJ, if_pos rfl]
      by_cases e : j' = j
      · rw [if_pos (by omega), e]; rfl
      · rw [if_neg (by omega), em, mJ_uJ, if_neg (show ¬ (111 : Nat) = 110 by decide)]; exact (hz j' (by omega)).2
theorem S_R_findSlates {n L : Nat} (hm : MdOK M) (hr : RS M σ) (hn : 20 ≤ n ∧ n ≤ 50) (hL : L = 100 / n)
    (hQ : ∀ M', Fg rsC M M' → SlR M' L (bse L L) → (∀ i j, i < bse L L → j < bse L L → MnR M' σ n L i j) → QV0 M') : wp_X13_findSlates 87 (nI n) M QV0 := by
  have hL2 : 2 ≤ L ∧ L ≤ 5 := by
    rw [hL]
    exact ⟨(Nat.le_div_iff_mul_le (by omega)).mpr (by omega), Nat.le_trans (Nat.div_le_div_left hn.1 (by omega)) (by omega)⟩
  have hLn : L * n ≤ 100 := by rw [hL]; exact Nat.div_mul_le_self _ _
  have st := fun b => stp (b := b) (n := n) (L := L) (by omega) hL
  have hc := bse_5 hL2.2
  have bse1 : ∀ b, bse L (b + 1) = bse L b + (L - b) := fun b => rfl
  refine ⟨hm.1, fun M1 e1 => ?_⟩
  have f1 : Fg rsC M M1 := by rw [e1]; exact Fg.pI (Or.inr (Or.inr (Or.inr ⟨rfl, rfl⟩)))
  have s1 : SlR M1 L 0 := ⟨by rw [e1, mI_uI, if_pos rfl, if_pos rfl]; rfl, fun t ht => absurd ht (by omega)⟩
  -- the means of all pairs
  have means : ∀ M2, Fg rsC M M2 → SlR M2 L (bse L L) → ∃ m, lp_X13_findSlates_66 QV0 m 87 (nI n) 0 M2 := by
    intro M2 f2 s2
    refine for_up (fun m i => ∀ M', Fg (fun a _k => a = 110 ∨ a = 111) M2 M' → (∀ i' j, i' < i → j < bse L L → MnR M' σ n L i' j) → lp_X13_findSlates_66 QV0 m 87 (nI n) (nI i) M') (bse L L) (fun m M' f hz => ?_) (fun m i hi ih M' f hz => ?_) |> fun ⟨m, hx⟩ => ⟨m, hx M2 Fg.rf (fun i' j hi' => absurd hi' (by omega))⟩
    · have s3 : SlR M' L (bse L L) := ⟨by rw [f.I (by omega)]; exact s2.1, fun t ht => by rw [f.I (by omega)]; exact s2.2 t ht⟩
      unfold lp_X13_findSlates_66
      refine ⟨((hm.fg f2).fg f).1, fun _ => hQ M' (f2.t2 (f.mono (fun a k q => by simp only [rsC]; omega))) s3 hz, fun hn => absurd (by rw [s3.1]; exact nI_le (Nat.le_refl _) (by omega)) hn⟩
    · have s3 : SlR M' L (bse L L) := ⟨by rw [f.I (by omega)]; exact s2.1, fun t ht => by rw [f.I (by omega)]; exact s2.2 t ht⟩
      have r3 := (hr.fg f2 (fun a k q => rs_st q)).fg f (fun a k q => by simp only [stC]; omega)
      unfold lp_X13_findSlates_66
      refine ⟨((hm.fg f2).fg f).1, fun hle => absurd (by rw [s3.1] at hle; exact hle) (nI_ge hi (by omega)), fun _ => sl_row ((hm.fg f2).fg f) r3 hn hL2.2 hLn s3 hi (fun M4 f4 h4 => ih M4 (f.t2 (f4.mono (fun a k q => q.1))) (fun i' j hi' hj => ?_))⟩
      by_cases e : i' = i
      · rw [e]; exact h4 j hj
      · have q := hz i' j (by omega) hj
        unfold MnR at q ⊢
        rw [f4.J (by omega), f4.J (by omega)]
        exact q
  refine for_up (fun m b => ∀ M', Fg rsC M M' → SlR M' L (bse L b) → lp_X13_findSlates_7 QV0 m 87 (nI n) (nI b) M') (L + 1) (fun m M' f hs => ?_) (fun m b hb ih M' f hs => ?_) |> fun ⟨m, hx⟩ => ⟨m, hx M1 f1 s1⟩
  · have hgt : 100 < (L + 1) * n := by have := mt (st (L + 1)).mp (by omega); omega
    have hle : (L + 1) * n ≤ 6 * 50 := Nat.mul_le_mul (by omega) hn.2
    unfold lp_X13_findSlates_7
    rw [pk_mul]
    rw [bse1, Nat.sub_self, Nat.add_zero] at hs
    exact ⟨fun _ => means M' f hs, fun z => absurd (nI_lt (a := 100) hgt (by omega)) z⟩
  · have hbn := (st b).mpr (by omega)
    unfold lp_X13_findSlates_7
    rw [pk_mul]
    refine ⟨fun z => absurd ((nI_lt31 (a := 100) (by omega) (by omega)).mp z) (by omega), fun _ y hy => ?_⟩
    have ey : y = nI (b + 1 + 0) := by rw [hy, nI_1]
    rw [ey]
    refine for_up (fun m' i => ∀ M2, Fg rsC M M2 → SlR M2 L (bse L b + i) → lp_X13_findSlates_19 (fun fx0 fx1 fx2 fM => lp_X13_findSlates_7 QV0 m fx0 fx1 fx2 fM) QV0 m' 87 (nI n) (nI b) (nI (b + 1 + i)) M2) (L - b) (fun m' M2 f2 hs2 => ?_) (fun m' i hi ih2 M2 f2 hs2 => ?_) |> fun ⟨m', hx⟩ => ⟨m', hx M' f hs⟩
    · have hgt : 100 < (b + 1 + (L - b)) * n := by have := mt (st (b + 1 + (L - b))).mp (by omega); omega
      have hle : (b + 1 + (L - b)) * n ≤ 6 * 50 := Nat.mul_le_mul (by omega) hn.2
      unfold lp_X13_findSlates_19
      rw [pk_mul]
      refine ⟨fun _ => ?_, fun z => absurd (nI_lt (a := 100) hgt (by omega)) z⟩
      rw [nI_1]
      rw [← bse1] at hs2
      exact ih M2 f2 hs2
    · have han := (st (b + 1 + i)).mpr (by omega)
      obtain ⟨qB, qA⟩ := pBA (L := L) (b := b) (i := i) (by omega) hi
      have m2 := hm.fg f2
      have hlt2 : bse L b + i < bse L L := by
        have : bse L (b + 1) ≤ bse L (b + 1 + (L - (b + 1))) := bse_mono _ _
        rw [show b + 1 + (L - (b + 1)) = L by omega, bse1] at this
        omega
      unfold lp_X13_findSlates_19
      rw [pk_mul]
      refine ⟨fun z => absurd ((nI_lt31 (a := 100) (by omega) (by omega)).mp z) (by omega), fun _ => ?_⟩
      rw [m2.r41, m2.n41, hs2.1, nI_clamp (by omega)]
      refine ⟨m2.1, m2.k41, vp_in_nI (by omega) (by omega), fun M3 e3 M4 e4 => ?_⟩
      have en : (10 : Int32) * nI b + nI (b + 1 + i) = nI (nbr L (bse L b + i)) := by
        unfold nbr
        rw [qB, qA, show (10 : Int32) = nI 10 from rfl, pk_mul, nI_add]
      have e42 : mI M3 87 42 = nI (bse L b + i) := by rw [e3, mI_uI, if_neg (by decide)]; exact hs2.1
      rw [e42] at e4
      rw [en] at e3
      rw [nI_1]
      refine ih2 M4 (by rw [e4, e3]; exact (f2.sI (Or.inl rfl)).sI (Or.inr (Or.inr (Or.inr ⟨rfl, rfl⟩)))) ⟨?_, fun t ht => ?_⟩
      · rw [e4, mI_uI, if_pos rfl, if_pos rfl, nI_1]; rfl
      · rw [e4, mI_uI, if_neg (by decide), e3, mI_uI, if_pos rfl]
        by_cases e : t = bse L b + i
        · rw [if_pos e, e]
        · rw [if_neg e]; exact hs2.2 t (by omega)
theorem S_R_rests {n L i j : Nat} (hm : MdOK M) (hs : SlR M L (bse L L)) (hM : ∀ i j, i < bse L L → j < bse L L → MnR M σ n L i j) (hL : L ≤ 5) (hi : i < bse L L) (hj : j < bse L L) (hQ : Q (bI (atR σ n L i j)) M) : wp_X13_rests 87 (nI i) (nI j) M Q := by
  have hc := bse_5 hL
  have ai := atR_iff (σ := σ) (n := n) hi hj
  refine for_up (fun m k => ∀ y : Bool, (y = true ↔ ∀ k', k' < k → mOf σ n L k' j false ≤ mOf σ n L i j false ∧ mOf σ n L k' i true ≤ mOf σ n L j i true) → lp_X13_rests_5 Q m 87 (nI i) (nI j) (bI y) (nI k) M) (bse L L) (fun m y hy => ?_) (fun m k hk ih y hy => ?_) |> fun ⟨m, h⟩ => ⟨m, h true ⟨fun _ k' hk' => absurd hk' (by omega), fun _ => rfl⟩⟩
  · unfold lp_X13_rests_5
    have ey : y = atR σ n L i j := by
      cases y
      · cases e : atR σ n L i j
        · rfl
        · exact absurd (hy.mpr (ai.mp e)) (by decide)
      · exact (ai.mpr (hy.mp rfl)).symm
    refine ⟨hm.1, fun _ => ⟨by cases y; (exact Or.inl rfl); exact Or.inr rfl, by rw [ey]; exact hQ⟩, fun hn => absurd (by rw [hs.1]; exact nI_le (Nat.le_refl _) (by omega)) hn⟩
  · have no : (y = false ∨ ¬ (mOf σ n L k j false ≤ mOf σ n L i j false ∧ mOf σ n L k i true ≤ mOf σ n L j i true)) → jn_X13_rests_76 (fun fx0 fx1 fx2 fx3 fx4 fM => lp_X13_rests_5 Q m fx0 fx1 fx2 fx3 fx4 fM) Q 87 (nI i) (nI j) (nI k) M := fun o => by
      have q := ih false ⟨fun z => (by cases z), fun z => by
        rcases o with o | o
        · rw [← o]; exact hy.mpr (fun k' hk' => z k' (by omega))
        · exact absurd (z k (by omega)) o⟩
      rw [← nI_1] at q
      exact q
    unfold lp_X13_rests_5
    refine ⟨hm.1, fun hle => absurd (by rw [hs.1] at hle; exact hle) (nI_ge hk (by omega)), fun _ => ⟨fun z => no (Or.inl ?_), fun z => ?_⟩⟩
    · cases y
      · rfl
      · exact absurd z (by decide)
    · have yy : y = true := by cases y; (exact absurd rfl z); rfl
      rw [hm.r43, hm.n43, hm.r44, hm.n44, at15, at15, at15, nI_clamp (by omega), nI_clamp (by omega), nI_clamp (by omega), (hM k j hk hj).1, (hM i j hi hj).1, (hM i j hi hj).2, (hM i k hi hk).2]
      refine ⟨hm.k43, vp_in_nI (by omega) (by omega), vp_in_nI (by omega) (by omega), fun q => no (Or.inr (fun o => absurd q (Int64.not_lt.mpr o.1))), fun q => ⟨hm.k44, vp_in_nI (by omega) (by omega), vp_in_nI (by omega) (by omega), fun q2 => no (Or.inr (fun o => absurd q2 (Int64.not_lt.mpr o.2))), fun q2 => ?_⟩⟩
      have q3 := ih true ⟨fun _ k' hk' => by
        by_cases e : k' = k
        · rw [e]; exact ⟨Int64.not_lt.mp q, Int64.not_lt.mp q2⟩
        · exact hy.mp yy k' (by omega), fun _ => rfl⟩
      rw [← nI_1] at q3
      exact q3
theorem S_X13_rest {n i : Int32} (h : AbsR M c) (hQ : ∀ M', Fg mdC8 M M' → AbsR M' c → Q (aRest c n i) M') : wp_X13_rest 87 n i M Q := by
  unfold aRest at hQ
  refine th0 h (fun M1 h1 f1 z1 => ?_)
  have q := hQ M1 f1 h1
  refine S_inY 20 50 (by omega) (by omega) rfl rfl (fun p1 => ⟨fun z => absurd z (by decide), fun _ => ⟨fun p2 => ⟨h1.1.1, S_R_isReady h1.1 h1.2.1 (fun r => ⟨fun _ => ⟨h1.1.1, ?_⟩, fun z => absurd z (by decide)⟩) (fun r => ⟨fun z => absurd rfl z, fun _ => ?_⟩)⟩, fun p2 => ?_⟩⟩) (fun p1 => ⟨fun _ => ?_, fun z => absurd rfl z⟩)
  · simp only [if_pos (show 20 ≤ ix n ∧ ix n ≤ 50 ∧ (-1 : Int32) ≤ i from ⟨p1.1, p1.2, p2⟩), if_pos r] at hQ
    obtain ⟨n, hn, rfl⟩ := ix_ex (x := n) (n := 51) (by omega) (by omega)
    rw [ix_nI (by omega)] at p1 hQ
    refine S_R_findSlates h1.1 h1.2.1 p1 rfl (fun M2 f2 hs hM => ?_)
    have h2 := h1.rs f2
    have q := hQ M2 (f1.t2 (f2.m8 (fun a k q => rs8 q))) h2
    have hL5 : 100 / n ≤ 5 := Nat.le_trans (Nat.div_le_div_left p1.1 (by omega)) (by omega)
    have hLn : 100 / n * n ≤ 100 := Nat.div_mul_le_self _ _
    generalize 100 / n = L at *
    have hc := bse_5 hL5
    have nb : ∀ t, t < bse L L → nbr L t < 100 := fun t ht => by
      obtain ⟨t1, t2, -⟩ := prd (n := n) (L := L) (by omega) hLn ht
      unfold nbr; omega
    have bb := fun h' o' => bef_le (P := atR (cS c) n L) (cnt := bse L L) (h := h') (o := o') (by omega)
    refine for_up (fun m a => (∀ h' o', h' < a → ¬ hit (atR (cS c) n L) (bse L L) i h' o') → lp_X13_rest_46 Q m 87 i (nI (bef (atR (cS c) n L) (bse L L) a 0)) (nI a) M2) (bse L L) (fun m hno => ?_) (fun m a ha ih hno => ?_) |> fun ⟨m, hx⟩ => ⟨m, hx (fun h' o' hh => absurd hh (by omega))⟩
    · unfold lp_X13_rest_46
      have e := rsV_no (num := nbr L) (fun h' o' hh => hno h' o' hh)
      rw [e] at q
      refine ⟨h2.1.1, fun _ => ⟨fun z => ?_, fun z => ?_⟩, fun hn => absurd (by rw [hs.1]; exact nI_le (Nat.le_refl _) (by omega)) hn⟩
      · rw [if_neg (fun y => by rw [y] at z; exact absurd z (by decide))] at q; exact q
      · rw [if_pos (by
          have e1 := Int32.le_iff_toInt_le.mp p2
          have e2 := mt Int32.le_iff_toInt_le.mpr z
          have e3 : (-1 : Int32).toInt = -1 := rfl
          have e4 : (0 : Int32).toInt = 0 := rfl
          apply Int32.toInt_inj.mp
          omega)] at q
        exact q
    · unfold lp_X13_rest_46
      refine ⟨h2.1.1, fun hle => absurd (by rw [hs.1] at hle; exact hle) (nI_ge ha (by omega)), fun _ => ?_⟩
      refine for_up (fun m' o => (∀ o', o' < o → ¬ hit (atR (cS c) n L) (bse L L) i a o') → lp_X13_rest_58 (fun fx0 fx2 fx3 fx4 fM => lp_X13_rest_46 Q m fx0 fx2 fx3 fx4 fM) Q m' 87 i (nI (bef (atR (cS c) n L) (bse L L) a o)) (nI a) (nI o) M2) (bse L L) (fun m' hno2 => ?_) (fun m' o ho ih2 hno2 => ?_) |> fun ⟨m', hx⟩ => ⟨m', hx (fun o' hh => absurd hh (by omega))⟩
      · unfold lp_X13_rest_58
        refine ⟨h2.1.1, fun _ => ?_, fun hn => absurd (by rw [hs.1]; exact nI_le (Nat.le_refl _) (by omega)) hn⟩
        have q3 := ih (fun h' o' hh hx => by
          by_cases e : h' = a
          · rw [e] at hx; exact hno2 o' hx.2.1 hx
          · exact hno h' o' (by omega) hx)
        rw [nI_1]
        exact q3
      · unfold lp_X13_rest_58
        refine ⟨h2.1.1, fun hle => absurd (by rw [hs.1] at hle; exact hle) (nI_ge ho (by omega)), fun _ => S_R_rests h2.1 hs hM hL5 ha ho ?_⟩
        have bs : bef (atR (cS c) n L) (bse L L) a (o + 1) = bef (atR (cS c) n L) (bse L L) a o + bit (atR (cS c) n L a o = true) 1 := by
          unfold bef
          rw [Nat.add_assoc]; rfl
        rw [bs] at ih2
        refine ⟨fun z => ?_, fun z => ?_⟩
        · have z := bI_0.mp z
          rw [bit_f z, Nat.add_zero, ← nI_1] at ih2
          exact ih2 (fun o' ho' hx => by
            by_cases e : o' = o
            · rw [e] at hx; exact z hx.2.2.1
            · exact hno2 o' (by omega) hx)
        · have zt : atR (cS c) n L a o = true := by
            cases e : atR (cS c) n L a o
            · rw [e] at z; exact absurd rfl z
            · rfl
          rw [bit_t zt, ← nI_1 o, ← nI_1] at ih2
          refine ⟨fun y => ih2 (fun o' ho' hx => ?_), fun y => ?_⟩
          · by_cases e : o' = o
            · rw [e] at hx; exact y hx.2.2.2
            · exact hno2 o' (by omega) hx
          · have e := rsV_hit (num := nbr L) (show bse L L ≤ 55 by omega) (⟨ha, ho, zt, y⟩ : hit (atR (cS c) n L) (bse L L) i a o)
            rw [e] at q
            rw [h2.1.r41, h2.1.n41, nI_clamp (by omega), nI_clamp (by omega), hs.2 a ha, hs.2 o ho, at118' (nbr L a) (nbr L o)]
            exact ⟨h2.1.1, h2.1.k41, vp_in_nI (by omega) (by omega), vp_in_nI (by omega) (by omega), q⟩
  · rw [if_pos ⟨p1.1, p1.2, p2⟩, if_neg r] at q; exact q
  · rw [if_neg (fun z => p2 z.2.2)] at q; exact q
  · rw [if_neg (fun z => p1 ⟨z.1, z.2.1⟩)] at q; exact q
end REF
