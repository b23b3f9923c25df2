/-! STEPS: pairs at rest -/
def bef (P : Nat → Nat → Bool) (cnt h o : Nat) : Nat := sumN (fun h' => sumN (fun o' => bit (P h' o' = true) 1) cnt) h + sumN (fun o' => bit (P h o' = true) 1) o
def hit (P : Nat → Nat → Bool) (cnt : Nat) (i : Int32) (h o : Nat) : Prop := h < cnt ∧ o < cnt ∧ P h o = true ∧ nI (bef P cnt h o) = i
noncomputable def rsV (P : Nat → Nat → Bool) (cnt : Nat) (num : Nat → Nat) (i : Int32) : Int32 :=
  @dite Int32 (∃ x : Nat × Nat, hit P cnt i x.1 x.2) (Classical.propDecidable _) (fun h => nI (100 * num h.choose.1 + num h.choose.2)) (fun _ => if i = -1 then nI (bef P cnt cnt 0) else -4)
theorem bef_le {P : Nat → Nat → Bool} {cnt h o : Nat} (hc : cnt ≤ 55) (hh : h ≤ cnt) (ho : o ≤ cnt) : bef P cnt h o ≤ 3080 := by
  have b1 : ∀ h', sumN (fun o' => bit (P h' o' = true) 1) cnt ≤ cnt * 1 := fun h' => sumN_le _ (fun _ _ => bit_le)
  have b2 := sumN_le (f := fun h' => sumN (fun o' => bit (P h' o' = true) 1) cnt) (c := 55) h (fun h' _ => by have := b1 h'; omega)
  have b3 := sumN_le (f := fun o' => bit (P h o' = true) 1) (c := 1) o (fun _ _ => bit_le)
  unfold bef
  omega
theorem bef_o {P : Nat → Nat → Bool} {cnt h o o2 : Nat} (h1 : o < o2) (hp : P h o = true) : bef P cnt h o < bef P cnt h o2 := by
  have m := sumN_mono (f := fun o' => bit (P h o' = true) 1) (i := o + 1) (n := o2) (by omega)
  have e : sumN (fun o' => bit (P h o' = true) 1) (o + 1) = sumN (fun o' => bit (P h o' = true) 1) o + bit (P h o = true) 1 := rfl
  rw [e, bit_t hp] at m
  unfold bef
  omega
theorem bef_h {P : Nat → Nat → Bool} {cnt h h2 o o2 : Nat} (h1 : h < h2) (ho : o < cnt) (hp : P h o = true) : bef P cnt h o < bef P cnt h2 o2 := by
  have m := sumN_mono (f := fun h' => sumN (fun o' => bit (P h' o' = true) 1) cnt) (i := h + 1) (n := h2) (by omega)
  have e : sumN (fun h' => sumN (fun o' => bit (P h' o' = true) 1) cnt) (h + 1) = sumN (fun h' => sumN (fun o' => bit (P h' o' = true) 1) cnt) h + sumN (fun o' => bit (P h o' = true) 1) cnt := rfl
  have k := bef_o (P := P) (cnt := cnt) (h := h) (o := o) (o2 := cnt) ho hp
  unfold bef at *
  omega
theorem hit_1 {P : Nat → Nat → Bool} {cnt h o h2 o2 : Nat} {i : Int32} (hc : cnt ≤ 55) (a : hit P cnt i h o) (b : hit P cnt i h2 o2) : h = h2 ∧ o = o2 := by
  obtain ⟨a1, a2, a3, a4⟩ := a
  obtain ⟨b1, b2, b3, b4⟩ := b
  have l1 := bef_le (P := P) hc (show h ≤ cnt by omega) (show o ≤ cnt by omega)
  have l2 := bef_le (P := P) hc (show h2 ≤ cnt by omega) (show o2 ≤ cnt by omega)
  have e := (nI_eq (by omega) (by omega)).mp (a4.trans b4.symm)
  rcases Nat.lt_trichotomy h h2 with c | c | c
  · have := bef_h (P := P) (o2 := o2) c a2 a3; omega
  · subst c
    rcases Nat.lt_trichotomy o o2 with d | d | d
    · have := bef_o (P := P) (cnt := cnt) d a3; omega
    · exact ⟨rfl, d⟩
    · have := bef_o (P := P) (cnt := cnt) d b3; omega
  · have := bef_h (P := P) (o2 := o) c b2 b3; omega
theorem rsV_hit {P : Nat → Nat → Bool} {cnt h o : Nat} {num : Nat → Nat} {i : Int32} (hc : cnt ≤ 55) (a : hit P cnt i h o) : rsV P cnt num i = nI (100 * num h + num o) := by
  have ex : ∃ x : Nat × Nat, hit P cnt i x.1 x.2 := ⟨(h, o), a⟩
  have e := hit_1 hc a ex.choose_spec
  unfold rsV
  rw [dif_pos ex, ← e.1, ← e.2]
theorem rsV_no {P : Nat → Nat → Bool} {cnt : Nat} {num : Nat → Nat} {i : Int32} (a : ∀ h o, h < cnt → ¬ hit P cnt i h o) : rsV P cnt num i = if i = -1 then nI (bef P cnt cnt 0) else -4 := by
  unfold rsV
  rw [dif_neg (fun ⟨x, hx⟩ => a x.1 x.2 hx.1 hx)]
def mOf (σ : StT) (n L s o : Nat) (al : Bool) : Int64 := jI (mbB σ (pB L s * n) (pA L s * n) (pB L o * n) (pA L o * n) al)
def grV (σ : StT) (n L o : Nat) (al : Bool) : Int64 := mOf σ n L (bst (fun s => mOf σ n L s o al) (bse L L)) o al
def atR (σ : StT) (n L h o : Nat) : Bool := decide (mOf σ n L h o false = grV σ n L o false) && decide (mOf σ n L o h true = grV σ n L h true)
def nbr (L s : Nat) : Nat := 10 * pB L s + pA L s
section STEPS
variable {M : Mem} {s t e n L : Nat} {σ : StT} {w : Nat → Nat} {hh g : Int} {c : Nat} {Q : Int32 → Mem → Prop} {QJ0 : Int64 → Mem → Prop} {QV0 : Mem → Prop}
theorem prd {n L u : Nat} (hn : 1 ≤ n) (hLn : L * n ≤ 100) (hu : u < bse L L) : pB L u < pA L u ∧ pA L u ≤ L ∧ pB L u * n ≤ 100 ∧ pA L u * n ≤ 100 ∧ pB L u * n < pA L u * n := by
  obtain ⟨p1, p2⟩ := pr_lt hu
  have m1 := Nat.mul_le_mul_right n p2
  have m2 := Nat.mul_lt_mul_of_pos_right p1 (show 0 < n by omega)
  omega
theorem S_X5_meanOf {u o : Nat} {al : Bool} (hp : SpOK M e) (hl : SlAt M e L) (hL : 1 ≤ L ∧ L ≤ 10) (hn : 1 ≤ n ∧ L * n ≤ 100) (hs : StAt M s σ) (hu : u < bse L L) (ho : o < bse L L) (hQ : QJ0 (mOf σ n L u o al) M) : wp_X5_meanOf e s (nI n) (nI u) (nI o) (bI al) M QJ0 := by
  have tot := bse_le hL.2
  obtain ⟨k1, ⟨r4, r5, -⟩, ⟨kk1, kn1, kk2, kn2⟩, -⟩ := hp
  obtain ⟨p1, p2, p3, p4, p5⟩ := prd hn.1 hn.2 hu
  obtain ⟨q1, q2, q3, q4, q5⟩ := prd hn.1 hn.2 ho
  obtain ⟨s1, s2⟩ := hl.2 u hu
  obtain ⟨t1, t2⟩ := hl.2 o ho
  unfold wp_X5_meanOf
  rw [r4, r5, kn1, kn2, nI_clamp (by omega), nI_clamp (by omega), s1, s2, t1, t2, pk_mul, pk_mul, pk_mul, pk_mul]
  exact ⟨k1, kk1, vp_in_nI (by omega) (by omega), kk2, vp_in_nI (by omega) (by omega), vp_in_nI (by omega) (by omega), vp_in_nI (by omega) (by omega), hs.1.1, S_X6_meanBeside hs p3 p4 q3 q4 hQ⟩
theorem S_X5_greatestAgainst {o : Nat} {al : Bool} (hp : SpOK M e) (hl : SlAt M e L) (hL : 2 ≤ L ∧ L ≤ 10) (hn : 1 ≤ n ∧ L * n ≤ 100) (hs : StAt M s σ) (ho : o < bse L L) (hQ : QJ0 (grV σ n L o al) M) : wp_X5_greatestAgainst e s (nI n) (nI o) (bI al) M QJ0 := by
  have tot := bse_le hL.2
  refine for_up (fun m u => ∀ x : Int64, (0 < u → x = mOf σ n L (bst (fun s => mOf σ n L s o al) u) o al) → lp_X5_greatestAgainst_6 QJ0 m e s (nI n) (nI o) (bI al) x (nI u) M) (bse L L) (fun m x hx => ?_) (fun m u hu ih x hx => ?_) |> fun ⟨m, hm⟩ => ⟨m, hm 0 (fun z => absurd z (by omega))⟩
  · unfold lp_X5_greatestAgainst_6
    refine ⟨hp.1, fun _ => ?_, fun hn => absurd (by rw [hl.1]; exact nI_le (Nat.le_refl _) (by omega)) hn⟩
    rw [hx (by omega)]
    exact hQ
  · unfold lp_X5_greatestAgainst_6
    refine ⟨hp.1, fun hle => absurd (by rw [hl.1] at hle; exact hle) (nI_ge hu (by omega)), fun _ => S_X5_meanOf hp hl (by omega) hn hs hu ho ?_⟩
    have e0 : nI u = (0 : Int32) ↔ u = 0 := nI_eq (b := 0) (by omega) (by omega)
    unfold jn_X5_greatestAgainst_41 jn_X5_greatestAgainst_48
    rw [nI_1]
    refine ⟨fun z => ih _ (fun _ => ?_), fun z => ⟨fun y => ih _ (fun _ => ?_), fun y => ih _ (fun _ => ?_)⟩⟩
    · have z := e0.mp z; subst z; rfl
    · have z := mt e0.mpr z
      have hx' := hx (by omega)
      rw [hx'] at y ⊢
      have e1 : bst (fun s => mOf σ n L s o al) (u + 1) = bst (fun s => mOf σ n L s o al) u := by
        show (if u = 0 then 0 else if _ then _ else u) = _
        rw [if_neg z, if_pos y]
      rw [e1]
    · have z := mt e0.mpr z
      have hx' := hx (by omega)
      rw [hx'] at y
      have e1 : bst (fun s => mOf σ n L s o al) (u + 1) = u := by
        show (if u = 0 then 0 else if _ then _ else u) = _
        rw [if_neg z, if_neg y]
      rw [e1]
theorem S_X5_numberOf {u : Nat} (hp : SpOK M e) (hl : SlAt M e L) (hL : L ≤ 10) (hu : u < bse L L) (hQ : Q (nI (nbr L u)) M) : wp_X5_numberOf e (nI u) M Q := by
  have tot := bse_le hL
  obtain ⟨k1, ⟨r4, r5, -⟩, ⟨kk1, kn1, kk2, kn2⟩, -⟩ := hp
  obtain ⟨s1, s2⟩ := hl.2 u hu
  unfold wp_X5_numberOf
  rw [r4, r5, kn1, kn2, nI_clamp (by omega), s1, s2, show (10 : Int32) = nI 10 from rfl, pk_mul, nI_add]
  exact ⟨k1, kk1, vp_in_nI (by omega) (by omega), kk2, vp_in_nI (by omega) (by omega), hQ⟩
theorem S_X5_atRest {i : Int32} (hp : SpOK M e) (hn : 10 ≤ n ∧ n ≤ 50) (hs : StAt M s σ) (hap : apart s 8 e 11)
    (hQ : ∀ M', Fr (spA e) M M' → Q (rsV (atR σ n (100 / n)) (bse (100 / n) (100 / n)) (nbr (100 / n)) i) M') : wp_X5_atRest e s (nI n) i M Q := by
  refine ⟨hp.1, S_X5_list hp hn (fun M2 f2 sl => ?_)⟩
  have hL : 2 ≤ 100 / n ∧ 100 / n ≤ 10 := by
    have h1 := Nat.div_le_div_left (a := 100) hn.1 (by omega)
    have h2 := Nat.div_le_div_left (a := 100) hn.2 (by omega)
    omega
  have hLn : 100 / n * n ≤ 100 := Nat.div_mul_le_self 100 n
  generalize 100 / n = L at *
  have tot := bse_le hL.2
  have f2' : Fr (spA e) M M2 := f2.mono (fun x hx => by simp only [spA]; omega)
  -- the pairs
  have pairs : ∀ M', Fr (spA e) M M' → SlAt M' e L → (∀ o, o < bse L L → mJ M' (e + 9) o = grV σ n L o false ∧ mJ M' (e + 10) o = grV σ n L o true) → ∃ m, lp_X5_atRest_61 Q m e s (nI n) i 0 0 M' := by
    intro M' fr sl hg
    have pa := hp.fr fr
    have sa : StAt M' s σ := hs.fr fr (by unfold apart at hap; simp only [spA]; omega) (by unfold apart at hap; simp only [spA]; omega) (by unfold apart at hap; simp only [spA]; omega) (by unfold apart at hap; simp only [spA]; omega) (by unfold apart at hap; simp only [spA]; omega) (by unfold apart at hap; simp only [spA]; omega)
    obtain ⟨k1, ⟨r4, r5, -, -, -, -, r12, r13⟩, ⟨kk1, kn1, kk2, kn2⟩, -, -, -, kk9, kn9, kk10, kn10⟩ := id pa
    refine for_up (fun m h => (∀ h', h' < h → ∀ o', ¬ hit (atR σ n L) (bse L L) i h' o') → lp_X5_atRest_61 Q m e s (nI n) i (nI (bef (atR σ n L) (bse L L) h 0)) (nI h) M') (bse L L) (fun m hno => ?_) (fun m h hh ih hno => ?_) |> fun ⟨m, hm⟩ => ⟨m, hm (fun h' q => absurd q (by omega))⟩
    · unfold lp_X5_atRest_61
      have e9 := rsV_no (num := nbr L) (fun h o hh => hno h hh o)
      have hq := hQ M' fr
      rw [e9] at hq
      refine ⟨k1, fun _ => ⟨fun z => ?_, fun z => ?_⟩, fun hn => absurd (by rw [sl.1]; exact nI_le (Nat.le_refl _) (by omega)) hn⟩
      · rw [if_neg z] at hq; exact hq
      · rw [if_pos z] at hq; exact hq
    · unfold lp_X5_atRest_61
      refine ⟨k1, fun hle => absurd (by rw [sl.1] at hle; exact hle) (nI_ge hh (by omega)), fun _ => ?_⟩
      refine for_up (fun m2 o => (∀ o', o' < o → ¬ hit (atR σ n L) (bse L L) i h o') → lp_X5_atRest_73 (fun fx0 fx1 fx2 fx3 fx4 fx5 fM => lp_X5_atRest_61 Q m fx0 fx1 fx2 fx3 fx4 fx5 fM) Q m2 e s (nI n) i (nI (bef (atR σ n L) (bse L L) h o)) (nI h) (nI o) M') (bse L L) (fun m2 hno2 => ?_) (fun m2 o ho ih2 hno2 => ?_) |> fun ⟨m2, hm2⟩ => ⟨m2, hm2 (fun o' q => absurd q (by omega))⟩
      · unfold lp_X5_atRest_73
        refine ⟨k1, fun _ => ?_, fun hn => absurd (by rw [sl.1]; exact nI_le (Nat.le_refl _) (by omega)) hn⟩
        rw [nI_1]
        have e1 : bef (atR σ n L) (bse L L) (h + 1) 0 = bef (atR σ n L) (bse L L) h (bse L L) := rfl
        rw [← e1]
        refine ih (fun h' hh' o' ho' => ?_)
        by_cases c : h' = h
        · subst c; exact hno2 o' ho'.2.1 ho'
        · exact hno h' (by omega) o' ho'
      · have bl := bef_le (P := atR σ n L) tot (show h ≤ bse L L by omega) (show o ≤ bse L L by omega)
        obtain ⟨g1, -⟩ := hg o ho
        obtain ⟨-, g2⟩ := hg h hh
        have next : atR σ n L h o = false → jn_X5_atRest_152 (fun fx0 fx1 fx2 fx3 fx4 fx5 fM => lp_X5_atRest_61 Q m fx0 fx1 fx2 fx3 fx4 fx5 fM) (fun fx0 fx1 fx2 fx3 fx4 fx5 fx6 fM => lp_X5_atRest_73 (fun fx0 fx1 fx2 fx3 fx4 fx5 fM => lp_X5_atRest_61 Q m fx0 fx1 fx2 fx3 fx4 fx5 fM) Q m2 fx0 fx1 fx2 fx3 fx4 fx5 fx6 fM) Q e s (nI n) i (nI (bef (atR σ n L) (bse L L) h o)) (nI h) (nI o) M' := by
          intro hf
          unfold jn_X5_atRest_152
          rw [nI_1]
          have e1 : bef (atR σ n L) (bse L L) h (o + 1) = bef (atR σ n L) (bse L L) h o := by
            show _ + (_ + bit (atR σ n L h o = true) 1) = _
            rw [bit_f (by rw [hf]; decide)]
            rfl
          rw [e1] at ih2
          refine ih2 (fun o' ho' hx => ?_)
          by_cases c : o' = o
          · subst c; have := hx.2.2.1; rw [hf] at this; exact absurd this (by decide)
          · exact hno2 o' (by omega) hx
        unfold lp_X5_atRest_73
        refine ⟨k1, fun hle => absurd (by rw [sl.1] at hle; exact hle) (nI_ge ho (by omega)), fun _ => ?_⟩
        refine S_X5_meanOf (al := false) pa sl (by omega) (by omega) sa hh ho ?_
        rw [r12, kn9, nI_clamp (by omega), g1]
        refine ⟨k1, kk9, vp_in_nI (by omega) (by omega), fun z => next ?_, fun z => ?_⟩
        · unfold atR; rw [decide_eq_false z]; rfl
        · refine S_X5_meanOf (al := true) pa sl (by omega) (by omega) sa ho hh ?_
          rw [r13, kn10, nI_clamp (by omega), g2]
          refine ⟨k1, kk10, vp_in_nI (by omega) (by omega), fun y => next ?_, fun y => ?_⟩
          · unfold atR; rw [decide_eq_false y, Bool.and_false]
          · have hT : atR σ n L h o = true := by unfold atR; rw [decide_eq_true z, decide_eq_true y]; rfl
            refine ⟨fun x => ?_, fun x => ?_⟩
            · unfold jn_X5_atRest_152
              rw [nI_1, nI_1]
              have e1 : bef (atR σ n L) (bse L L) h (o + 1) = bef (atR σ n L) (bse L L) h o + 1 := by
                show _ + (_ + bit (atR σ n L h o = true) 1) = _
                rw [bit_t hT]
                rfl
              rw [e1] at ih2
              refine ih2 (fun o' ho' hx => ?_)
              by_cases c : o' = o
              · subst c; exact x hx.2.2.2
              · exact hno2 o' (by omega) hx
            · refine S_X5_numberOf pa sl hL.2 hh ⟨k1, S_X5_numberOf pa sl hL.2 ho ?_⟩
              have hq := hQ M' fr
              rw [rsV_hit tot ⟨hh, ho, hT, x⟩] at hq
              rw [show (100 : Int32) = nI 100 from rfl, pk_mul, nI_add]
              exact hq
  -- the greatest
  refine for_up (fun m u => ∀ M', Fr (spA e) M M' → SlAt M' e L → (∀ o, o < u → mJ M' (e + 9) o = grV σ n L o false ∧ mJ M' (e + 10) o = grV σ n L o true) → lp_X5_atRest_8 Q m e s (nI n) i (nI u) M') (bse L L) (fun m M' fr sl hg => ?_) (fun m u hu ih M' fr sl hg => ?_) |> fun ⟨m, hm⟩ => ⟨m, hm M2 f2' sl (fun o ho => absurd ho (by omega))⟩
  · have pa := hp.fr fr
    unfold lp_X5_atRest_8
    exact ⟨pa.1, fun _ => pairs M' fr sl hg, fun hn => absurd (by rw [sl.1]; exact nI_le (Nat.le_refl _) (by omega)) hn⟩
  · have pa := hp.fr fr
    have sa : StAt M' s σ := hs.fr fr (by unfold apart at hap; simp only [spA]; omega) (by unfold apart at hap; simp only [spA]; omega) (by unfold apart at hap; simp only [spA]; omega) (by unfold apart at hap; simp only [spA]; omega) (by unfold apart at hap; simp only [spA]; omega) (by unfold apart at hap; simp only [spA]; omega)
    obtain ⟨k1, ⟨r4, r5, -, -, -, -, r12, r13⟩, ⟨kk1, kn1, kk2, kn2⟩, -, -, -, kk9, kn9, kk10, kn10⟩ := id pa
    unfold lp_X5_atRest_8
    refine ⟨k1, fun hle => absurd (by rw [sl.1] at hle; exact hle) (nI_ge hu (by omega)), fun _ => ?_⟩
    refine S_X5_greatestAgainst (al := false) pa sl hL (by omega) sa hu ?_
    rw [r12, kn9, nI_clamp (by omega)]
    refine ⟨kk9, vp_in_nI (by omega) (by omega), fun M48 e48 => ?_⟩
    have g : Fr (fun x => x = e + 9) M' M48 := by rw [e48]; exact Fr.uJ rfl
    have pb := pa.fr g
    have sb : StAt M48 s σ := sa.fr g (by unfold apart at hap; omega) (by unfold apart at hap; omega) (by unfold apart at hap; omega) (by unfold apart at hap; omega) (by unfold apart at hap; omega) (by unfold apart at hap; omega)
    have slb : SlAt M48 e L := by
      refine ⟨by rw [g.I (by omega)]; exact sl.1, ?_⟩
      rw [g.I (by omega), g.I (by omega)]
      exact sl.2
    refine ⟨pb.1, S_X5_greatestAgainst (al := true) pb slb hL (by omega) sb hu ?_⟩
    rw [pb.2.1.2.2.2.2.2.2.2, pb.2.2.2.2.2.2.2.2.2]
    refine ⟨pb.2.2.2.2.2.2.2.2.1, vp_in_nI (by omega) (by omega), fun M54 e54 => ?_⟩
    have g2 : Fr (fun x => x = e + 10) M48 M54 := by rw [e54]; exact Fr.uJ rfl
    rw [nI_1]
    refine ih M54 ((fr.t2 (g.mono (fun x hx => by simp only [spA]; omega))).t2 (g2.mono (fun x hx => by simp only [spA]; omega))) ⟨by rw [g2.I (by omega)]; exact slb.1, ?_⟩ (fun o ho => ?_)
    · rw [g2.I (by omega), g2.I (by omega)]
      exact slb.2
    · by_cases c : o = u
      · subst c
        rw [e54, mJ_uJ, if_neg (by omega), mJ_uJ, if_pos rfl, if_pos rfl, e48, mJ_uJ, if_pos rfl, if_pos rfl]
        exact ⟨rfl, rfl⟩
      · obtain ⟨q1, q2⟩ := hg o (by omega)
        rw [e54, mJ_uJ, if_neg (by omega), mJ_uJ, if_pos rfl, if_neg c, e48, mJ_uJ, if_pos rfl, if_neg c, mJ_uJ, if_neg (by omega)]
        exact ⟨q1, q2⟩
end STEPS
