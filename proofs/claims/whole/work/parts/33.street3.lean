/-! FRAMES: what a method leaves as it was -/
def Fr (A : Nat → Prop) (M M' : Mem) : Prop := mT M' = mT M ∧ mK M' = mK M ∧ mN M' = mN M ∧ mR M' = mR M ∧ ∀ a, ¬ A a → mI M' a = mI M a ∧ mJ M' a = mJ M a
theorem Fr.rf {A : Nat → Prop} {M : Mem} : Fr A M M := ⟨rfl, rfl, rfl, rfl, fun _ _ => ⟨rfl, rfl⟩⟩
theorem Fr.tr {A B C : Nat → Prop} {M M1 M2 : Mem} (h1 : Fr A M M1) (h2 : Fr B M1 M2) (hA : ∀ a, A a → C a) (hB : ∀ a, B a → C a) : Fr C M M2 :=
  ⟨h2.1.trans h1.1, h2.2.1.trans h1.2.1, h2.2.2.1.trans h1.2.2.1, h2.2.2.2.1.trans h1.2.2.2.1, fun a ha => ⟨(h2.2.2.2.2 a (fun q => ha (hB a q))).1.trans (h1.2.2.2.2 a (fun q => ha (hA a q))).1, (h2.2.2.2.2 a (fun q => ha (hB a q))).2.trans (h1.2.2.2.2 a (fun q => ha (hA a q))).2⟩⟩
theorem Fr.mono {A B : Nat → Prop} {M M' : Mem} (h : Fr A M M') (hB : ∀ a, A a → B a) : Fr B M M' := ⟨h.1, h.2.1, h.2.2.1, h.2.2.2.1, fun a ha => h.2.2.2.2 a (fun q => ha (hB a q))⟩
theorem Fr.t2 {A : Nat → Prop} {M M1 M2 : Mem} (h1 : Fr A M M1) (h2 : Fr A M1 M2) : Fr A M M2 := h1.tr h2 (fun _ h => h) (fun _ h => h)
theorem Fr.uI {A : Nat → Prop} {M : Mem} {a k : Nat} {v : Int32} (h : A a) : Fr A M (uI M a k v) := ⟨rfl, rfl, rfl, rfl, fun b hb => ⟨up2_ne (fun e => hb (by rw [e]; exact h)), rfl⟩⟩
theorem Fr.uJ {A : Nat → Prop} {M : Mem} {a k : Nat} {v : Int64} (h : A a) : Fr A M (uJ M a k v) := ⟨rfl, rfl, rfl, rfl, fun b hb => ⟨rfl, up2_ne (fun e => hb (by rw [e]; exact h))⟩⟩
theorem Fr.wI {A : Nat → Prop} {M : Mem} {a : Nat} {f : Nat → Int32} (h : A a) : Fr A M (wI M a f) := ⟨rfl, rfl, rfl, rfl, fun b hb => ⟨up1_ne (fun e => hb (by rw [e]; exact h)), rfl⟩⟩
theorem Fr.wJ {A : Nat → Prop} {M : Mem} {a : Nat} {f : Nat → Int64} (h : A a) : Fr A M (wJ M a f) := ⟨rfl, rfl, rfl, rfl, fun b hb => ⟨rfl, up1_ne (fun e => hb (by rw [e]; exact h))⟩⟩
theorem Fr.I {A : Nat → Prop} {M M' : Mem} (h : Fr A M M') {a : Nat} (ha : ¬ A a) : mI M' a = mI M a := (h.2.2.2.2 a ha).1
theorem Fr.J {A : Nat → Prop} {M M' : Mem} (h : Fr A M M') {a : Nat} (ha : ¬ A a) : mJ M' a = mJ M a := (h.2.2.2.2 a ha).2
theorem Fr.K {A : Nat → Prop} {M M' : Mem} (h : Fr A M M') : mK M' = mK M := h.2.1
theorem Fr.N {A : Nat → Prop} {M M' : Mem} (h : Fr A M M') : mN M' = mN M := h.2.2.1
theorem Fr.R {A : Nat → Prop} {M M' : Mem} (h : Fr A M M') : mR M' = mR M := h.2.2.2.1
theorem StOK.fr {A : Nat → Prop} {M M' : Mem} {s : Nat} (h : StOK M s) (f : Fr A M M') : StOK M' s := by
  unfold StOK
  rw [f.K, f.N, f.R]
  exact h
theorem StAt.fr {A : Nat → Prop} {M M' : Mem} {s : Nat} {σ : StT} (h : StAt M s σ) (f : Fr A M M') (h0 : ¬ A s) (h1 : ¬ A (s + 1)) (h2 : ¬ A (s + 2)) (h3 : ¬ A (s + 3)) (h4 : ¬ A (s + 4)) (h5 : ¬ A (s + 5)) : StAt M' s σ := by
  refine ⟨h.1.fr f, h.2.1, ?_⟩
  rw [f.I h0, f.I h1, f.I h2, f.I h3, f.I h4, f.I h5]
  exact h.2.2
theorem StTb.fr {A : Nat → Prop} {M M' : Mem} {s : Nat} {σ : StT} (h : StTb M s σ) (f : Fr A M M') (hA : ∀ a, s ≤ a → a < s + 8 → ¬ A a) : StTb M' s σ := by
  refine ⟨h.1.fr f (hA _ (by omega) (by omega)) (hA _ (by omega) (by omega)) (hA _ (by omega) (by omega)) (hA _ (by omega) (by omega)) (hA _ (by omega) (by omega)) (hA _ (by omega) (by omega)), ?_⟩
  rw [f.I (hA (s + 6) (by omega) (by omega)), f.I (hA (s + 7) (by omega) (by omega))]
  exact h.2
section STREET
variable {M : Mem} {s : Nat} {σ : StT} {Q : Int32 → Mem → Prop} {QJ0 : Int64 → Mem → Prop} {QV0 : Mem → Prop}
abbrev tabA (s : Nat) : Nat → Prop := fun a => a = s + 6 ∨ a = s + 7
theorem tally_in {K2 : Nat → Int32 → Mem → Prop} {K12 : Nat → Int32 → Int32 → Mem → Prop} {i p : Nat} (h : StAt M s σ) (hi : i < sN σ) (hp : p ≤ 100)
    (hK : K12 s (nI i) (nI (p + 1)) (uI (uI M (s + 6) (101 * i + p) (nI (buyAt σ i p))) (s + 7) (101 * i + p) (nI (selAt σ i p)))) : ∃ m, lp_X6_tally_26 K2 K12 QV0 m s (nI i) (nI p) 0 0 0 M := by
  have h' := h
  obtain ⟨⟨hk, ⟨r1, r2, r4, r5, r6, r10, r11⟩, ⟨k1, k2, k3, k4, k5, k6, k7⟩, n1, n2, n3, n4, n5, n6, n7⟩, ⟨w1, w2, w3, w4, -⟩, ⟨f0, f3, -⟩, ha, hb⟩ := h'
  refine for_up (fun m j => lp_X6_tally_26 K2 K12 QV0 m s (nI i) (nI p) (nI (sumN (fun j => bit (wbuy (sKd σ j) (sLi σ j) (sVa σ i) p) (sPt σ j)) j)) (nI (sumN (fun j => bit (wsel (sKd σ j) (sLi σ j) (sVa σ i) p) (sPt σ j)) j)) (nI j) M) (sS σ) (fun m => ?_) (fun m j hj ih => ?_)
  · have e : (nI i * 101) + nI p = nI (101 * i + p) := by
      rw [show (101 : Int32) = nI 101 from rfl, pk_mul, nI_add, Nat.mul_comm]
    have hin : vp_in (nI (101 * i + p)) 606 := vp_in_nI (by omega) (by omega)
    unfold lp_X6_tally_26
    rw [e, nI_clamp (by omega)]
    refine ⟨hk, fun _ => ?_, fun hn => absurd (by rw [f3]; exact nI_le (Nat.le_refl _) (by omega)) hn⟩
    rw [r10, n6]
    refine ⟨k6, hin, fun M1 e1 => ?_⟩
    subst e1
    rw [mK_uI, mR_uI, mN_uI, r11, n7]
    refine ⟨k7, hin, fun M2 e2 => ?_⟩
    rw [e2, nI_1]
    exact hK
  · obtain ⟨b1, b2, b3⟩ := hb j hj
    have hva := (w2 i hi).2.2
    have hin : vp_in (nI j) 6 := vp_in_nI (by omega) (by omega)
    simp only [sumN] at ih
    unfold lp_X6_tally_26
    refine ⟨hk, fun hle => absurd (by rw [f3] at hle; exact hle) (nI_ge hj (by omega)), fun _ => ?_⟩
    rw [r2, n2, nI_clamp (by omega), (ha i hi).2]
    refine ⟨k2, vp_in_nI (by omega) (by omega), ?_⟩
    have key : ∀ x : Nat, x = bit (wbuy (sKd σ j) (sLi σ j) (sVa σ i) p) (sPt σ j) → jn_X6_tally_63 K2 K12 (fun fx0 fx1 fx2 fx3 fx4 fx5 fM => lp_X6_tally_26 K2 K12 QV0 m fx0 fx1 fx2 fx3 fx4 fx5 fM) QV0 s (nI i) (nI p) (nI (sumN (fun j => bit (wsel (sKd σ j) (sLi σ j) (sVa σ i) p) (sPt σ j)) j)) (nI j) (nI x) (nI (sumN (fun j => bit (wbuy (sKd σ j) (sLi σ j) (sVa σ i) p) (sPt σ j)) j)) M := by
      intro x hx y hy
      rw [hy, r2, n2, nI_clamp (by omega), (ha i hi).2]
      refine ⟨hk, k2, vp_in_nI (by omega) (by omega), S_X6_wouldSell h hj hva hp (fun q => ?_) (fun q => ?_)⟩
      · refine ⟨fun z => absurd z (by decide), fun _ => ⟨hk, by rw [r5]; exact k4, by rw [r5, n4]; exact hin, ?_⟩⟩
        intro y2 hy2
        rw [hy2, r5, nI_clamp (by omega), b2, nI_add, nI_add, nI_1]
        rw [bit_t q] at ih
        rw [hx]
        exact ih
      · refine ⟨fun _ => ?_, fun z => absurd rfl z⟩
        intro y2 hy2
        rw [hy2, show (0 : Int32) = nI 0 from rfl, nI_add, nI_add, nI_1]
        rw [bit_f q] at ih
        rw [hx]
        exact ih
    refine S_X6_wouldBuy h hj hva hp (fun q => ?_) (fun q => ?_)
    · refine ⟨fun z => absurd z (by decide), fun _ => ⟨hk, by rw [r5]; exact k4, by rw [r5, n4]; exact hin, ?_⟩⟩
      rw [r5, nI_clamp (by omega), b2]
      exact key _ (bit_t q).symm
    · refine ⟨fun _ => ?_, fun z => absurd rfl z⟩
      exact key 0 (bit_f q).symm
theorem S_X6_tally (h : StAt M s σ) (hQ : ∀ M', Fr (tabA s) M M' → StTb M' s σ → QV0 M') : wp_X6_tally s M QV0 := by
  have hwf := h.2.1
  have stA : ∀ M', Fr (tabA s) M M' → StAt M' s σ := fun M' f => h.fr f (by simp [tabA]) (by simp [tabA]) (by simp [tabA]) (by simp [tabA]) (by simp [tabA]) (by simp [tabA])
  have outer := for_up (fun m i => ∀ M', Fr (tabA s) M M' → (∀ i', i' < i → ∀ p, p ≤ 100 → mI M' (s + 6) (101 * i' + p) = nI (buyAt σ i' p) ∧ mI M' (s + 7) (101 * i' + p) = nI (selAt σ i' p)) → lp_X6_tally_2 QV0 m s (nI i) M') (sN σ) (fun m M' f ht => ?_) (fun m i hi ih M' f ht => ?_)
  · obtain ⟨m, hm⟩ := outer
    exact ⟨m, hm M Fr.rf (fun i' q => absurd q (by omega))⟩
  · unfold lp_X6_tally_2
    have h1 := stA M' f
    refine ⟨h1.1.1, fun _ => hQ M' f ⟨h1, ht⟩, fun hn => absurd (by rw [h1.2.2.1.1]; exact nI_le (Nat.le_refl _) (by have := hwf.1; omega)) hn⟩
  · unfold lp_X6_tally_2
    have h1 := stA M' f
    have hn6 := hwf.1
    refine ⟨h1.1.1, fun hle => absurd (by rw [h1.2.2.1.1] at hle; exact hle) (nI_ge hi (by omega)), fun _ => ?_⟩
    have mid := for_up (fun m2 p => ∀ M2, Fr (tabA s) M M2 → (∀ i', i' < i → ∀ p, p ≤ 100 → mI M2 (s + 6) (101 * i' + p) = nI (buyAt σ i' p) ∧ mI M2 (s + 7) (101 * i' + p) = nI (selAt σ i' p)) → (∀ q, q < p → mI M2 (s + 6) (101 * i + q) = nI (buyAt σ i q) ∧ mI M2 (s + 7) (101 * i + q) = nI (selAt σ i q)) → lp_X6_tally_12 (fun fx0 fx1 fM => lp_X6_tally_2 QV0 m fx0 fx1 fM) QV0 m2 s (nI i) (nI p) M2) 101 (fun m2 M2 f2 t1 t2 => ?_) (fun m2 p hp ih2 M2 f2 t1 t2 => ?_)
    · obtain ⟨m2, hm2⟩ := mid
      exact ⟨m2, hm2 M' f ht (fun q hq => absurd hq (by omega))⟩
    · unfold lp_X6_tally_12
      refine ⟨fun _ => ?_, fun hn => absurd (nI_le (a := 101) (b := 101) (Nat.le_refl _) (by omega)) hn⟩
      rw [nI_1]
      refine ih M2 f2 (fun i' hi' p hp => ?_)
      by_cases e : i' = i
      · subst e; exact t2 p (by omega)
      · exact t1 i' (by omega) p hp
    · unfold lp_X6_tally_12
      refine ⟨fun hle => absurd hle (nI_ge (b := 101) hp (by omega)), fun _ => ?_⟩
      have h2 := stA M2 f2
      refine tally_in h2 hi (by omega) ?_
      refine ih2 _ (f2.t2 ((Fr.uI (Or.inl rfl)).t2 (Fr.uI (Or.inr rfl)))) (fun i' hi' q hq => ?_) (fun q hq => ?_)
      · have e1 : ¬ (101 * i' + q = 101 * i + p) := by omega
        have e2 : ¬ (s + 6 = s + 7) := by omega
        have e3 : ¬ (s + 7 = s + 6) := by omega
        simp only [mI_uI, if_pos, if_neg e1, if_neg e2, if_neg e3]
        exact t1 i' hi' q hq
      · have e2 : ¬ (s + 6 = s + 7) := by omega
        have e3 : ¬ (s + 7 = s + 6) := by omega
        by_cases e : q = p
        · subst e
          simp only [mI_uI, if_pos, if_neg e2]
          refine ⟨?_, ?_⟩ <;> first | trivial | rfl
        · have e1 : ¬ (101 * i + q = 101 * i + p) := by omega
          simp only [mI_uI, if_pos, if_neg e1, if_neg e2, if_neg e3]
          exact t2 q (by omega)
end STREET
