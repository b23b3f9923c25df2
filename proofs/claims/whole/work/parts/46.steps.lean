/-! STEPS: the slates listed -/
def bse (L : Nat) : Nat → Nat
  | 0 => 0
  | b + 1 => bse L b + (L - b)
def prg (L : Nat) : Nat → Nat → Nat → Nat × Nat
  | 0, b, _ => (b, b + 1)
  | f + 1, b, s => if s < L - b then (b, b + 1 + s) else prg L f (b + 1) (s - (L - b))
def pB (L s : Nat) : Nat := (prg L L 0 s).1
def pA (L s : Nat) : Nat := (prg L L 0 s).2
theorem bse_mono {L : Nat} : ∀ m b, bse L b ≤ bse L (b + m)
  | 0, _ => Nat.le_refl _
  | m + 1, b => by
    have := bse_mono (L := L) m b
    show _ ≤ bse L (b + m) + (L - (b + m))
    omega
theorem prg_at {L i : Nat} : ∀ m f b, f + b = L → b + m < L → i < L - (b + m) → prg L f b (bse L (b + m) - bse L b + i) = (b + m, b + m + 1 + i)
  | 0, f, b, h1, h2, h3 => by
    obtain ⟨f, rfl⟩ : ∃ f', f = f' + 1 := ⟨f - 1, by omega⟩
    unfold prg
    rw [Nat.add_zero, Nat.sub_self, Nat.zero_add, if_pos (by omega)]
  | m + 1, f, b, h1, h2, h3 => by
    obtain ⟨f, rfl⟩ : ∃ f', f = f' + 1 := ⟨f - 1, by omega⟩
    have m1 := bse_mono (L := L) m (b + 1)
    have e1 : bse L (b + 1) = bse L b + (L - b) := rfl
    have ih := prg_at (L := L) (i := i) m f (b + 1) (by omega) (by omega) (by omega)
    rw [show b + 1 + m = b + (m + 1) by omega] at ih m1
    unfold prg
    rw [if_neg (by omega), show bse L (b + (m + 1)) - bse L b + i - (L - b) = bse L (b + (m + 1)) - bse L (b + 1) + i by omega]
    exact ih
theorem pBA {L b i : Nat} (hb : b < L) (hi : i < L - b) : pB L (bse L b + i) = b ∧ pA L (bse L b + i) = b + 1 + i := by
  have := prg_at (L := L) (i := i) b L 0 (by omega) (by omega) (by omega)
  rw [Nat.zero_add] at this
  unfold pB pA
  rw [show bse L b + i = bse L b - bse L 0 + i from rfl, this]
  exact ⟨rfl, rfl⟩
theorem bse_sur {L : Nat} : ∀ B s, s < bse L B → ∃ b i, b < B ∧ i < L - b ∧ s = bse L b + i
  | 0, s, h => absurd h (by simp [bse])
  | B + 1, s, h => by
    by_cases c : s < bse L B
    · obtain ⟨b, i, h1, h2, h3⟩ := bse_sur B s c
      exact ⟨b, i, by omega, h2, h3⟩
    · have e1 : bse L (B + 1) = bse L B + (L - B) := rfl
      exact ⟨B, s - bse L B, by omega, by omega, by omega⟩
theorem pr_lt {L s : Nat} (h : s < bse L L) : pB L s < pA L s ∧ pA L s ≤ L := by
  obtain ⟨b, i, h1, h2, rfl⟩ := bse_sur L s h
  obtain ⟨e1, e2⟩ := pBA h1 h2
  rw [e1, e2]
  omega
theorem bse_le {L : Nat} (h : L ≤ 10) : bse L L ≤ 55 := by
  have c : L = 0 ∨ L = 1 ∨ L = 2 ∨ L = 3 ∨ L = 4 ∨ L = 5 ∨ L = 6 ∨ L = 7 ∨ L = 8 ∨ L = 9 ∨ L = 10 := by omega
  rcases c with c | c | c | c | c | c | c | c | c | c | c <;> subst c <;> decide
theorem bse_5 {L : Nat} (h : L ≤ 5) : bse L L ≤ 15 := by
  have c : L = 0 ∨ L = 1 ∨ L = 2 ∨ L = 3 ∨ L = 4 ∨ L = 5 := by omega
  rcases c with c | c | c | c | c | c <;> subst c <;> decide
def SpOK (M : Mem) (e : Nat) : Prop := mK M e = 6 ∧ (mR M e 4 = e + 1 ∧ mR M e 5 = e + 2 ∧ mR M e 6 = e + 3 ∧ mR M e 7 = e + 5 ∧ mR M e 8 = e + 7 ∧ mR M e 9 = e + 8 ∧ mR M e 12 = e + 9 ∧ mR M e 13 = e + 10) ∧ (mK M (e + 1) = 20 ∧ mN M (e + 1) = 55 ∧ mK M (e + 2) = 20 ∧ mN M (e + 2) = 55) ∧ ThOK M (e + 3) ∧ ThOK M (e + 5) ∧ (mK M (e + 7) = 21 ∧ mN M (e + 7) = 11 ∧ mK M (e + 8) = 21 ∧ mN M (e + 8) = 11) ∧ mK M (e + 9) = 21 ∧ mN M (e + 9) = 55 ∧ mK M (e + 10) = 21 ∧ mN M (e + 10) = 55
theorem SpOK.fr {A : Nat → Prop} {M M' : Mem} {e : Nat} (h : SpOK M e) (f : Fr A M M') : SpOK M' e := by
  unfold SpOK ThOK
  rw [f.K, f.N, f.R]
  exact h
/-- the slates lie listed -/
def SlAt (M : Mem) (e L : Nat) : Prop := mI M e 3 = nI (bse L L) ∧ ∀ s, s < bse L L → mI M (e + 1) s = nI (pB L s) ∧ mI M (e + 2) s = nI (pA L s)
abbrev spA (e : Nat) : Nat → Prop := fun x => e ≤ x ∧ x < e + 11
section STEPS
variable {M : Mem} {e : Nat} {QV0 : Mem → Prop}
theorem S_X5_list {n : Nat} (hp : SpOK M e) (hn : 10 ≤ n ∧ n ≤ 50) (hQ : ∀ M', Fr (fun x => x = e ∨ x = e + 1 ∨ x = e + 2) M M' → SlAt M' e (100 / n) → QV0 M') : wp_X5_list e (nI n) M QV0 := by
  have hL : 2 ≤ 100 / n ∧ 100 / n ≤ 10 := by
    have h1 := Nat.div_le_div_left (a := 100) hn.1 (by omega)
    have h2 := Nat.div_le_div_left (a := 100) hn.2 (by omega)
    omega
  refine ⟨fun z => absurd z (nI_nle (by omega) (by omega)), fun _ => ⟨nI_ne0 (by omega) (by omega), hp.1, fun M5 e5 => ?_⟩⟩
  rw [show (100 : Int32) = nI 100 from rfl, show (10 : Int32) = nI 10 from rfl, pk_div (by omega) (by omega) (by omega), iMin_nI (by omega) (by omega), show min 10 (100 / n) = 100 / n by omega]
  generalize 100 / n = L at *
  have tot := bse_le hL.2
  have loop := for_up (fun m b => ∀ M', Fr (fun x => x = e ∨ x = e + 1 ∨ x = e + 2) M M' → mI M' e 3 = nI (bse L b) → (∀ s, s < bse L b → mI M' (e + 1) s = nI (pB L s) ∧ mI M' (e + 2) s = nI (pA L s)) → lp_X5_list_25 QV0 m e (nI L) (nI b) M') L (fun m M' fr h3 hs => ?_) (fun m b hb ih M' fr h3 hs => ?_)
  · obtain ⟨m, hm⟩ := loop
    refine ⟨m, hm M5 (by rw [e5]; exact Fr.uI (Or.inl rfl)) ?_ (fun s hs => absurd hs (by simp [bse]))⟩
    rw [e5, mI_uI, if_pos rfl, if_pos rfl]; rfl
  · unfold lp_X5_list_25
    exact ⟨fun _ => hQ M' fr ⟨h3, hs⟩, fun z => absurd (nI_le (Nat.le_refl _) (by omega)) z⟩
  · unfold lp_X5_list_25
    refine ⟨fun z => absurd z (nI_ge hb (by omega)), fun _ y12 e12 => ?_⟩
    rw [e12, nI_1]
    have mono := bse_mono (L := L) (L - (b + 1)) (b + 1)
    rw [show b + 1 + (L - (b + 1)) = L by omega] at mono
    have e1 : bse L (b + 1) = bse L b + (L - b) := rfl
    have inner := for_up (fun m2 i => ∀ M2, Fr (fun x => x = e ∨ x = e + 1 ∨ x = e + 2) M M2 → mI M2 e 3 = nI (bse L b + i) → (∀ s, s < bse L b + i → mI M2 (e + 1) s = nI (pB L s) ∧ mI M2 (e + 2) s = nI (pA L s)) → lp_X5_list_35 (fun fx0 fx2 fx3 fM => lp_X5_list_25 QV0 m fx0 fx2 fx3 fM) QV0 m2 e (nI L) (nI b) (nI (b + 1 + i)) M2) (L - b) (fun m2 M2 f2 h3 hs => ?_) (fun m2 i hi ih2 M2 f2 h3 hs => ?_)
    · obtain ⟨m2, hm2⟩ := inner
      exact ⟨m2, hm2 M' fr h3 hs⟩
    · unfold lp_X5_list_35 jn_X5_list_87
      refine ⟨fun _ => ?_, fun z => absurd (nI_lt (by omega) (by omega)) z⟩
      rw [nI_1]
      exact ih M2 f2 h3 hs
    · unfold lp_X5_list_35
      obtain ⟨k1, ⟨r4, r5, -⟩, ⟨kk1, kn1, kk2, kn2⟩, -⟩ := hp.fr f2
      refine ⟨fun z => absurd ((nI_lt31 (by omega) (by omega)).mp z) (by omega), fun _ => ⟨k1, fun z => ?_, fun _ => ?_⟩⟩
      · rw [h3] at z
        exact absurd ((nI_le31 (a := 55) (by omega) (by omega)).mp z) (by omega)
      · rw [r4, h3, kn1, nI_clamp (by omega)]
        refine ⟨kk1, vp_in_nI (by omega) (by omega), fun M23 e23 => ?_⟩
        have i23 : mI M23 e 3 = nI (bse L b + i) := by rw [e23, mI_uI, if_neg (by omega)]; exact h3
        rw [i23, nI_clamp (by omega), e23, mR_uI, mK_uI, mN_uI, r5, kn2]
        refine ⟨kk2, vp_in_nI (by omega) (by omega), fun M26 e26 M29 e29 => ?_⟩
        have i26 : mI M26 e 3 = nI (bse L b + i) := by rw [e26, mI_uI, if_neg (by omega), mI_uI, if_neg (by omega)]; exact h3
        rw [i26, nI_1] at e29
        rw [nI_1]
        refine ih2 M29 ?_ ?_ (fun s hs2 => ?_)
        · rw [e29, e26]
          exact ((f2.t2 (Fr.uI (Or.inr (Or.inl rfl)))).t2 (Fr.uI (Or.inr (Or.inr rfl)))).t2 (Fr.uI (Or.inl rfl))
        · rw [e29, mI_uI, if_pos rfl, if_pos rfl]; rfl
        · obtain ⟨q1, q2⟩ := pBA hb hi
          by_cases c : s = bse L b + i
          · subst c
            refine ⟨?_, ?_⟩
            · rw [e29, mI_uI, if_neg (by omega), e26, mI_uI, if_neg (by omega), mI_uI, if_pos rfl, if_pos rfl, q1]
            · rw [e29, mI_uI, if_neg (by omega), e26, mI_uI, if_pos rfl, if_pos rfl, q2]
          · obtain ⟨g1, g2⟩ := hs s (by omega)
            refine ⟨?_, ?_⟩
            · rw [e29, mI_uI, if_neg (by omega), e26, mI_uI, if_neg (by omega), mI_uI, if_pos rfl, if_neg c]; exact g1
            · rw [e29, mI_uI, if_neg (by omega), e26, mI_uI, if_pos rfl, if_neg c, mI_uI, if_neg (by omega)]; exact g2
end STEPS
