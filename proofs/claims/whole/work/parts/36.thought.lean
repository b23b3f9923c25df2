/-! THOUGHTS: where they lie, what their methods answer -/
def ThOK (M : Mem) (t : Nat) : Prop := mK M t = 10 ∧ mR M t 0 = t + 1 ∧ mK M (t + 1) = 21 ∧ mN M (t + 1) = 6
def Wt (M : Mem) (t n : Nat) (w : Nat → Nat) : Prop := ∀ i, i < n → mJ M (t + 1) i = lN (w i)
def ThAt (M : Mem) (t n : Nat) (w : Nat → Nat) (h : Int) (c : Nat) : Prop := ThOK M t ∧ mI M t 1 = iI h ∧ (-20 ≤ h ∧ h ≤ 20) ∧ (∀ i, i < n → w i ≤ c) ∧ Wt M t n w
abbrev thW (t : Nat) : Nat → Prop := fun a => a = t + 1
abbrev thA (t : Nat) : Nat → Prop := fun a => a = t ∨ a = t + 1
abbrev apart (s k t l : Nat) : Prop := s + k ≤ t ∨ t + l ≤ s
def mixN (i : Nat) (g w : Nat → Nat) (j : Nat) : Nat := if j < i then g j else w j
theorem mixN_0 {g w : Nat → Nat} : mixN 0 g w = w := by
  funext j; unfold mixN; rw [if_neg (by omega)]
theorem mixN_at {g w : Nat → Nat} {i : Nat} : mixN i g w i = w i := by
  unfold mixN; rw [if_neg (by omega)]
theorem ThOK.fr {A : Nat → Prop} {M M' : Mem} {t : Nat} (h : ThOK M t) (f : Fr A M M') : ThOK M' t := by
  unfold ThOK
  rw [f.K, f.N, f.R]
  exact h
theorem ThAt.fr {A : Nat → Prop} {M M' : Mem} {t n c : Nat} {w : Nat → Nat} {h : Int} (H : ThAt M t n w h c) (f : Fr A M M') (h0 : ¬ A t) (h1 : ¬ A (t + 1)) : ThAt M' t n w h c := by
  refine ⟨H.1.fr f, ?_⟩
  unfold Wt
  rw [f.I h0, f.J h1]
  exact H.2
theorem ThAt.up {M : Mem} {t n c c' : Nat} {w : Nat → Nat} {h : Int} (H : ThAt M t n w h c) (hc : c ≤ c') : ThAt M t n w h c' := ⟨H.1, H.2.1, H.2.2.1, fun i hi => Nat.le_trans (H.2.2.2.1 i hi) hc, H.2.2.2.2⟩
theorem sb_cpyJ {α : Type} {f g : Nat → α} {n j : Nat} (h : j < n) : va_cpy f g 0 0 n j = f j := by
  rw [pk_cpy_in (Nat.zero_le _) (by omega)]; congr 1; omega
theorem Wt.step {M : Mem} {t n i : Nat} {g w : Nat → Nat} {v : Int64} (h : Wt M t n (mixN i g w)) (hv : v = lN (g i)) : Wt (uJ M (t + 1) i v) t n (mixN (i + 1) g w) := by
  intro j hj
  rw [mJ_uJ, if_pos rfl]
  by_cases e : j = i
  · rw [if_pos e, e, hv]; unfold mixN; rw [if_pos (by omega)]
  · rw [if_neg e, h j hj]; unfold mixN
    by_cases q : j < i
    · rw [if_pos q, if_pos (by omega)]
    · rw [if_neg q, if_neg (by omega)]
theorem Wt.done {M : Mem} {t n : Nat} {g w : Nat → Nat} (h : Wt M t n (mixN n g w)) : Wt M t n g := by
  intro j hj
  rw [h j hj]; unfold mixN; rw [if_pos hj]
theorem Wt.now {M : Mem} {t n i : Nat} {g w : Nat → Nat} (h : Wt M t n (mixN i g w)) (hi : i < n) : mJ M (t + 1) i = lN (w i) := by
  rw [h i hi, mixN_at]
section THOUGHT
variable {M : Mem} {s t : Nat} {σ : StT} {w : Nat → Nat} {hh : Int} {c : Nat} {Q : Int32 → Mem → Prop} {QJ0 : Int64 → Mem → Prop} {QV0 : Mem → Prop}
theorem dv_go : ∀ (k a b r : Nat), b < 2 ^ k → r + 2 * k ≤ 100 → a < 2 ^ 63 → b < 2 ^ 63 → QJ0 (lN (Nat.gcd a b)) M → ∃ m, lp_X12_divisorOf_9 QJ0 m (lN a) (lN b) (nI r) M := by
  have fin : ∀ (a r : Nat), r ≤ 100 → QJ0 (lN (Nat.gcd a 0)) M → lp_X12_divisorOf_9 QJ0 1 (lN a) (lN 0) (nI r) M := by
    intro a r hr hQ
    rw [Nat.gcd_zero_right] at hQ
    unfold lp_X12_divisorOf_9
    exact ⟨fun _ => hQ, fun _ => ⟨fun _ => hQ, fun z => absurd rfl z⟩⟩
  have one : ∀ (m a b r : Nat), 0 < b → r < 100 → a < 2 ^ 63 → b < 2 ^ 63 → lp_X12_divisorOf_9 QJ0 m (lN b) (lN (a % b)) (nI (r + 1)) M → lp_X12_divisorOf_9 QJ0 (m + 1) (lN a) (lN b) (nI r) M := by
    intro m a b r hb hr ha hb2 hk
    unfold lp_X12_divisorOf_9
    have nz : ¬ lN b = (0 : Int64) := fun z => by
      have := (pk_lEQ hb2 (b := 0) (by omega)).mp z
      omega
    refine ⟨fun z => absurd z (nI_ge (b := 100) hr (by omega)), fun _ => ⟨fun z => absurd z nz, fun _ => ⟨nz, fun y hy => ?_⟩⟩⟩
    rw [hy, pk_lRem ha hb hb2, nI_1]
    exact hk
  intro k
  induction k with
  | zero =>
    intro a b r hb hr _ _ hQ
    have : b = 0 := by omega
    subst this
    exact ⟨1, fin a r (by omega) hQ⟩
  | succ k ih =>
    intro a b r hb hr ha hb2 hQ
    by_cases e : b = 0
    · subst e
      exact ⟨1, fin a r (by omega) hQ⟩
    · have m1 := Nat.mod_lt a (y := b) (by omega)
      have g1 : Nat.gcd a b = Nat.gcd b (a % b) := by rw [Nat.gcd_comm a b, Nat.gcd_rec b a, Nat.gcd_comm]
      by_cases e2 : a % b = 0
      · rw [g1, e2] at hQ
        refine ⟨2, one 1 a b r (by omega) (by omega) ha hb2 ?_⟩
        rw [e2]
        exact fin b (r + 1) (by omega) hQ
      · have g2 : Nat.gcd b (a % b) = Nat.gcd (a % b) (b % (a % b)) := by rw [Nat.gcd_comm b, Nat.gcd_rec (a % b) b, Nat.gcd_comm]
        have m2 := mod_half (a := b) (b := a % b) (by omega) (by omega)
        rw [g1, g2] at hQ
        obtain ⟨m, hm⟩ := ih (a % b) (b % (a % b)) (r + 1 + 1) (by rw [Nat.pow_succ] at hb; omega) (by omega) (by omega) (by have := Nat.mod_lt b (y := a % b) (by omega); omega) hQ
        exact ⟨m + 1 + 1, one _ a b r (by omega) (by omega) ha hb2 (one _ b (a % b) (r + 1) (by omega) (by omega) hb2 (by omega) hm)⟩
theorem S_X12_divisorOf {a b : Nat} (ha : a < 2 ^ 50) (hb : b < 2 ^ 50) (hQ : QJ0 (lN (Nat.gcd a b)) M) : wp_X12_divisorOf (lN a) (lN b) M QJ0 :=
  dv_go 50 a b 0 hb (by omega) (by omega) (by omega) hQ
theorem S_X12_inLeastTerms {a b : Nat} {p : Int32} (ha : a < 2 ^ 50) (hb : b < 2 ^ 50) (h0 : a = 0 → b ≠ 0) (hQ : QJ0 (lN ((if p = 0 then a else b) / Nat.gcd a b)) M) : wp_X12_inLeastTerms (lN a) (lN b) p M QJ0 := by
  refine S_X12_divisorOf ha hb ?_
  have gp : 0 < Nat.gcd a b := by
    rcases Nat.eq_zero_or_pos a with h | h
    · exact Nat.gcd_pos_of_pos_right _ (Nat.pos_of_ne_zero (h0 h))
    · exact Nat.gcd_pos_of_pos_left _ h
  have gl : Nat.gcd a b < 2 ^ 50 := by
    rcases Nat.eq_zero_or_pos a with h | h
    · have := h0 h
      have := Nat.gcd_le_right a (n := b) (by omega)
      omega
    · have := Nat.gcd_le_left b h
      omega
  have nz : ¬ lN (Nat.gcd a b) ≤ (0 : Int64) := fun z => by
    have := (pk_lLE (by omega) (b := 0) (by omega)).mp z
    omega
  have nz2 : ¬ lN (Nat.gcd a b) = (0 : Int64) := fun z => by
    have := (pk_lEQ (by omega) (b := 0) (by omega)).mp z
    omega
  refine ⟨fun q => ⟨fun z => absurd z nz, fun _ => ⟨nz2, ?_⟩⟩, fun q => ⟨fun z => absurd z nz, fun _ => ⟨nz2, ?_⟩⟩⟩
  · rw [if_neg q] at hQ
    rw [pk_lDiv (by omega) gp (by omega)]
    exact hQ
  · rw [if_pos q] at hQ
    rw [pk_lDiv (by omega) gp (by omega)]
    exact hQ
theorem S_X12_takings {ev bid ask : Nat} (hev : ev ≤ 2) (hQ : Q (iI (if ev = 1 then (ask : Int) else if ev = 2 then -(bid : Int) else 0)) M) : wp_X12_takings (nI ev) (nI bid) (nI ask) M Q := by
  have e1 : nI ev = (1 : Int32) ↔ ev = 1 := nI_eq (b := 1) (by omega) (by omega)
  have e2 : nI ev = (2 : Int32) ↔ ev = 2 := nI_eq (b := 2) (by omega) (by omega)
  refine ⟨fun a => ⟨fun b => ?_, fun b => ?_⟩, fun a => ?_⟩
  · rw [if_neg (mt e1.mpr a), if_neg (mt e2.mpr b)] at hQ; exact hQ
  · rw [if_neg (mt e1.mpr a), if_pos (e2.mp b)] at hQ; rw [nI_iI, iI_neg]; exact hQ
  · rw [if_pos (e1.mp a)] at hQ; rw [nI_iI]; exact hQ
theorem S_X9_begin (hs : StAt M s σ) (ht : ThOK M t) (hd : apart s 8 t 2) (hQ : ∀ M', Fr (thA t) M M' → ThAt M' t (sN σ) (sCh σ) 0 100 → QV0 M') : wp_X9_begin t s M QV0 := by
  have hw := hs.2.1
  have h6 := hw.1
  have loop := for_up (fun m i => ∀ M' (w : Nat → Nat), Fr (thW t) M M' → Wt M' t 6 (mixN i (fun i => if i < sN σ then sCh σ i else 0) w) → lp_X9_begin_2 QV0 m t s (nI i) M') 6 (fun m M' w f hw2 => ?_) (fun m i hi ih M' w f hw2 => ?_)
  · obtain ⟨m, hm⟩ := loop
    refine ⟨m, hm M (fun i => (mJ M (t + 1) i).toBitVec.toNat) Fr.rf (fun i hi => ?_)⟩
    unfold mixN
    rw [if_neg (by omega)]
    show _ = Int64.ofBitVec (BitVec.ofNat 64 _)
    rw [BitVec.ofNat_toNat, BitVec.setWidth_eq]; rfl
  · have st := hs.fr f (by simp [thW]; omega) (by simp [thW]; omega) (by simp [thW]; omega) (by simp [thW]; omega) (by simp [thW]; omega) (by simp [thW]; omega)
    have ht1 := ht.fr f
    unfold lp_X9_begin_2
    refine ⟨fun _ => ⟨ht1.1, fun M5 e5 => ?_⟩, fun hn => absurd (nI_le (a := 6) (b := 6) (Nat.le_refl _) (by omega)) hn⟩
    rw [e5]
    refine hQ _ ((f.mono (fun a h => Or.inr h)).t2 (Fr.uI (Or.inl rfl))) ⟨ht1, ?_, by omega, fun i hi => (hw.2.1 i hi).2.1, fun i hi => ?_⟩
    · rw [mI_uI, if_pos rfl, if_pos rfl]; rfl
    · rw [mJ_uI, hw2.done i (by omega)]; simp only [if_pos hi]
  · have st := hs.fr f (by simp [thW]; omega) (by simp [thW]; omega) (by simp [thW]; omega) (by simp [thW]; omega) (by simp [thW]; omega) (by simp [thW]; omega)
    have ht1 := ht.fr f
    unfold lp_X9_begin_2
    refine ⟨fun hle => absurd hle (nI_ge (b := 6) hi (by omega)), fun _ => ⟨ht1.1, st.1.1, ?_⟩⟩
    have fin : ∀ v : Int64, v = lN ((fun i => if i < sN σ then sCh σ i else 0) i) → jn_X9_begin_32 (fun fx0 fx1 fx2 fM => lp_X9_begin_2 QV0 m fx0 fx1 fx2 fM) QV0 t s (nI i) v (nI i) (mR M' t 0) M' := by
      intro v hv
      unfold jn_X9_begin_32
      rw [ht1.2.1, ht1.2.2.2, nI_clamp (by omega)]
      refine ⟨ht1.2.2.1, vp_in_nI hi (by omega), fun M12 e => ?_⟩
      rw [e, nI_1]
      exact ih _ w (f.t2 (Fr.uJ rfl)) (hw2.step hv)
    rw [st.2.2.1.1]
    refine ⟨fun q => fin _ ?_, fun q => ?_⟩
    · have := (nI_le31 (by omega) (by omega)).mp q
      show _ = lN (if i < sN σ then sCh σ i else 0)
      rw [if_neg (by omega)]; rfl
    · have := mt (nI_le31 (by omega) (by omega)).mpr q
      rw [st.1.2.1.1, st.1.2.2.2.1, nI_clamp (by omega)]
      refine ⟨st.1.2.2.1.1, vp_in_nI hi (by omega), fin _ ?_⟩
      show _ = lN (if i < sN σ then sCh σ i else 0)
      have := (hw.2.1 i (by omega)).2.1
      rw [if_pos (by omega), (st.2.2.2.1 i (by omega)).1, nI_l (by omega)]
theorem S_X9_copyFrom {b n : Nat} (hb : ThAt M b n w hh c) (hn : n ≤ 6) (ht : ThOK M t) (hQ : ∀ M', Fr (thA t) M M' → ThAt M' t n w hh c → QV0 M') : wp_X9_copyFrom t b M QV0 := by
  unfold wp_X9_copyFrom
  rw [hb.1.2.1, ht.2.1, hb.1.2.2.2, ht.2.2.2]
  refine ⟨hb.1.1, ht.1, hb.1.2.2.1, ht.2.2.1, by decide, by decide, by decide, by decide, by decide, fun M1 e1 M4 e4 => ?_⟩
  rw [e4, e1]
  refine hQ _ ((Fr.wJ (Or.inr rfl)).t2 (Fr.uI (Or.inl rfl))) ⟨ht, ?_, hb.2.2.1, hb.2.2.2.1, fun i hi => ?_⟩
  · rw [mI_uI, if_pos rfl, if_pos rfl, mI_wJ]; exact hb.2.1
  · rw [mJ_uI, mJ_wJ, if_pos rfl]
    show va_cpy _ _ 0 0 6 i = _
    rw [sb_cpyJ (by omega)]
    exact hb.2.2.2.2 i hi
theorem S_X9_heldAfter {ev : Nat} (hev : ev ≤ 2) (hk : mK M t = 10) (hI : mI M t 1 = iI hh) (hQ : Q (iI (hA ev hh)) M) : wp_X9_heldAfter t (nI ev) M Q := by
  have e1 : nI ev = (1 : Int32) ↔ ev = 1 := nI_eq (b := 1) (by omega) (by omega)
  have e2 : nI ev = (2 : Int32) ↔ ev = 2 := nI_eq (b := 2) (by omega) (by omega)
  unfold hA at hQ
  unfold wp_X9_heldAfter
  rw [hI]
  refine ⟨fun a => ⟨fun b => ⟨hk, ?_⟩, fun b => ⟨hk, ?_⟩⟩, fun a => ⟨hk, ?_⟩⟩
  · rw [if_neg (mt e1.mpr a), if_neg (mt e2.mpr b)] at hQ; exact hQ
  · rw [if_neg (mt e1.mpr a), if_pos (e2.mp b)] at hQ; rw [show (1 : Int32) = iI 1 from rfl, iI_add]; exact hQ
  · rw [if_pos (e1.mp a)] at hQ; rw [show (1 : Int32) = iI 1 from rfl, iI_sub]; exact hQ
theorem S_X9_oddsOf {ev i bid ask n : Nat} (hs : StTb M s σ) (ht : ThAt M t n w hh c) (hev : ev ≤ 2) (hi : i < sN σ) (hb : bid ≤ 100) (ha : ask ≤ 100) (h0 : ev = 0 → bid < ask) (hQ : Q (nI (odds σ hh ev i bid ask)) M) : wp_X9_oddsOf t s (nI ev) (nI i) (nI bid) (nI ask) M Q := by
  have hw := hs.1.2.1
  have hm := hw.2.2.2.2.2.2.1
  have h6 := hw.1
  obtain ⟨b1, b2⟩ := ht.2.2.1
  have e1 : nI ev = (1 : Int32) ↔ ev = 1 := nI_eq (b := 1) (by omega) (by omega)
  have e2 : nI ev = (2 : Int32) ↔ ev = 2 := nI_eq (b := 2) (by omega) (by omega)
  have f7 := hs.1.2.2.1.2.2.1
  have ix : ∀ p, (nI i * 101) + nI p = nI (101 * i + p) := fun p => by
    rw [show (101 : Int32) = nI 101 from rfl, pk_mul, nI_add, Nat.mul_comm]
  -- the end
  have fin : ∀ x y : Nat, x = odB σ hh i ask → y = odS σ hh i bid → jn_X9_oddsOf_57 Q (nI ev) (nI x) (nI y) M := by
    intro x y hx hy
    have l1 := odB_le hw (h := hh) (i := i) (ask := ask)
    have l2 := odS_le hw (h := hh) (i := i) (bid := bid)
    unfold odds at hQ
    rw [← hx, ← hy] at hQ
    refine ⟨fun a => ⟨fun b => ?_, fun b => ?_⟩, fun a => ?_⟩
    · have a := mt e1.mpr a
      have b := mt e2.mpr b
      rw [if_neg a, if_neg b] at hQ
      have l3 := od_le hw (h := hh) (i := i) (h0 (by omega))
      rw [show (100 : Int32) = nI 100 from rfl, pk_sub (by omega), pk_sub (by omega)]
      exact hQ
    · rw [if_neg (mt e1.mpr a), if_pos (e2.mp b)] at hQ; exact hQ
    · rw [if_pos (e1.mp a)] at hQ; exact hQ
  have mid : ∀ x : Nat, x = odB σ hh i ask → jn_X9_oddsOf_28 Q t s (nI ev) (nI i) (nI bid) (nI x) M := by
    intro x hx
    unfold jn_X9_oddsOf_28
    have e9 : nI (sMo σ) ≤ iI hh ↔ (sMo σ : Int) ≤ hh := by rw [nI_iI, iI_le (by omega) (by omega)]
    rw [f7, ht.2.1, ix, nI_clamp (by omega)]
    refine ⟨ht.1.1, hs.1.1.1, fun q => fin x 0 hx ?_, fun q => ⟨by rw [hs.1.1.2.1.2.2.2.2.2.2]; exact hs.1.1.2.2.1.2.2.2.2.2.2, ?_, ?_⟩⟩
    · have q := e9.mp q
      unfold odS; rw [if_neg (by omega)]
    · rw [hs.1.1.2.1.2.2.2.2.2.2, hs.1.1.2.2.2.2.2.2.2.2.2]; exact vp_in_nI (by omega) (by omega)
    · rw [hs.1.1.2.1.2.2.2.2.2.2, (hs.2 i hi bid hb).2]
      refine fin x _ hx ?_
      have q := mt e9.mpr q
      unfold odS; rw [if_pos (by omega)]
  unfold wp_X9_oddsOf
  have e9 : iI hh ≤ -(nI (sMo σ)) ↔ hh ≤ -(sMo σ : Int) := by rw [nI_iI, iI_neg, iI_le (by omega) (by omega)]
  rw [f7, ht.2.1, ix, nI_clamp (by omega)]
  refine ⟨ht.1.1, hs.1.1.1, fun q => mid 0 ?_, fun q => ⟨by rw [hs.1.1.2.1.2.2.2.2.2.1]; exact hs.1.1.2.2.1.2.2.2.2.2.1, ?_, ?_⟩⟩
  · have q := e9.mp q
    unfold odB; rw [if_neg (by omega)]
  · rw [hs.1.1.2.1.2.2.2.2.2.1, hs.1.1.2.2.2.2.2.2.2.2.1]; exact vp_in_nI (by omega) (by omega)
  · rw [hs.1.1.2.1.2.2.2.2.2.1, (hs.2 i hi ask ha).1]
    refine mid _ ?_
    have q := mt e9.mpr q
    unfold odB; rw [if_pos (by omega)]
end THOUGHT
