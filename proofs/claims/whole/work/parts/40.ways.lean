/-! WAYS: what they wish, what they call -/
def wayK (k : Nat) : Nat := if k = 1 then 3 else if k = 2 then 4 else if k = 3 then 9 else if k = 4 then 2 else if k = 5 then 11 else 12
theorem wayK_cs {k : Nat} (h : k ≤ 5) : (k = 0 ∧ wayK k = 12) ∨ (k = 1 ∧ wayK k = 3) ∨ (k = 2 ∧ wayK k = 4) ∨ (k = 3 ∧ wayK k = 9) ∨ (k = 4 ∧ wayK k = 2) ∨ (k = 5 ∧ wayK k = 11) := by
  have c : k = 0 ∨ k = 1 ∨ k = 2 ∨ k = 3 ∨ k = 4 ∨ k = 5 := by omega
  rcases c with c | c | c | c | c | c <;> subst c <;> simp [wayK]
def WayAt (M : Mem) (a k f : Nat) : Prop := mK M a = wayK k ∧ mI M a 0 = nI f ∧ k ≤ 5 ∧ f ≤ 49
def wishB (σ : StT) (w : Nat → Nat) (hh : Int) (k f : Nat) : Int := if k = 1 then (mbc σ : Int) - f else if k = 2 then (mbc σ : Int) - f - hh else if k = 3 then (mvN σ w : Int) - f else if k = 4 then (if fairB σ w = -4 then 0 else fairB σ w) - f else if k = 5 then f else 0
def wishA (σ : StT) (w : Nat → Nat) (hh : Int) (k f : Nat) : Int := if k = 1 then (mbc σ : Int) + f + 1 else if k = 2 then (mbc σ : Int) + f + 1 - hh else if k = 3 then (mvN σ w : Int) + f + 1 else if k = 4 then (if fairA σ w = -4 then 100 else fairA σ w) + f else if k = 5 then 2 * f + 1 else 100
def bidW (σ : StT) (w : Nat → Nat) (hh : Int) (k f : Nat) : Nat := (min 99 (wishB σ w hh k f)).toNat
def askW (σ : StT) (w : Nat → Nat) (hh : Int) (k f : Nat) : Nat := (max ((bidW σ w hh k f : Int) + 1) (min 100 (wishA σ w hh k f))).toNat
theorem bidW_le {σ : StT} {w : Nat → Nat} {hh : Int} {k f : Nat} : bidW σ w hh k f ≤ 99 := by unfold bidW; omega
theorem askW_le {σ : StT} {w : Nat → Nat} {hh : Int} {k f : Nat} : bidW σ w hh k f < askW σ w hh k f ∧ askW σ w hh k f ≤ 100 := by
  have := bidW_le (σ := σ) (w := w) (hh := hh) (k := k) (f := f)
  unfold askW; omega
theorem WayAt.isW {M : Mem} {a k f : Nat} (h : WayAt M a k f) : isW M a := by
  obtain ⟨h1, -, h3, -⟩ := h
  have hcs := wayK_cs h3
  show mK M a = 12 ∨ mK M a = 3 ∨ mK M a = 4 ∨ mK M a = 9 ∨ mK M a = 2 ∨ mK M a = 11
  omega
theorem WayAt.fr {A : Nat → Prop} {M M' : Mem} {a k f : Nat} (h : WayAt M a k f) (g : Fr A M M') (h0 : ¬ A a) : WayAt M' a k f := by
  unfold WayAt
  rw [g.K, g.I h0]
  exact h
theorem iMax_iI {a b : Int} (ha : -2147483648 ≤ a ∧ a < 2147483648) (hb : -2147483648 ≤ b ∧ b < 2147483648) : iMax (iI a) (iI b) = iI (max a b) := by
  unfold iMax
  by_cases h : a < b
  · rw [if_pos ((iI_lt ha hb).mpr h)]; exact congrArg iI (by omega)
  · rw [if_neg (mt (iI_lt ha hb).mp h)]; exact congrArg iI (by omega)
theorem iMin_iI {a b : Int} (ha : -2147483648 ≤ a ∧ a < 2147483648) (hb : -2147483648 ≤ b ∧ b < 2147483648) : iMin (iI a) (iI b) = iI (min a b) := by
  unfold iMin
  by_cases h : b < a
  · rw [if_pos ((iI_lt hb ha).mpr h)]; exact congrArg iI (by omega)
  · rw [if_neg (mt (iI_lt hb ha).mp h)]; exact congrArg iI (by omega)
section WAYS
variable {M : Mem} {s t a k f : Nat} {σ : StT} {w : Nat → Nat} {hh : Int} {Q : Int32 → Mem → Prop}
theorem mbc_le (hs : sWF σ) : mbc σ ≤ 99 := by
  have := mbs_le hs (sN σ) (Nat.le_refl _)
  have := hs.2.2.2.2.1
  unfold mbc
  omega
theorem fairA_rng : fairA σ w = -4 ∨ (0 ≤ fairA σ w ∧ fairA σ w < 100) := by
  rcases findU_rng (p := isFA σ w) 100 0 with h | h
  · exact Or.inl h
  · exact Or.inr ⟨h.1, by have := h.2; unfold fairA; omega⟩
theorem fairB_rng : fairB σ w = -4 ∨ (0 ≤ fairB σ w ∧ fairB σ w ≤ 100) := by
  rcases findD_rng (p := isFB σ w) 100 with h | h
  · exact Or.inl h
  · exact Or.inr ⟨h.1, by have := h.2; unfold fairB; omega⟩
theorem wishB_rng (hs : sWF σ) (hr : -20 ≤ hh ∧ hh ≤ 20) (hf : f ≤ 49) : -100 ≤ wishB σ w hh k f ∧ wishB σ w hh k f ≤ 200 := by
  have h1 := mbc_le hs
  have h2 := mvN_le (w := w) hs
  have h3 := fairB_rng (σ := σ) (w := w)
  unfold wishB
  split
  · omega
  · split
    · omega
    · split
      · omega
      · split
        · split <;> omega
        · split <;> omega
theorem wishA_rng (hs : sWF σ) (hr : -20 ≤ hh ∧ hh ≤ 20) (hf : f ≤ 49) : -100 ≤ wishA σ w hh k f ∧ wishA σ w hh k f ≤ 200 := by
  have h1 := mbc_le hs
  have h2 := mvN_le (w := w) hs
  have h3 := fairA_rng (σ := σ) (w := w)
  unfold wishA
  split
  · omega
  · split
    · omega
    · split
      · omega
      · split
        · split <;> omega
        · split <;> omega
theorem iI_n (x : Nat) : nI x = iI x := nI_iI x
theorem S_wishB (ha : WayAt M a k f) (hs : StTb M s σ) (ht : ThAt M t (sN σ) w hh 100000000000) (hQ : Q (iI (wishB σ w hh k f)) M) : wv_X11_wishedBid a s t M Q := by
  have hW := ha.isW
  obtain ⟨h1, h2, h3, h4⟩ := ha
  have hcs := wayK_cs h3
  unfold wishB at hQ
  refine ⟨fun q => ?_, fun q => ?_, fun q => ?_, fun q => ?_, fun q => ?_, fun q => ?_⟩
  · have e : k = 0 := by omega
    subst e
    exact hQ
  · have e : k = 1 := by omega
    subst e
    refine ⟨hs.1.1.1, S_X6_meanByChances hs.1 ⟨hW, ?_⟩⟩
    rw [h2, iI_n, iI_n, iI_sub]
    exact hQ
  · have e : k = 2 := by omega
    subst e
    refine ⟨hW, hs.1.1.1, S_X6_meanByChances hs.1 ⟨hW, ht.1.1, ?_⟩⟩
    rw [h2, ht.2.1, iI_n, iI_n, iI_sub, iI_sub]
    exact hQ
  · have e : k = 3 := by omega
    subst e
    refine ⟨ht.1.1, S_X9_meanValue hs.1 ht.1 ht.2.2.2.2 ht.2.2.2.1 ⟨hW, ?_⟩⟩
    rw [h2, iI_n, iI_n, iI_sub]
    exact hQ
  · have e : k = 4 := by omega
    subst e
    have hQ4 : Q (iI ((if fairB σ w = -4 then 0 else fairB σ w) - f)) M := hQ
    have fr := fairB_rng (σ := σ) (w := w)
    have e4 : iI (fairB σ w) = (-4 : Int32) ↔ fairB σ w = -4 := iI_eq (b := -4) (by omega) (by omega)
    refine ⟨ht.1.1, S_X9_fairBid hs ht.1 ht.2.2.2.2 ht.2.2.2.1 ⟨fun z => ⟨hW, ?_⟩, fun z => ⟨hW, ?_⟩⟩⟩
    · have z := mt e4.mpr z
      rw [h2, iI_n, iI_sub]
      rw [if_neg z] at hQ4; exact hQ4
    · have z := e4.mp z
      rw [h2, iI_n, show (0 : Int32) = iI 0 from rfl, iI_sub]
      rw [if_pos z] at hQ4; exact hQ4
  · have e : k = 5 := by omega
    subst e
    refine ⟨hW, ?_⟩
    rw [h2, iI_n]
    exact hQ
theorem S_wishA (ha : WayAt M a k f) (hs : StTb M s σ) (ht : ThAt M t (sN σ) w hh 100000000000) (hQ : Q (iI (wishA σ w hh k f)) M) : wv_X11_wishedAsk a s t M Q := by
  have hW := ha.isW
  obtain ⟨h1, h2, h3, h4⟩ := ha
  have hcs := wayK_cs h3
  unfold wishA at hQ
  refine ⟨fun q => ?_, fun q => ?_, fun q => ?_, fun q => ?_, fun q => ?_, fun q => ?_⟩
  · have e : k = 0 := by omega
    subst e
    exact hQ
  · have e : k = 1 := by omega
    subst e
    refine ⟨hs.1.1.1, S_X6_meanByChances hs.1 ⟨hW, ?_⟩⟩
    rw [h2, iI_n, iI_n, iI_add, show (1 : Int32) = iI 1 from rfl, iI_add]
    exact hQ
  · have e : k = 2 := by omega
    subst e
    refine ⟨hW, hs.1.1.1, S_X6_meanByChances hs.1 ⟨hW, ht.1.1, ?_⟩⟩
    rw [h2, ht.2.1, iI_n, iI_n, iI_add, show (1 : Int32) = iI 1 from rfl, iI_add, iI_sub]
    exact hQ
  · have e : k = 3 := by omega
    subst e
    refine ⟨ht.1.1, S_X9_meanValue hs.1 ht.1 ht.2.2.2.2 ht.2.2.2.1 ⟨hW, ?_⟩⟩
    rw [h2, iI_n, iI_n, iI_add, show (1 : Int32) = iI 1 from rfl, iI_add]
    exact hQ
  · have e : k = 4 := by omega
    subst e
    have hQ4 : Q (iI ((if fairA σ w = -4 then 100 else fairA σ w) + f)) M := hQ
    have fr := fairA_rng (σ := σ) (w := w)
    have e4 : iI (fairA σ w) = (-4 : Int32) ↔ fairA σ w = -4 := iI_eq (b := -4) (by omega) (by omega)
    refine ⟨ht.1.1, S_X9_fairAsk hs ht.1 ht.2.2.2.2 ht.2.2.2.1 ⟨fun z => ⟨hW, ?_⟩, fun z => ⟨hW, ?_⟩⟩⟩
    · have z := mt e4.mpr z
      rw [h2, iI_n, iI_add]
      rw [if_neg z] at hQ4; exact hQ4
    · have z := e4.mp z
      rw [h2, iI_n, show (100 : Int32) = iI 100 from rfl, iI_add]
      rw [if_pos z] at hQ4; exact hQ4
  · have e : k = 5 := by omega
    subst e
    refine ⟨hW, ?_⟩
    rw [h2, iI_n, show (1 : Int32) = iI 1 from rfl, show (2 : Int32) = iI 2 from rfl, iI_mul, iI_add]
    exact hQ
theorem S_X11_bid (ha : WayAt M a k f) (hs : StTb M s σ) (ht : ThAt M t (sN σ) w hh 100000000000) (hQ : Q (nI (bidW σ w hh k f)) M) : wp_X11_bid a s t M Q := by
  have hr := wishB_rng (w := w) (k := k) hs.1.2.1 ht.2.2.1 ha.2.2.2
  refine ⟨ha.isW, S_wishB ha hs ht ?_⟩
  rw [show (99 : Int32) = iI 99 from rfl, show (0 : Int32) = iI 0 from rfl, iMin_iI (by omega) (by omega), iMax_iI (by omega) (by omega)]
  rw [iI_n] at hQ
  have e : ((bidW σ w hh k f : Nat) : Int) = max 0 (min 99 (wishB σ w hh k f)) := by unfold bidW; omega
  rw [e] at hQ
  exact hQ
theorem S_X11_ask (ha : WayAt M a k f) (hs : StTb M s σ) (ht : ThAt M t (sN σ) w hh 100000000000) (hQ : Q (nI (askW σ w hh k f)) M) : wp_X11_ask a s t (nI (bidW σ w hh k f)) M Q := by
  have hr := wishA_rng (w := w) (k := k) hs.1.2.1 ht.2.2.1 ha.2.2.2
  have hb := bidW_le (σ := σ) (w := w) (hh := hh) (k := k) (f := f)
  refine ⟨ha.isW, S_wishA ha hs ht ?_⟩
  rw [iI_n, show (100 : Int32) = iI 100 from rfl, show (1 : Int32) = iI 1 from rfl, iI_add, iMin_iI (by omega) (by omega), iMax_iI (by omega) (by omega)]
  rw [iI_n] at hQ
  have e : ((askW σ w hh k f : Nat) : Int) = max ((bidW σ w hh k f : Int) + 1) (min 100 (wishA σ w hh k f)) := by unfold askW; omega
  rw [e] at hQ
  exact hQ
/-- widths, by kinds -/
def widN (k f : Nat) : Nat := if k = 1 then 2 * f else if k = 2 then 2 * f + 1 else if k = 3 then 100 - f else if k = 4 then (100 - f) / 2 else if k = 5 then 2 * f + 7 else 100
theorem S_width (ha : WayAt M a k f) (hQ : Q (nI (widN k f)) M) : wv_X11_width a M Q := by
  have hW := ha.isW
  obtain ⟨h1, h2, h3, h4⟩ := ha
  have hcs := wayK_cs h3
  unfold widN at hQ
  have w2 : ∀ Q' : Int32 → Mem → Prop, Q' (nI (2 * f)) M → wp_X2_width a M Q' := fun Q' hq => by
    refine ⟨hW, ?_⟩
    rw [h2, show (2 : Int32) = nI 2 from rfl, pk_mul]
    exact hq
  have w8 : ∀ Q' : Int32 → Mem → Prop, Q' (nI (100 - f)) M → wp_X8_width a M Q' := fun Q' hq => by
    refine ⟨hW, hW, ?_⟩
    rw [h2, show (100 : Int32) = nI 100 from rfl, pk_sub (by omega)]
    exact hq
  refine ⟨fun q => ?_, fun q => ?_, fun q => ?_, fun q => ?_, fun q => ?_, fun q => ?_⟩
  · have e : k = 0 := by omega
    subst e
    exact hQ
  · have e : k = 1 := by omega
    subst e
    exact w2 _ hQ
  · have e : k = 2 := by omega
    subst e
    refine ⟨hW, w2 _ ?_⟩
    rw [nI_1]
    exact hQ
  · have e : k = 3 := by omega
    subst e
    exact w8 _ hQ
  · have e : k = 4 := by omega
    subst e
    refine ⟨hW, w8 _ ?_⟩
    rw [show (2 : Int32) = nI 2 from rfl, pk_div (by omega) (by omega) (by omega)]
    exact hQ
  · have e : k = 5 := by omega
    subst e
    refine ⟨hW, w2 _ ?_⟩
    rw [show (7 : Int32) = nI 7 from rfl, nI_add]
    exact hQ
end WAYS
