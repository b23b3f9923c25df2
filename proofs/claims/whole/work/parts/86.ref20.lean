/-! THE REFERENCE: reading signs and numbers -/
theorem and255 : ∀ u, u < 256 → iI (byI u) &&& 255 = nI u := by decide +kernel
abbrev rdC (a k : Nat) : Prop := a = 87 ∧ (k = 15 ∨ k = 16)
/-- a text lies on a row of the reference, and is being read -/
def Tx (M : Mem) (dd len : Nat) (b : Nat → Nat) : Prop := MdOK M ∧ dd < 8 ∧ len ≤ 100 ∧ mI M 87 13 = nI (100 * dd) ∧ mI M 87 14 = nI len ∧ ∀ i, i < len → b i < 256 ∧ mJ M 118 (100 * dd + i) = jI (byI (b i))
def At (M : Mem) (t : Nat) (f : Bool) : Prop := mI M 87 15 = nI t ∧ mI M 87 16 = bI f
theorem Tx.fg {P : Nat → Nat → Prop} {M M' : Mem} {dd len : Nat} {b : Nat → Nat} (h : Tx M dd len b) (f : Fg P M M') (h1 : ¬ P 87 13) (h2 : ¬ P 87 14) (h3 : ∀ k, ¬ P 118 k) : Tx M' dd len b := by
  obtain ⟨a1, a2, a3, a4, a5, a6⟩ := h
  refine ⟨a1.fg f, a2, a3, by rw [f.I h1]; exact a4, by rw [f.I h2]; exact a5, fun i hi => ⟨(a6 i hi).1, by rw [f.J (h3 _)]; exact (a6 i hi).2⟩⟩
theorem Tx.rd {M M' : Mem} {dd len : Nat} {b : Nat → Nat} (h : Tx M dd len b) (f : Fg rdC M M') : Tx M' dd len b := h.fg f (by decide) (by decide) (fun k => by simp only [rdC]; omega)
section REF
variable {M : Mem} {dd len t : Nat} {b : Nat → Nat} {f : Bool} {Q : Int32 → Mem → Prop} {QJ0 : Int64 → Mem → Prop} {QV0 : Mem → Prop}
theorem S_R_here (h : Tx M dd len b) (ht : t ≤ len) (ha : mI M 87 15 = nI t) (hY : t < len → Q (nI (b t)) M) (hN : t = len → Q (-1) M) : wp_X13_here 87 M Q := by
  obtain ⟨a1, a2, a3, a4, a5, a6⟩ := h
  unfold wp_X13_here
  rw [ha, a5, a4, a1.r54, a1.n54, nI_add]
  have e : nI t < nI len ↔ t < len := nI_lt31 (by omega) (by omega)
  refine ⟨a1.1, fun z => ?_, fun z => hN (by have := mt e.mpr z; omega)⟩
  have z := e.mp z
  rw [nI_clamp (by omega), (a6 t z).2, jI_iI, and255 _ (a6 t z).1]
  exact ⟨a1.k54, vp_in_nI (by omega) (by omega), hY z⟩
theorem S_R_readDigit (h : Tx M dd len b) (ht : t ≤ len) (ha : At M t f) (hY : f = false → t < len → isD (b t) → ∀ M', Fg rdC M M' → At M' (t + 1) false → Q (nI (b t - 48)) M') (hN : (f = true ∨ ¬ (t < len ∧ isD (b t))) → ∀ M', Fg rdC M M' → At M' t true → Q 0 M') : wp_X13_readDigit 87 M Q := by
  have hT := h
  obtain ⟨a1, a2, a3, a4, a5, a6⟩ := h
  have bad : (f = true ∨ ¬ (t < len ∧ isD (b t))) → jn_X13_readDigit_25 Q 87 87 M := fun o => by
    refine ⟨a1.1, Or.inr rfl, fun M5 e5 => ?_⟩
    have f5 : Fg rdC M M5 := by rw [e5]; exact Fg.pI ⟨rfl, Or.inr rfl⟩
    have v16 : mI M5 87 16 = 1 := by rw [e5, mI_uI, if_pos rfl, if_pos rfl]
    have v15 : mI M5 87 15 = nI t := by rw [e5, mI_uI, if_pos rfl, if_neg (by decide)]; exact ha.1
    rw [v16]
    exact ⟨(a1.fg f5).1, fun z => absurd z (by decide), fun _ => hN o M5 f5 ⟨v15, v16⟩⟩
  refine ⟨a1.1, ?_⟩
  rw [ha.2]
  refine ⟨fun z => bad (Or.inl (by cases f; (exact absurd rfl z); rfl)), fun z => S_R_here hT ht ha.1 (fun hl => ?_) (fun hl => ?_)⟩
  · have fz : f = false := by cases f; rfl; exact absurd z (by decide)
    have hb := (a6 t hl).1
    refine S_inY 48 57 (by omega) (by omega) rfl rfl (fun q => ⟨fun _ => ?_, fun z => absurd z (by decide)⟩) (fun q => ⟨fun z => absurd rfl z, fun _ => bad (Or.inr (fun o => q ?_))⟩)
    · rw [ix_nI (by omega)] at q
      refine ⟨a1.1, Or.inl rfl, fun M5 e5 => ?_⟩
      have f5 : Fg rdC M M5 := by rw [e5]; exact Fg.pI ⟨rfl, Or.inr rfl⟩
      have v16 : mI M5 87 16 = 0 := by rw [e5, mI_uI, if_pos rfl, if_pos rfl]
      have v15 : mI M5 87 15 = nI t := by rw [e5, mI_uI, if_pos rfl, if_neg (by decide)]; exact ha.1
      rw [v16, v15]
      refine ⟨(a1.fg f5).1, fun _ M12 e12 => ?_, fun z => absurd rfl z⟩
      have f12 : Fg rdC M M12 := by rw [e12]; exact f5.sI ⟨rfl, Or.inl rfl⟩
      have m12 := a1.fg f12
      have w15 : mI M12 87 15 = nI (t + 1) := by rw [e12, mI_uI, if_pos rfl, if_pos rfl, nI_1]
      have w16 : mI M12 87 16 = bI false := by rw [e12, mI_uI, if_pos rfl, if_neg (by decide)]; exact v16
      have w13 : mI M12 87 13 = nI (100 * dd) := by rw [f12.I (by decide)]; exact a4
      have w118 : mJ M12 118 (100 * dd + t) = jI (byI (b t)) := by rw [f12.J (by simp only [rdC]; omega)]; exact (a6 t hl).2
      have ep : nI (100 * dd) + nI (t + 1) - 1 = nI (100 * dd + t) := by rw [nI_add, ← Nat.add_assoc, nI_pred]
      rw [m12.r54, m12.n54, w13, w15, ep, nI_clamp (by omega), w118, jI_iI]
      refine ⟨m12.k54, vp_in_nI (by omega) (by omega), ?_⟩
      have eb : byI (b t) = (b t : Int) := by unfold byI; rw [if_pos (by omega)]
      have ev : iI (byI (b t)) - 48 = nI (b t - 48) := by
        rw [eb, ← nI_iI, show (48 : Int32) = nI 48 from rfl, pk_sub q.1]
      rw [ev]
      exact hY fz hl q M12 f12 ⟨w15, w16⟩
    · rw [ix_nI (by omega)]; exact o.2
  · refine S_inY 48 57 (by omega) (by omega) rfl rfl (fun q => absurd q ?_) (fun q => ⟨fun z => absurd rfl z, fun _ => bad (Or.inr (fun o => by omega))⟩)
    have : ix (-1 : Int32) = 4294967296 := rfl
    omega
theorem S_R_take {x : Nat} (hx : x < 256) (h : Tx M dd len b) (ht : t ≤ len) (ha : At M t f) (hY : f = false → t < len → b t = x → ∀ M', Fg rdC M M' → At M' (t + 1) false → QV0 M') (hN : (f = true ∨ ¬ (t < len ∧ b t = x)) → ∀ M', Fg rdC M M' → At M' t true → QV0 M') : wp_X13_take 87 (nI x) M QV0 := by
  have hT := h
  obtain ⟨a1, a2, a3, a4, a5, a6⟩ := h
  have bad : (f = true ∨ ¬ (t < len ∧ b t = x)) → jn_X13_take_16 QV0 87 87 M := fun o => by
    refine ⟨a1.1, Or.inr rfl, fun M5 e5 => ?_⟩
    have f5 : Fg rdC M M5 := by rw [e5]; exact Fg.pI ⟨rfl, Or.inr rfl⟩
    have v16 : mI M5 87 16 = 1 := by rw [e5, mI_uI, if_pos rfl, if_pos rfl]
    have v15 : mI M5 87 15 = nI t := by rw [e5, mI_uI, if_pos rfl, if_neg (by decide)]; exact ha.1
    rw [v16, v15]
    refine ⟨(a1.fg f5).1, fun z => absurd z (by decide), fun _ => ⟨(a1.fg f5).1, fun M6 e6 => ?_⟩⟩
    refine hN o M6 (by rw [e6]; exact f5.sI ⟨rfl, Or.inl rfl⟩) ⟨?_, ?_⟩
    · rw [e6, mI_uI, if_pos rfl, if_pos rfl, Int32.add_zero]
    · rw [e6, mI_uI, if_pos rfl, if_neg (by decide)]; exact v16
  refine ⟨a1.1, ?_⟩
  rw [ha.2]
  refine ⟨fun z => bad (Or.inl (by cases f; (exact absurd rfl z); rfl)), fun z => S_R_here hT ht ha.1 (fun hl => ?_) (fun hl => ⟨fun q => ?_, fun q => bad (Or.inr (fun o => by omega))⟩)⟩
  · have fz : f = false := by cases f; rfl; exact absurd z (by decide)
    have hb := (a6 t hl).1
    have ee : nI (b t) = nI x ↔ b t = x := nI_eq (by omega) (by omega)
    refine ⟨fun q => ?_, fun q => bad (Or.inr (fun o => q (ee.mpr o.2)))⟩
    refine ⟨a1.1, Or.inl rfl, fun M5 e5 => ?_⟩
    have f5 : Fg rdC M M5 := by rw [e5]; exact Fg.pI ⟨rfl, Or.inr rfl⟩
    have v16 : mI M5 87 16 = 0 := by rw [e5, mI_uI, if_pos rfl, if_pos rfl]
    have v15 : mI M5 87 15 = nI t := by rw [e5, mI_uI, if_pos rfl, if_neg (by decide)]; exact ha.1
    rw [v16, v15]
    refine ⟨(a1.fg f5).1, fun _ => ⟨(a1.fg f5).1, fun M6 e6 => ?_⟩, fun z => absurd rfl z⟩
    refine hY fz hl (ee.mp q) M6 (by rw [e6]; exact f5.sI ⟨rfl, Or.inl rfl⟩) ⟨?_, ?_⟩
    · rw [e6, mI_uI, if_pos rfl, if_pos rfl, nI_1]
    · rw [e6, mI_uI, if_pos rfl, if_neg (by decide)]; exact v16
  · rw [show (-1 : Int32) = iI (-1) from rfl, nI_iI] at q
    have q := (iI_eq (by omega) (by omega)).mp q
    omega
/-- a number: at most three digits, one where the first is 0 -/
theorem S_R_readNumber (h : Tx M dd len b) (ht : t ≤ len) (ha : At M t f)
    (hY : ∀ k, f = false → 1 ≤ k → k ≤ 3 → dgOK b len t k → (k = 3 ∨ dgV b t k = 0 ∨ ¬ (t + k < len ∧ isD (b (t + k)))) → ∀ M', Fg rdC M M' → At M' (t + k) false → Q (nI (dgV b t k)) M')
    (hN : (f = true ∨ ¬ (t < len ∧ isD (b t))) → ∀ M', Fg rdC M M' → At M' t true → Q 0 M') : wp_X13_readNumber 87 M Q := by
  have hT := h
  obtain ⟨a1, a2, a3, a4, a5, a6⟩ := h
  refine ⟨a1.1, S_R_readDigit hT ht ha (fun fz hl hd M1 f1 t1 => ?_) (fun o M1 f1 t1 => ?_)⟩
  · have dg1 : dgV b t 1 = b t - 48 := by show 0 * 10 + (b (t + 0) - 48) = _; rw [Nat.add_zero]; omega
    have ok1 : dgOK b len t 1 := ⟨by omega, fun j hj => by rw [show j = 0 by omega]; exact hd, fun j hj hj0 => by omega⟩
    have go : ∀ r k, k + r = 3 → 1 ≤ k → dgOK b len t k → ∀ M2, Fg rdC M M2 → At M2 (t + k) false → lp_X13_readNumber_7 Q (r + 1) 87 (nI (dgV b t k)) (nI k) M2 := by
      intro r
      induction r with
      | zero =>
        intro k hk hk1 ok M2 f2 t2
        have : k = 3 := by omega
        subst this
        unfold lp_X13_readNumber_7
        exact ⟨fun _ => hY 3 fz (by omega) (by omega) ok (Or.inl rfl) M2 f2 t2, fun z => absurd (nI_le (a := 3) (b := 3) (Nat.le_refl _) (by omega)) z⟩
      | succ r ih =>
        intro k hk hk1 ok M2 f2 t2
        have T2 := hT.rd f2
        have lt := dgV_lt k ok.2.1
        have hp : 10 ^ k ≤ 10 ^ 3 := Nat.pow_le_pow_right (by omega) (by omega)
        have e0 : nI (dgV b t k) ≤ (0 : Int32) ↔ dgV b t k ≤ 0 := nI_le31 (b := 0) (by omega) (by omega)
        have ok1 := ok.1
        unfold lp_X13_readNumber_7
        refine ⟨fun z => absurd z (nI_ge (b := 3) (by omega) (by omega)), fun _ => ⟨fun z => hY k fz hk1 (by omega) ok (Or.inr (Or.inl (by have := e0.mp z; omega))) M2 f2 t2, fun z => ⟨T2.1.1, ?_⟩⟩⟩
        rw [t2.2]
        refine ⟨fun z => absurd rfl z, fun _ => S_R_here T2 ok1 t2.1 (fun hl2 => ?_) (fun hl2 => ?_)⟩
        · have hb := (a6 (t + k) hl2).1
          refine S_inY 48 57 (by omega) (by omega) rfl rfl (fun q => ⟨fun z => absurd z (by decide), fun _ => ⟨T2.1.1, S_R_here T2 ok1 t2.1 (fun _ y hy => ⟨T2.1.1, fun M3 e3 => ?_⟩) (fun z => by omega)⟩⟩) (fun q => ⟨fun _ => hY k fz hk1 (by omega) ok (Or.inr (Or.inr (fun o => q ?_))) M2 f2 t2, fun z => absurd rfl z⟩)
          · rw [ix_nI (by omega)] at q
            have ey : y = nI (dgV b t (k + 1)) := by
              rw [hy, show (10 : Int32) = nI 10 from rfl, pk_mul, nI_add, show (48 : Int32) = nI 48 from rfl, pk_sub (by omega)]
              congr 1
              show _ = dgV b t k * 10 + (b (t + k) - 48)
              omega
            rw [ey, nI_1]
            have z := mt e0.mpr z
            refine ih (k + 1) (by omega) (by omega) ⟨by omega, fun j hj => ?_, fun j hj hj0 => ?_⟩ M3 (by rw [e3]; exact f2.sI ⟨rfl, Or.inl rfl⟩) ⟨?_, ?_⟩
            · by_cases e : j = k
              · rw [e]; exact q
              · exact ok.2.1 j (by omega)
            · by_cases e : j = k
              · rw [e]; omega
              · exact ok.2.2 j (by omega) hj0
            · rw [e3, mI_uI, if_pos rfl, if_pos rfl, t2.1, nI_1]; rfl
            · rw [e3, mI_uI, if_pos rfl, if_neg (by decide)]; exact t2.2
          · rw [ix_nI (by omega)]; exact o.2
        · refine S_inY 48 57 (by omega) (by omega) rfl rfl (fun q => absurd q ?_) (fun q => ⟨fun _ => hY k fz hk1 (by omega) ok (Or.inr (Or.inr (fun o => by omega))) M2 f2 t2, fun z => absurd rfl z⟩)
          have : ix (-1 : Int32) = 4294967296 := rfl
          omega
    have g := go 2 1 rfl (by omega) ok1 M1 f1 t1
    rw [dg1] at g
    exact ⟨3, g⟩
  · refine ⟨1, ?_⟩
    have : lp_X13_readNumber_7 Q 1 87 0 1 M1 := ⟨fun z => absurd z (by decide), fun _ => ⟨fun _ => hN o M1 f1 t1, fun z => absurd (by decide) z⟩⟩
    exact this
end REF
