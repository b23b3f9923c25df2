/-! THE REFERENCE: a street told -/
def exS (b pl : Nat → Nat) (nm : Nat → Nat → Nat) : Nat → StT → Nat ⊕ StT
  | 0, σ => .inr σ
  | i + 1, σ => match exS b pl nm i σ with
    | .inl j => .inl j
    | .inr σ' => match cmd σ' (b (pl i)) (nm i) with
      | none => .inl i
      | some σ2 => .inr σ2
theorem exS_s {b pl : Nat → Nat} {nm : Nat → Nat → Nat} {i : Nat} {σ : StT} : exS b pl nm (i + 1) σ = (match exS b pl nm i σ with
    | .inl j => Sum.inl j
    | .inr σ' => match cmd σ' (b (pl i)) (nm i) with
      | none => Sum.inl i
      | some σ2 => Sum.inr σ2) := rfl
theorem exS_cg {b pl pl2 : Nat → Nat} {nm nm2 : Nat → Nat → Nat} {σ : StT} : ∀ i, (∀ j, j < i → pl j = pl2 j ∧ nm j = nm2 j) → exS b pl nm i σ = exS b pl2 nm2 i σ
  | 0, _ => rfl
  | i + 1, h => by
    rw [exS_s, exS_s, exS_cg i (fun j hj => h j (by omega)), (h i (by omega)).1, (h i (by omega)).2]
theorem exS_in {b pl : Nat → Nat} {nm : Nat → Nat → Nat} {σ : StT} : ∀ i j, exS b pl nm i σ = .inl j → ∀ m, exS b pl nm (i + m) σ = .inl j
  | i, j, h, 0 => h
  | i, j, h, m + 1 => by
    show exS b pl nm (i + m + 1) σ = _
    rw [exS_s, exS_in i j h m]
theorem exS_wf {b pl : Nat → Nat} {nm : Nat → Nat → Nat} {σ : StT} (hw : sWF σ) : ∀ i σ', exS b pl nm i σ = .inr σ' → sWF σ' ∧ sN σ ≤ sN σ' ∧ sS σ ≤ sS σ'
  | 0, σ', h => by
    have : σ = σ' := by
      have h : (Sum.inr σ : Nat ⊕ StT) = .inr σ' := h
      exact Sum.inr.inj h
    rw [← this]; exact ⟨hw, Nat.le_refl _, Nat.le_refl _⟩
  | i + 1, σ', h => by
    rw [exS_s] at h
    cases e : exS b pl nm i σ with
    | inl j => rw [e] at h; cases h
    | inr σ1 =>
      rw [e] at h
      have h : (match cmd σ1 (b (pl i)) (nm i) with
        | none => Sum.inl i
        | some σ2 => Sum.inr σ2) = (Sum.inr σ' : Nat ⊕ StT) := h
      cases e2 : cmd σ1 (b (pl i)) (nm i) with
      | none => rw [e2] at h; cases h
      | some σ2 =>
        rw [e2] at h
        have h : (Sum.inr σ2 : Nat ⊕ StT) = .inr σ' := h
        have h := Sum.inr.inj h
        obtain ⟨w1, w2, w3⟩ := exS_wf hw i σ1 e
        obtain ⟨v1, v2, v3⟩ := cmd_wf w1 e2
        rw [← h]
        exact ⟨v1, by omega, by omega⟩
/-- so far a text has been read -/
def Lq (b : Nat → Nat) (len : Nat) (pl : Nat → Nat) (nm : Nat → Nat → Nat) (i t : Nat) (p : PsT) : Prop := ∀ σ, (∀ σ', exS b pl nm i σ = .inr σ' → tlV b len σ = tl b (len - t) t t i p σ') ∧ ∀ j, exS b pl nm i σ = .inl j → (tlV b len σ).1 = -2000 - (pl j : Int)
abbrev txC (a k : Nat) : Prop := (a = 87 ∧ (k = 15 ∨ k = 16 ∨ k = 17)) ∨ (94 ≤ a ∧ a ≤ 98)
def RdI (M : Mem) (b : Nat → Nat) (dd len : Nat) (pl : Nat → Nat) (nm : Nat → Nat → Nat) (i t : Nat) (p : PsT) : Prop := Tx M dd len b ∧ At M t false ∧ mI M 87 17 = nI i ∧ (3 * i ≤ t ∧ (i = 0 → t = 0)) ∧ t ≤ len ∧ Rn b t p ∧ p.1 = 0 ∧ Lq b len pl nm i t p ∧ ∀ j, j < i → Rc M j (pl j) (b (pl j)) (nm j) (lastN (b (pl j))) ∧ isL (b (pl j)) ∧ (∀ k, k ≤ lastN (b (pl j)) → nm j k < 1000) ∧ pl j < len
section REF
variable {M M0 : Mem} {σ : StT} {c : CT} {dd len t : Nat} {b : Nat → Nat} {f : Bool} {Q : Int32 → Mem → Prop} {QJ0 : Int64 → Mem → Prop} {QV0 : Mem → Prop}
theorem rd_go (hB : ∀ M' t', Fg txC M0 M' → MdOK M' → mI M' 87 15 = nI t' → t' ≤ len → fmV b len = -1000 - (t' : Int) → Q ((-1000) - nI t') M')
    (hO : ∀ M' i pl nm p, Fg txC M0 M' → 0 < i → i < 40 → fmV b len = 0 → RdI M' b dd len pl nm i len p → jn_X13_street_108 Q 87 M') :
    ∀ (r i t : Nat) (p : PsT) (pl : Nat → Nat) (nm : Nat → Nat → Nat) (M : Mem), i + r = 40 → Fg txC M0 M → RdI M b dd len pl nm i t p → lp_X13_street_76 Q (r + 1) 87 M := by
  intro r
  induction r with
  | zero =>
    intro i t p pl nm M hr f0 h
    obtain ⟨h1, -, -, ⟨h4, -⟩, h5, -⟩ := h
    have := h1.2.2.1
    omega
  | succ r ih =>
    intro i t p pl nm M hr f0 h
    have hI := h
    obtain ⟨h1, h2, h3, ⟨h4, h4b⟩, h5, h6, h7, h8, h9⟩ := h
    have hlen := h1.2.2.1
    have i33 : i ≤ 33 := by omega
    obtain ⟨r', rfl⟩ : ∃ r', r = r' + 1 := ⟨r - 1, by omega⟩
    -- a statement more
    have more : (t < len ∨ (t = 0 ∧ len = 0)) → jn_X13_street_101 (fun fx0 fM => lp_X13_street_76 Q (r' + 1 + 1) fx0 fM) Q 87 M := by
      intro ht
      refine ⟨h1.1.1, S_R_readStatement (i := i) (by omega) ⟨fun M' t1 k n f1 a1 v17 h31 ht1 hL hn hR htl hrc => ?_, fun M' t' f1 a1 v17 hle hf => ?_⟩ h1 h2 h3 h6 h7 ht⟩
      · have f1t : Fg txC M M' := f1.mono (fun a k q => by simp only [smC] at q; simp only [txC]; omega)
        refine ih (i + 1) t1 _ (fun j => if j = i then t else pl j) (fun j => if j = i then n else nm j) M' (by omega) (f0.t2 f1t) ⟨h1.sm f1, a1, v17, ⟨by omega, fun z => by omega⟩, ht1, hR, rfl, fun σ => ?_, fun j hj => ?_⟩
        · have ecg : exS b (fun j => if j = i then t else pl j) (fun j => if j = i then n else nm j) i σ = exS b pl nm i σ := exS_cg i (fun j hj => ⟨if_neg (by omega), if_neg (by omega)⟩)
          rw [exS_s, ecg]
          simp only [if_pos (show i = i from rfl)]
          obtain ⟨g1, g2⟩ := h8 σ
          cases e : exS b pl nm i σ with
          | inl j =>
            have g2 := g2 j e
            refine ⟨fun σ' hx => (by cases hx), fun j' hx => ?_⟩
            have hx : (Sum.inl j : Nat ⊕ StT) = .inl j' := hx
            have hx := Sum.inl.inj hx
            subst hx
            rw [g2]
            by_cases ej : j = i
            · exact absurd e (fun e => by
                have key : ∀ m j, exS b pl nm m σ = .inl j → j < m := by
                  intro m
                  induction m with
                  | zero => intro j h; have h : (Sum.inr σ : Nat ⊕ StT) = .inl j := h; cases h
                  | succ m ihm =>
                    intro j h
                    rw [exS_s] at h
                    cases e3 : exS b pl nm m σ with
                    | inl j3 =>
                      rw [e3] at h
                      have h : (Sum.inl j3 : Nat ⊕ StT) = .inl j := h
                      have h := Sum.inl.inj h
                      have := ihm j3 e3
                      omega
                    | inr σ3 =>
                      rw [e3] at h
                      have h : (match cmd σ3 (b (pl m)) (nm m) with
                        | none => Sum.inl m
                        | some σ2 => Sum.inr σ2) = (Sum.inl j : Nat ⊕ StT) := h
                      cases e4 : cmd σ3 (b (pl m)) (nm m) with
                      | none =>
                        rw [e4] at h
                        have h : (Sum.inl m : Nat ⊕ StT) = .inl j := h
                        have h := Sum.inl.inj h
                        omega
                      | some σ4 =>
                        rw [e4] at h
                        have h : (Sum.inr σ4 : Nat ⊕ StT) = .inl j := h
                        cases h
                have := key i j e
                omega)
            · rw [if_neg ej]
          | inr σ1 =>
            have g1 := g1 σ1 e
            rw [htl i σ1] at g1
            cases e2 : cmd σ1 (b t) n with
            | none =>
              rw [e2] at g1
              refine ⟨fun σ' hx => ?_, fun j' hx => ?_⟩
              · have hx : (match cmd σ1 (b t) n with
                  | none => Sum.inl i
                  | some σ2 => Sum.inr σ2) = (Sum.inr σ' : Nat ⊕ StT) := hx
                rw [e2] at hx; cases hx
              · have hx : (match cmd σ1 (b t) n with
                  | none => Sum.inl i
                  | some σ2 => Sum.inr σ2) = (Sum.inl j' : Nat ⊕ StT) := hx
                rw [e2] at hx
                have hx : (Sum.inl i : Nat ⊕ StT) = .inl j' := hx
                have hx := Sum.inl.inj hx
                rw [g1, if_pos hx.symm]
            | some σ2 =>
              rw [e2] at g1
              refine ⟨fun σ' hx => ?_, fun j' hx => ?_⟩
              · have hx : (match cmd σ1 (b t) n with
                  | none => Sum.inl i
                  | some σ2 => Sum.inr σ2) = (Sum.inr σ' : Nat ⊕ StT) := hx
                rw [e2] at hx
                have hx : (Sum.inr σ2 : Nat ⊕ StT) = .inr σ' := hx
                have hx := Sum.inr.inj hx
                rw [g1, ← hx]
              · have hx : (match cmd σ1 (b t) n with
                  | none => Sum.inl i
                  | some σ2 => Sum.inr σ2) = (Sum.inl j' : Nat ⊕ StT) := hx
                rw [e2] at hx; cases hx
        · by_cases ej : j = i
          · simp only [if_pos ej]
            rw [ej]
            exact ⟨hrc, hL, hn, by omega⟩
          · simp only [if_neg ej]
            obtain ⟨q1, q2⟩ := h9 j (by omega)
            exact ⟨q1.fg f1 (fun a _ _ => by simp only [smC]; omega), q2⟩
      · have f1t : Fg txC M M' := f1.mono (fun a k q => by simp only [smC] at q; simp only [txC]; omega)
        have m1 := h1.1.fg f1
        show lp_X13_street_76 Q (r' + 1 + 1) 87 M'
        unfold lp_X13_street_76 jn_X13_street_108
        rw [a1.2, a1.1]
        exact ⟨m1.1, fun _ => ⟨m1.1, fun z => absurd z (by decide), fun _ => hB M' t' (f0.t2 f1t) m1 a1.1 hle hf⟩, fun z => absurd z (by decide)⟩
    have c17 : nI i = (0 : Int32) ↔ i = 0 := nI_eq (b := 0) (by omega) (by omega)
    have cle : nI len ≤ nI t ↔ len ≤ t := nI_le31 (by omega) (by omega)
    unfold lp_X13_street_76
    rw [h2.2, h3, h1.2.2.2.2.1, h2.1]
    refine ⟨h1.1.1, fun z => absurd rfl z, fun _ => ⟨fun z => more ?_, fun z => ⟨fun y => ?_, fun y => more (Or.inl (by have := mt cle.mpr y; omega))⟩⟩⟩
    · have z := c17.mp z
      by_cases c : t < len
      · exact Or.inl c
      · exact Or.inr ⟨h4b z, by have := h4b z; omega⟩
    · have y := cle.mp y
      have et : t = len := by omega
      have z := mt c17.mpr z
      subst et
      have hf : fmV b t = 0 := by rw [h6.fin, if_pos ⟨by omega, h7⟩]
      exact hO M i pl nm p f0 (by omega) (by omega) hf hI
/-- all statements are carried out, one after the other -/
theorem ex_go {i : Nat} {pl : Nat → Nat} {nm : Nat → Nat → Nat} (hm : MdOK M0) (hr : RS M0 σ) (hi : i < 40) (h17 : mI M0 87 17 = nI i) (hrec : ∀ j, j < i → Rc M0 j (pl j) (b (pl j)) (nm j) (lastN (b (pl j))) ∧ isL (b (pl j)) ∧ (∀ k, k ≤ lastN (b (pl j)) → nm j k < 1000) ∧ pl j < 100)
    (hO : ∀ M' σ', exS b pl nm i σ = .inr σ' → Fg (cmC (sN σ) (sS σ)) M0 M' → MdOK M' → RS M' σ' → (∀ M2, Fg (fun a k => a = 93 ∨ (a = 87 ∧ k = 11)) M' M2 → RTh M2 (sN σ') (sCh σ') 0 → Q (nI i) M2))
    (hB : ∀ M' j, exS b pl nm i σ = .inl j → Fg (cmC (sN σ) (sS σ)) M0 M' → RS M' σ → pl j < 100 → Q (iI (-2000 - (pl j : Int))) M') : ∃ n, lp_X13_street_156 Q n 87 (nI (sN σ)) (nI (sS σ)) (nI (sMo σ)) (nI (sCo σ)) (nI (sHo σ)) 0 M0 := by
  have hw := hr.1
  refine for_up (fun m j => ∀ M' σ', exS b pl nm j σ = .inr σ' → Fg (cmC (sN σ) (sS σ)) M0 M' → RS M' σ' → lp_X13_street_156 Q m 87 (nI (sN σ)) (nI (sS σ)) (nI (sMo σ)) (nI (sCo σ)) (nI (sHo σ)) (nI j) M') i (fun m M' σ' he f hs => ?_) (fun m j hj ih M' σ' he f hs => ?_) |> fun ⟨m, hx⟩ => ⟨m, hx M0 σ rfl Fg.rf hr⟩
  · have m1 := hm.fg f
    have v17 : mI M' 87 17 = nI i := by rw [f.I (by simp only [cmC]; omega)]; exact h17
    unfold lp_X13_street_156
    refine ⟨m1.1, fun _ => S_R_thinkAnew m1 hs (fun M2 f2 t2 => ⟨(m1.fg f2).1, ?_⟩), fun hn => absurd (by rw [v17]; exact nI_le (Nat.le_refl _) (by omega)) hn⟩
    rw [f2.I (by omega), v17]
    exact hO M' σ' he f m1 hs M2 f2 t2
  · have m1 := hm.fg f
    have v17 : mI M' 87 17 = nI i := by rw [f.I (by simp only [cmC]; omega)]; exact h17
    obtain ⟨w1, w2, w3⟩ := exS_wf hw j σ' he
    obtain ⟨q1, q2, q3, q4⟩ := hrec j hj
    have q1' := q1.fg f (fun a h1 h2 => by simp only [cmC]; omega)
    unfold lp_X13_street_156
    refine ⟨m1.1, fun hle => absurd (by rw [v17] at hle; exact hle) (nI_ge hj (by omega)), fun _ => S_R_comes (nw := sN σ) (ns := sS σ) (by omega) m1 hs q1' q2 q3 w2 w3 (fun σ2 hc M2 f2 hs2 => ⟨fun _ => ?_, fun z => absurd z (by decide)⟩) (fun hc M2 f2 => ⟨fun z => absurd rfl z, fun _ => ?_⟩)⟩
    · rw [nI_1]
      refine ih M2 σ2 ?_ (f.t2 f2) hs2
      rw [exS_s, he]
      show (match cmd σ' (b (pl j)) (nm j) with
        | none => Sum.inl j
        | some σ3 => Sum.inr σ3) = _
      rw [hc]
    · have m2 := m1.fg f2
      refine ⟨m2.1, fun M70 e70 M73 e73 M76 e76 M79 e79 M82 e82 => ?_⟩
      have f82 : Fg (cmC (sN σ) (sS σ)) M0 M82 := by
        rw [e82, e79, e76, e73, e70]
        exact (((((f.t2 f2).sI (Or.inl ⟨rfl, by omega⟩)).sI (Or.inl ⟨rfl, by omega⟩)).sI (Or.inl ⟨rfl, by omega⟩)).sI (Or.inl ⟨rfl, by omega⟩)).sI (Or.inl ⟨rfl, by omega⟩)
      have m82 := hm.fg f82
      have v94 : mI M82 94 j = nI (pl j) := by rw [f82.I (by simp only [cmC]; omega)]; exact q1.1
      have hex : exS b pl nm i σ = .inl j := by
        obtain ⟨m', rfl⟩ : ∃ m', i = j + 1 + m' := ⟨i - (j + 1), by omega⟩
        refine exS_in (j + 1) j ?_ m'
        rw [exS_s, he]
        show (match cmd σ' (b (pl j)) (nm j) with
          | none => Sum.inl j
          | some σ3 => Sum.inr σ3) = _
        rw [hc]
      have rs : RS M82 σ := by
        refine ⟨hw, ⟨?_, ?_, ?_, ?_, ?_⟩, fun k hk => ?_, fun k hk => ?_⟩
        · rw [e82, mI_uI, if_pos rfl, if_neg (by decide), e79, mI_uI, if_pos rfl, if_neg (by decide), e76, mI_uI, if_pos rfl, if_neg (by decide), e73, mI_uI, if_pos rfl, if_neg (by decide), e70, mI_uI, if_pos rfl, if_pos rfl]
        · rw [e82, mI_uI, if_pos rfl, if_neg (by decide), e79, mI_uI, if_pos rfl, if_neg (by decide), e76, mI_uI, if_pos rfl, if_neg (by decide), e73, mI_uI, if_pos rfl, if_pos rfl]
        · rw [e82, mI_uI, if_pos rfl, if_neg (by decide), e79, mI_uI, if_pos rfl, if_neg (by decide), e76, mI_uI, if_pos rfl, if_pos rfl]
        · rw [e82, mI_uI, if_pos rfl, if_neg (by decide), e79, mI_uI, if_pos rfl, if_pos rfl]
        · rw [e82, mI_uI, if_pos rfl, if_pos rfl]
        · rw [f82.I (by simp only [cmC]; omega), f82.I (by simp only [cmC]; omega)]; exact hr.2.2.1 k hk
        · rw [f82.I (by simp only [cmC]; omega), f82.I (by simp only [cmC]; omega), f82.I (by simp only [cmC]; omega)]; exact hr.2.2.2 k hk
      rw [m82.r18, m82.n18, nI_clamp (by omega), v94]
      refine ⟨m82.k18, vp_in_nI (by omega) (by omega), ?_⟩
      have ev : (-2000 : Int32) - nI (pl j) = iI (-2000 - (pl j : Int)) := by rw [nI_iI, show (-2000 : Int32) = iI (-2000) from rfl, iI_sub]
      rw [ev]
      exact hB M82 j hex f82 rs q4
theorem byN_by {e : Nat → Int} {i : Nat} (h : -128 ≤ e i ∧ e i < 128) : byN e i < 256 ∧ e i = byI (byN e i) := by
  unfold byN byI
  split
  · rw [if_pos (by omega)]; omega
  · rw [if_neg (by omega)]; omega
theorem S_X13_street {d : Int32} (h : AbsR M c) (hQ : ∀ M', Fg mdC8 M M' → AbsR M' (nStreet c d) → Q (aStreet c d) M') : wp_X13_street 87 d M Q := by
  refine th0 h (fun M1 h1 f1 z1 => ?_)
  have no : ¬ bR c d → Q (wNo c d) M1 := fun n => by
    have q := hQ M1 f1
    unfold nStreet aStreet at q
    rw [if_neg (fun z => n z.1), if_neg n] at q
    exact q h1
  have jno : ∀ x : Int32, ¬ (0 : Int32) ≤ x → Q x M1 → jn_X13_street_36 Q 87 d x M1 := fun x hx q => ⟨fun z => absurd z hx, fun _ => q⟩
  refine S_R_wrongRow h1 (fun g => ⟨fun z => absurd z (by decide), fun _ => ⟨h1.1.1, S_R_wrongRow h1 (fun _ => jno _ (by decide) ?_) (fun z => absurd z g) (fun z => absurd z g) (fun z => absurd z g)⟩⟩) (fun g g1 => ⟨fun z => absurd z (by decide), fun _ => ⟨h1.1.1, S_R_wrongRow h1 (fun z => absurd g z) (fun _ _ => jno _ (by decide) ?_) (fun _ z => by omega) (fun _ z => by omega)⟩⟩) (fun g g1 => ⟨fun z => absurd z (by decide), fun _ => ⟨h1.1.1, S_R_wrongRow h1 (fun z => absurd g z) (fun _ z => by omega) (fun _ _ => jno _ (by decide) ?_) (fun _ z => by omega)⟩⟩) (fun g g1 g2 g3 g4 g5 g6 => ⟨fun _ => ?_, fun z => absurd (by decide) z⟩)
  · have q := no (fun z => g z.1)
    unfold wNo at q
    rw [if_neg g] at q; exact q
  · have q := no (fun z => by have := z.2.1; omega)
    unfold wNo at q
    rw [if_pos g, if_pos g1] at q; exact q
  · have q := no (fun z => by have := z.2.1; omega)
    unfold wNo at q
    rw [if_pos g, if_neg (by omega)] at q; exact q
  · have hin := ix_vp g (N := 8) (by omega) (by omega)
    rw [h1.1.r52, h1.1.n52, ix_cl g (by omega), g3]
    have e0 : nI (cG c (ix d)).2.1 = (0 : Int32) ↔ (cG c (ix d)).2.1 = 0 := nI_eq (b := 0) (by omega) (by omega)
    refine ⟨h1.1.1, h1.1.k52, hin, fun z => ⟨fun _ => ?_, fun z => absurd (by decide) z⟩, fun z => jno _ (by decide) ?_⟩
    · have z := e0.mp z
      have br : bR c d := ⟨g, g1, z⟩
      -- what is answered, where the text can be read
      have hF : fmV (rB c d) (rL c d) < 0 → ∀ M', Fg mdC8 M M' → AbsR M' c → Q (iI (fmV (rB c d) (rL c d))) M' := fun hf M' fr ha => by
        have q := hQ M' fr
        unfold nStreet aStreet at q
        rw [if_neg (fun y => by have := y.2.1; omega), if_pos br, if_pos hf] at q
        exact q ha
      have hS : fmV (rB c d) (rL c d) = 0 → (tlV (rB c d) (rL c d) (cS c)).1 ≤ 0 → ∀ M', Fg mdC8 M M' → AbsR M' c → Q (iI (tlV (rB c d) (rL c d) (cS c)).1) M' := fun hf ht M' fr ha => by
        have q := hQ M' fr
        unfold nStreet aStreet at q
        rw [if_neg (fun y => by have := y.2.2; omega), if_pos br, if_neg (by omega)] at q
        exact q ha
      have hG : fmV (rB c d) (rL c d) = 0 → 0 < (tlV (rB c d) (rL c d) (cS c)).1 → ∀ M', Fg mdC8 M M' → AbsR M' (newS c (tlV (rB c d) (rL c d) (cS c)).2) → Q (iI (tlV (rB c d) (rL c d) (cS c)).1) M' := fun hf ht M' fr ha => by
        have q := hQ M' fr
        unfold nStreet aStreet at q
        rw [if_pos ⟨br, by omega, ht⟩, if_pos br, if_neg (by omega)] at q
        exact q ha
      clear hQ no
      have hby : ∀ i, i < rL c d → rB c d i < 256 ∧ mJ M1 118 (100 * ix d + i) = jI (byI (rB c d i)) := fun i hi => by
        obtain ⟨a1, a2⟩ := g6 i hi
        obtain ⟨b1, b2⟩ := byN_by (e := (cG c (ix d)).2.2.2) (i := i) (a1.2.2 z)
        refine ⟨b1, ?_⟩
        rw [a2]
        exact congrArg jI b2
      have hL : rL c d ≤ 100 := g4
      have g5 : mI M1 117 (ix d) = nI (rL c d) := g5
      generalize rB c d = b at *
      generalize rL c d = len at *
      obtain ⟨dd, hdd, rfl⟩ := ix_ex g (by omega)
      rw [ix_nI (by omega)] at g5 hby
      refine ⟨h1.1.1, fun M19 e19 => ?_⟩
      have f19 : Fg (fun a k => a = 87 ∧ (13 ≤ k ∧ k ≤ 17)) M1 M19 := by rw [e19]; exact Fg.pI ⟨rfl, by omega⟩
      have m19 := h1.1.fg f19
      have v53 : mI M19 117 dd = nI len := by rw [f19.I (by omega)]; exact g5
      rw [m19.r53, m19.n53, nI_clamp (by omega), v53]
      refine ⟨m19.k53, vp_in_nI hdd (by omega), fun M22 e22 M25 e25 M28 e28 M31 e31 => ?_⟩
      have f31 : Fg (fun a k => a = 87 ∧ (13 ≤ k ∧ k ≤ 17)) M1 M31 := by
        rw [e31, e28, e25, e22]
        exact (((f19.sI ⟨rfl, by omega⟩).sI ⟨rfl, by omega⟩).sI ⟨rfl, by omega⟩).sI ⟨rfl, by omega⟩
      have h31 : AbsR M31 c := h1.fg f31 (fun a k q => by simp only [coC]; omega)
      have e100 : (100 : Int32) * nI dd = nI (100 * dd) := pk_mul 100 dd
      have T31 : Tx M31 dd len b := by
        refine ⟨h31.1, hdd, hL, ?_, ?_, fun i hi => ⟨(hby i hi).1, ?_⟩⟩
        · rw [e31, mI_uI, if_pos rfl, if_neg (by decide), e28, mI_uI, if_pos rfl, if_neg (by decide), e25, mI_uI, if_pos rfl, if_neg (by decide), e22, mI_uI, if_pos rfl, if_neg (by decide), e19, mI_uI, if_pos rfl, if_pos rfl, e100]
        · rw [e31, mI_uI, if_pos rfl, if_neg (by decide), e28, mI_uI, if_pos rfl, if_neg (by decide), e25, mI_uI, if_pos rfl, if_neg (by decide), e22, mI_uI, if_pos rfl, if_pos rfl]
        · rw [f31.J (by omega)]; exact (hby i hi).2
      have A31 : At M31 0 false := by
        refine ⟨?_, ?_⟩
        · rw [e31, mI_uI, if_pos rfl, if_neg (by decide), e28, mI_uI, if_pos rfl, if_neg (by decide), e25, mI_uI, if_pos rfl, if_pos rfl]; rfl
        · rw [e31, mI_uI, if_pos rfl, if_neg (by decide), e28, mI_uI, if_pos rfl, if_pos rfl]; rfl
      have v17 : mI M31 87 17 = nI 0 := by rw [e31, mI_uI, if_pos rfl, if_pos rfl]; rfl
      have f31m : Fg mdC8 M M31 := f1.t2 (f31.m8 (fun a k q => by omega))
      have tx8 : ∀ a k, txC a k → 87 ≤ a ∧ a < 120 := fun a k q => by simp only [txC] at q; omega
      refine ⟨41, rd_go (M0 := M31) (fun M' t' fr m' v15 hle hf => ?_) (fun M' i pl nm p fr hi hi40 hf hI => ?_) 40 0 0 pZ (fun _ => 0) (fun _ _ => 0) M31 rfl Fg.rf ⟨T31, A31, v17, ⟨by omega, fun _ => rfl⟩, by omega, rfl, rfl, fun σ => ⟨fun σ' hx => ?_, fun j hx => ?_⟩, fun j hj => absurd hj (by omega)⟩⟩
      · have h4 : AbsR M' c := h31.fg fr (fun a k q => by simp only [txC] at q; simp only [coC]; omega)
        have q := hF (by omega) M' (f31m.t2 (fr.m8 tx8)) h4
        have ev : (-1000 : Int32) - nI t' = iI (-1000 - (t' : Int)) := by rw [nI_iI, show (-1000 : Int32) = iI (-1000) from rfl, iI_sub]
        rw [ev, ← hf]
        exact q
      · obtain ⟨i1, i2, i3, i4, i5, i6, i7, i8, i9⟩ := hI
        have h4 : AbsR M' c := h31.fg fr (fun a k q => by simp only [txC] at q; simp only [coC]; omega)
        have fm4 : Fg mdC8 M M' := f31m.t2 (fr.m8 tx8)
        obtain ⟨b1, b2, b3, b4, b5⟩ := h4.2.1.2.1
        obtain ⟨q1, q2⟩ := i8 (cS c)
        unfold jn_X13_street_108
        rw [i2.2]
        refine ⟨h4.1.1, fun _ y1 e1 y2 e2 y3 e3 y4 e4 y5 e5 => ?_, fun z => absurd rfl z⟩
        rw [b1] at e1
        rw [b2] at e2
        rw [b3] at e3
        rw [b4] at e4
        rw [b5] at e5
        subst e1 e2 e3 e4 e5
        have cm8 : ∀ a k, cmC (sN (cS c)) (sS (cS c)) a k → 87 ≤ a ∧ a < 120 := fun a k q => by simp only [cmC] at q; omega
        refine ex_go (b := b) (pl := pl) (nm := nm) h4.1 h4.2.1 hi40 i3 (fun j hj => ⟨(i9 j hj).1, (i9 j hj).2.1, (i9 j hj).2.2.1, by have := (i9 j hj).2.2.2; omega⟩) (fun M5 σ' hx f5 m5 s5 M6 f6 t6 => ?_) (fun M5 j hx f5 s5 hp => ?_)
        · have q1 := q1 σ' hx
          rw [Nat.sub_self] at q1
          have q1 : tlV b len (cS c) = ((i : Int), σ') := q1
          have q := hG hf (by rw [q1]; show (0 : Int) < (i : Int); omega) M6 ((fm4.t2 (f5.m8 cm8)).t2 (f6.m8 (fun a k q => by omega)))
          rw [q1] at q
          rw [nI_iI]
          refine q ⟨m5.fg f6, s5.fg f6 (fun a k q => by simp only [stC]; omega), t6, ?_, fun hi => ((h4.2.2.2.2.1 hi).fg f5 (fun k => by simp only [cmC]; omega)).fg f6 (fun k => by omega), fun d hd => ((h4.2.2.2.2.2 d hd).fg f5 (fun a k q => by simp only [cmC] at q; omega)).fg f6 (fun a k q => by omega)⟩
          rw [f6.I (by omega), f5.I (by simp only [cmC]; omega)]; exact h4.2.2.2.1
        · have q2 := q2 j hx
          have q := hS hf (by rw [q2]; omega) M5 (fm4.t2 (f5.m8 cm8))
          rw [q2] at q
          refine q ⟨h4.1.fg f5, s5, h4.2.2.1.fg f5 (by simp only [cmC]; omega) (fun k => by simp only [cmC]; omega), ?_, fun hi => (h4.2.2.2.2.1 hi).fg f5 (fun k => by simp only [cmC]; omega), fun d hd => (h4.2.2.2.2.2 d hd).fg f5 (fun a k q => by simp only [cmC] at q; omega)⟩
          rw [f5.I (by simp only [cmC]; omega)]; exact h4.2.2.2.1
      · have hx : (Sum.inr σ : Nat ⊕ StT) = .inr σ' := hx
        have hx := Sum.inr.inj hx
        rw [← hx]; rfl
      · have hx : (Sum.inr σ : Nat ⊕ StT) = .inl j := hx
        cases hx
    · have z := mt e0.mpr z
      have q := no (fun y => z y.2.2)
      unfold wNo at q
      rw [if_pos g, if_neg (by omega)] at q; exact q
end REF
