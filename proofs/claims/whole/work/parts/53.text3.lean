/-! TEXTS: whole texts -/
def run (b : Nat → Nat) : Nat → Nat → PsT → Nat ⊕ PsT
  | 0, _, p => .inr p
  | r + 1, t, p => match gw p (b t) with
    | none => .inl t
    | some p' => run b r (t + 1) p'
def formV (b : Nat → Nat) (len : Nat) (p : PsT) : Int := match run b len 0 p with
  | .inl t => -1000 - (t : Int)
  | .inr p' => if len ≠ 0 ∧ p'.1 = 0 then 0 else -1000 - (len : Int)
def cmd (σ : StT) (l : Nat) (n : Nat → Nat) : Option StT :=
  if l = 119 then (if canW σ (n 0) (n 1) then some (addW σ (n 0) (n 1)) else none)
  else if l = 99 then (if canC σ (n 0) (n 1) (n 2) then some (addC σ (n 0) (n 1) (n 2)) else none)
  else if l = 109 then (if n 0 ≤ 20 then some (setM σ (n 0)) else none)
  else if l = 107 then (if n 0 ≤ 9 then some (setK σ (n 0)) else none)
  else if l = 104 then (if 1 ≤ n 0 ∧ n 0 ≤ 6 then some (setH σ (n 0)) else none)
  else none
def tl (b : Nat → Nat) : Nat → Nat → Nat → Nat → PsT → StT → Int × StT
  | 0, _, _, cnt, _, σ => ((cnt : Int), σ)
  | r + 1, t, st, cnt, p, σ => match gw p (b t) with
    | none => (-1, σ)
    | some p' => if p'.1 = 0 then (match cmd σ (b st) p'.2.2.2 with
        | none => (-2000 - (st : Int), σ)
        | some σ' => tl b r (t + 1) (t + 1) (cnt + 1) p' σ')
      else tl b r (t + 1) st cnt p' σ
def Rl (p q : PsT) : Prop := p.1 = q.1 ∧ (p.1 ≠ 0 → p.2.1 = q.2.1 ∧ p.2.2.1 = q.2.2.1 ∧ ∀ k, k ≤ p.2.1 → p.2.2.2 k = q.2.2.2 k)
/-- what lay in the reader before a text changes nothing -/
theorem gw_rl {p q : PsT} {u : Nat} (h : Rl p q) : (gw p u = none ∧ gw q u = none) ∨ ∃ p' q', gw p u = some p' ∧ gw q u = some q' ∧ Rl p' q' ∧ (p.1 = 0 → p'.1 = u ∧ u ≠ 0) ∧ (p.1 ≠ 0 → p'.1 = 0 → ∀ k, k ≤ lastN p.1 → p'.2.2.2 k = q'.2.2.2 k) ∧ (p.1 ≠ 0 → p'.1 ≠ 0 → p'.1 = p.1) := by
  obtain ⟨l, f, d, n⟩ := p
  obtain ⟨l2, f2, d2, n2⟩ := q
  obtain ⟨h1, h2⟩ := h
  change l = l2 at h1
  subst h1
  change l ≠ 0 → f = f2 ∧ d = d2 ∧ ∀ k, k ≤ f → n k = n2 k at h2
  by_cases c0 : l = 0
  · subst c0
    by_cases c : isL u
    · right
      refine ⟨(u, 0, 0, put1 n 0 0), (u, 0, 0, put1 n2 0 0), ?_, ?_, ⟨rfl, fun _ => ⟨rfl, rfl, fun k hk => ?_⟩⟩, fun _ => ⟨rfl, by unfold isL at c; omega⟩, fun z => absurd rfl z, fun z => absurd rfl z⟩
      · show (if isL u then _ else _) = _; rw [if_pos c]
      · show (if isL u then _ else _) = _; rw [if_pos c]
      · change k ≤ 0 at hk
        show put1 n 0 0 k = put1 n2 0 0 k
        have : k = 0 := by omega
        subst this
        rfl
    · left
      refine ⟨?_, ?_⟩
      · show (if isL u then _ else _) = _; rw [if_neg c]
      · show (if isL u then _ else _) = _; rw [if_neg c]
  · obtain ⟨e1, e2, e3⟩ := h2 c0
    subst e1
    subst e2
    have ef := e3 f (Nat.le_refl _)
    by_cases c1 : 48 ≤ u ∧ u ≤ 57
    · by_cases c2 : d < roomN l f ∧ (d = 0 ∨ n f ≠ 0)
      · right
        refine ⟨(l, f, d + 1, put1 n f (n f * 10 + (u - 48))), (l, f, d + 1, put1 n2 f (n2 f * 10 + (u - 48))), ?_, ?_, ⟨rfl, fun _ => ⟨rfl, rfl, fun k hk => ?_⟩⟩, fun z => absurd z c0, fun _ z => absurd z c0, fun _ _ => rfl⟩
        · show (if l = 0 then _ else if 48 ≤ u ∧ u ≤ 57 then (if d < roomN l f ∧ (d = 0 ∨ n f ≠ 0) then _ else _) else _) = _
          rw [if_neg c0, if_pos c1, if_pos c2]
        · show (if l = 0 then _ else if 48 ≤ u ∧ u ≤ 57 then (if d < roomN l f ∧ (d = 0 ∨ n2 f ≠ 0) then _ else _) else _) = _
          rw [if_neg c0, if_pos c1, if_pos (by rw [← ef]; exact c2)]
        · show put1 n f _ k = put1 n2 f _ k
          unfold put1
          rw [ef, e3 k hk]
      · left
        refine ⟨?_, ?_⟩
        · show (if l = 0 then _ else if 48 ≤ u ∧ u ≤ 57 then (if d < roomN l f ∧ (d = 0 ∨ n f ≠ 0) then _ else _) else _) = _
          rw [if_neg c0, if_pos c1, if_neg c2]
        · show (if l = 0 then _ else if 48 ≤ u ∧ u ≤ 57 then (if d < roomN l f ∧ (d = 0 ∨ n2 f ≠ 0) then _ else _) else _) = _
          rw [if_neg c0, if_pos c1, if_neg (by rw [← ef]; exact c2)]
    · by_cases c2 : d = 0
      · left
        refine ⟨?_, ?_⟩
        · show (if l = 0 then _ else if 48 ≤ u ∧ u ≤ 57 then _ else if d = 0 then _ else _) = _
          rw [if_neg c0, if_neg c1, if_pos c2]
        · show (if l = 0 then _ else if 48 ≤ u ∧ u ≤ 57 then _ else if d = 0 then _ else _) = _
          rw [if_neg c0, if_neg c1, if_pos c2]
      · by_cases c3 : u = 32 ∧ f < lastN l
        · right
          refine ⟨(l, f + 1, 0, put1 n (f + 1) 0), (l, f + 1, 0, put1 n2 (f + 1) 0), ?_, ?_, ⟨rfl, fun _ => ⟨rfl, rfl, fun k hk => ?_⟩⟩, fun z => absurd z c0, fun _ z => absurd z c0, fun _ _ => rfl⟩
          · show (if l = 0 then _ else if 48 ≤ u ∧ u ≤ 57 then _ else if d = 0 then _ else if u = 32 ∧ f < lastN l then _ else _) = _
            rw [if_neg c0, if_neg c1, if_neg c2, if_pos c3]
          · show (if l = 0 then _ else if 48 ≤ u ∧ u ≤ 57 then _ else if d = 0 then _ else if u = 32 ∧ f < lastN l then _ else _) = _
            rw [if_neg c0, if_neg c1, if_neg c2, if_pos c3]
          · change k ≤ f + 1 at hk
            show put1 n (f + 1) 0 k = put1 n2 (f + 1) 0 k
            unfold put1
            by_cases c : k = f + 1
            · rw [if_pos c, if_pos c]
            · rw [if_neg c, if_neg c]; exact e3 k (by omega)
        · by_cases c4 : u = 59 ∧ f = lastN l
          · right
            refine ⟨(0, f, d, n), (0, f, d, n2), ?_, ?_, ⟨rfl, fun z => absurd rfl z⟩, fun z => absurd z c0, fun _ _ k hk => e3 k (by rw [c4.2]; exact hk), fun _ z => absurd rfl z⟩
            · show (if l = 0 then _ else if 48 ≤ u ∧ u ≤ 57 then _ else if d = 0 then _ else if u = 32 ∧ f < lastN l then _ else if u = 59 ∧ f = lastN l then _ else _) = _
              rw [if_neg c0, if_neg c1, if_neg c2, if_neg c3, if_pos c4]
            · show (if l = 0 then _ else if 48 ≤ u ∧ u ≤ 57 then _ else if d = 0 then _ else if u = 32 ∧ f < lastN l then _ else if u = 59 ∧ f = lastN l then _ else _) = _
              rw [if_neg c0, if_neg c1, if_neg c2, if_neg c3, if_pos c4]
          · left
            refine ⟨?_, ?_⟩
            · show (if l = 0 then _ else if 48 ≤ u ∧ u ≤ 57 then _ else if d = 0 then _ else if u = 32 ∧ f < lastN l then _ else if u = 59 ∧ f = lastN l then _ else _) = _
              rw [if_neg c0, if_neg c1, if_neg c2, if_neg c3, if_neg c4]
            · show (if l = 0 then _ else if 48 ≤ u ∧ u ≤ 57 then _ else if d = 0 then _ else if u = 32 ∧ f < lastN l then _ else if u = 59 ∧ f = lastN l then _ else _) = _
              rw [if_neg c0, if_neg c1, if_neg c2, if_neg c3, if_neg c4]
theorem run_rl {b : Nat → Nat} : ∀ r t (p q : PsT), Rl p q → (∃ a, run b r t p = .inl a ∧ run b r t q = .inl a) ∨ ∃ p' q', run b r t p = .inr p' ∧ run b r t q = .inr q' ∧ p'.1 = q'.1
  | 0, t, p, q, h => Or.inr ⟨p, q, rfl, rfl, h.1⟩
  | r + 1, t, p, q, h => by
    rcases gw_rl (u := b t) h with ⟨h1, h2⟩ | ⟨p', q', h1, h2, h3, -⟩
    · left
      refine ⟨t, ?_, ?_⟩
      · show (match gw p (b t) with | none => _ | some p' => _) = _; rw [h1]
      · show (match gw q (b t) with | none => _ | some p' => _) = _; rw [h2]
    · have e1 : run b (r + 1) t p = run b r (t + 1) p' := by
        show (match gw p (b t) with | none => _ | some p' => _) = _; rw [h1]
      have e2 : run b (r + 1) t q = run b r (t + 1) q' := by
        show (match gw q (b t) with | none => _ | some p' => _) = _; rw [h2]
      rw [e1, e2]
      exact run_rl r (t + 1) p' q' h3
abbrev pZ : PsT := (0, 0, 0, fun _ => 0)
theorem rl_Z {p : PsT} (h : p.1 = 0) : Rl p pZ := ⟨h, fun z => absurd h z⟩
theorem formV_Z {b : Nat → Nat} {len : Nat} {p : PsT} (h : p.1 = 0) : formV b len p = formV b len pZ := by
  unfold formV
  rcases run_rl (b := b) len 0 p pZ (rl_Z h) with ⟨a, h1, h2⟩ | ⟨p', q', h1, h2, h3⟩
  · rw [h1, h2]
  · rw [h1, h2]
    show (if len ≠ 0 ∧ p'.1 = 0 then _ else _) = (if len ≠ 0 ∧ q'.1 = 0 then _ else _)
    rw [h3]
theorem cmd_rl {σ : StT} {l : Nat} {n m : Nat → Nat} (h : ∀ k, k ≤ lastN l → n k = m k) : cmd σ l n = cmd σ l m := by
  have h0 := h 0 (Nat.zero_le _)
  unfold cmd
  by_cases c1 : l = 119
  · subst c1
    rw [if_pos rfl, if_pos rfl, h0, h 1 (by decide)]
  · rw [if_neg c1, if_neg c1]
    by_cases c2 : l = 99
    · subst c2
      rw [if_pos rfl, if_pos rfl, h0, h 1 (by decide), h 2 (by decide)]
    · rw [if_neg c2, if_neg c2, h0]
theorem tl_rl {b : Nat → Nat} : ∀ r t st cnt (p q : PsT) (σ : StT), Rl p q → (p.1 ≠ 0 → p.1 = b st) → (p.1 = 0 → st = t) → tl b r t st cnt p σ = tl b r t st cnt q σ
  | 0, t, st, cnt, p, q, σ, h, _, _ => rfl
  | r + 1, t, st, cnt, p, q, σ, h, ha, hb => by
    rcases gw_rl (u := b t) h with ⟨h1, h2⟩ | ⟨p', q', h1, h2, h3, h4, h5, h6⟩
    · show (match gw p (b t) with | none => _ | some p' => _) = (match gw q (b t) with | none => _ | some p' => _)
      rw [h1, h2]
    · show (match gw p (b t) with | none => _ | some p' => _) = (match gw q (b t) with | none => _ | some p' => _)
      rw [h1, h2]
      show (if p'.1 = 0 then _ else _) = (if q'.1 = 0 then _ else _)
      rw [← h3.1]
      by_cases c : p'.1 = 0
      · rw [if_pos c, if_pos c]
        have pn : p.1 ≠ 0 := fun z => by have := h4 z; omega
        have ec := cmd_rl (σ := σ) (l := b st) (n := p'.2.2.2) (m := q'.2.2.2) (fun k hk => h5 pn c k (by rw [ha pn]; exact hk))
        show (match cmd σ (b st) p'.2.2.2 with | none => _ | some σ' => _) = (match cmd σ (b st) q'.2.2.2 with | none => _ | some σ' => _)
        rw [ec]
        cases cmd σ (b st) q'.2.2.2 with
        | none => rfl
        | some σ' => exact tl_rl r (t + 1) (t + 1) (cnt + 1) p' q' σ' h3 (fun z => absurd c z) (fun _ => rfl)
      · rw [if_neg c, if_neg c]
        refine tl_rl r (t + 1) st cnt p' q' σ h3 (fun _ => ?_) (fun z => absurd z c)
        by_cases c0 : p.1 = 0
        · rw [hb c0, (h4 c0).1]
        · rw [h6 c0 c, ha c0]
def fmV (b : Nat → Nat) (len : Nat) : Int := formV b len pZ
def tlV (b : Nat → Nat) (len : Nat) (σ : StT) : Int × StT := tl b len 0 0 0 pZ σ
section TEXT
variable {M : Mem} {x s q len : Nat} {b : Nat → Nat} {p : PsT} {σ : StT} {Q : Int32 → Mem → Prop} {QV0 : Mem → Prop}
def byAt (M : Mem) (q len : Nat) (b : Nat → Nat) : Prop := ShOK M q ∧ len ≤ 100 ∧ mI M q 2 = nI len ∧ ∀ i, i < len → b i < 256 ∧ mI M (q + 1) i = sb (b i)
theorem byAt.fr {A : Nat → Prop} {M M' : Mem} (h : byAt M q len b) (f : Fr A M M') (h0 : ¬ A q) (h1 : ¬ A (q + 1)) : byAt M' q len b := by
  refine ⟨h.1.fr f, h.2.1, ?_⟩
  rw [f.I h0, f.I h1]
  exact h.2.2
theorem S_X7_formFault (hq : byAt M q len b) (h : PsAt M x p) (hd : apart q 2 x 2) (hQ : ∀ p0 p' M', p0.1 = 0 → Fr (txA x) M M' → PsAt M' x p' → Q (iI (formV b len p0)) M') : wp_X7_formFault x q M Q := by
  unfold apart at hd
  refine ⟨h.1.1, fun M1 e1 => ?_⟩
  have f1 : Fr (txA x) M M1 := by rw [e1]; exact Fr.uI (Or.inl rfl)
  have h1 : PsAt M1 x (0, p.2.1, p.2.2.1, p.2.2.2) := by
    refine ⟨h.1.fr f1, ⟨by show 0 < 128; omega, h.2.1.2.1, h.2.1.2.2.1, h.2.1.2.2.2.1, fun z => absurd rfl z⟩, ?_, ?_, ?_, fun k hk => ?_⟩
    · rw [e1, mI_uI, if_pos rfl, if_pos rfl]; rfl
    · rw [e1, mI_uI, if_pos rfl, if_neg (by decide)]; exact h.2.2.2.1
    · rw [e1, mI_uI, if_pos rfl, if_neg (by decide)]; exact h.2.2.2.2.1
    · rw [e1, mI_uI, if_neg (by omega)]; exact h.2.2.2.2.2 k hk
  generalize hp0 : ((0, p.2.1, p.2.2.1, p.2.2.2) : PsT) = p0 at h1
  have hz : p0.1 = 0 := by rw [← hp0]
  have hQ := fun p' M' => hQ p0 p' M' hz
  refine for_up (fun m i => ∀ M' p', Fr (txA x) M M' → PsAt M' x p' → run b len 0 p0 = run b (len - i) i p' → lp_X7_formFault_7 Q m x q (nI i) M') len (fun m M' p' fr hp hr => ?_) (fun m i hi ih M' p' fr hp hr => ?_) |> fun ⟨m, hm⟩ => ⟨m, hm M1 p0 f1 h1 rfl⟩
  · have qa := hq.fr fr (by simp only [txA]; omega) (by simp only [txA]; omega)
    have hq' := hQ p' M' fr hp
    rw [Nat.sub_self] at hr
    have hF : formV b len p0 = if len ≠ 0 ∧ p'.1 = 0 then 0 else -1000 - (len : Int) := by
      unfold formV; rw [hr]; rfl
    rw [hF] at hq'
    have pl := hp.2.1.1
    have lq := hq.2.1
    unfold lp_X7_formFault_7
    rw [qa.2.2.1, hp.2.2.1]
    have el : nI len ≤ (0 : Int32) ↔ len ≤ 0 := nI_le31 (b := 0) (by omega) (by omega)
    have e0 : nI p'.1 = (0 : Int32) ↔ p'.1 = 0 := nI_eq (b := 0) (by omega) (by omega)
    have er : (-1000 : Int32) - nI len = iI (-1000 - (len : Int)) := by rw [nI_iI, show (-1000 : Int32) = iI (-1000) from rfl, iI_sub]
    rw [er]
    refine ⟨qa.1.1, fun _ => ⟨fun z => ?_, fun z => ⟨hp.1.1, fun y => ?_, fun y => ?_⟩⟩, fun hn => absurd (nI_le (Nat.le_refl _) (by omega)) hn⟩
    · rw [if_neg (fun w => by have := el.mp z; omega)] at hq'; exact hq'
    · rw [if_neg (fun w => y (e0.mpr w.2))] at hq'; exact hq'
    · rw [if_pos ⟨by have := mt el.mpr z; omega, e0.mp y⟩] at hq'; exact hq'
  · have qa := hq.fr fr (by simp only [txA]; omega) (by simp only [txA]; omega)
    have lq := hq.2.1
    obtain ⟨b1, b2⟩ := qa.2.2.2 i hi
    unfold lp_X7_formFault_7
    refine ⟨qa.1.1, fun hle => absurd (by rw [qa.2.2.1] at hle; exact hle) (nI_ge hi (by omega)), fun _ => ?_⟩
    rw [qa.1.2.1, qa.1.2.2.2, nI_clamp (by omega), b2]
    have e2 : len - i = (len - (i + 1)) + 1 := by omega
    rw [e2] at hr
    refine ⟨qa.1.2.2.1, vp_in_nI (by omega) (by omega), hp.1.1, S_X7_goesOnWith hp b1 (fun p2 hg M2 f2 hp2 => ⟨fun _ => ?_, fun z => absurd z (by decide)⟩) (fun hg => ⟨fun z => absurd rfl z, fun _ => ?_⟩)⟩
    · rw [nI_1]
      refine ih M2 p2 (fr.t2 f2) hp2 (hr.trans ?_)
      show (match gw p' (b i) with | none => _ | some p' => _) = _
      rw [hg]
    · have hF : formV b len p0 = -1000 - (i : Int) := by
        have : run b len 0 p0 = .inl i := by
          rw [hr]
          show (match gw p' (b i) with | none => _ | some p' => _) = _
          rw [hg]
        unfold formV; rw [this]
      have hq' := hQ p' M' fr hp
      rw [hF] at hq'
      rw [nI_iI, show (-1000 : Int32) = iI (-1000) from rfl, iI_sub]
      exact hq'
theorem S_X7_carryOut {l : Nat} (h : PsAt M x p) (hs : StAt M s σ) (hl : l < 256) (h1 : ∀ σ', cmd σ l p.2.2.2 = some σ' → ∀ M', Fr (stA s) M M' → StAt M' s σ' → Q 1 M') (h0 : cmd σ l p.2.2.2 = none → Q 0 M) : wp_X7_carryOut x s (sb l) M Q := by
  obtain ⟨ht, hp, -, -, -, hN⟩ := h
  have n0 := hp.2.2.2.1 0
  have n1 := hp.2.2.2.1 1
  have n2 := hp.2.2.2.1 2
  have c0 : (0 : Int32).toNatClampNeg = 0 := by decide
  have c1 : (1 : Int32).toNatClampNeg = 1 := by decide
  have c2 : (2 : Int32).toNatClampNeg = 2 := by decide
  have v0 : vp_in (0 : Int32) 3 := vp_in_nI (n := 0) (by omega) (by omega)
  have v1 : vp_in (1 : Int32) 3 := vp_in_nI (n := 1) (by omega) (by omega)
  have v2 : vp_in (2 : Int32) 3 := vp_in_nI (n := 2) (by omega) (by omega)
  have sA : stA s s := by simp only [stA]; omega
  have ek : ∀ k, k < 128 → (sb l = nI k ↔ l = k) := fun k hk => sb_eq hl hk
  unfold wp_X7_carryOut
  rw [ht.2.1, ht.2.2.2, c0, c1, c2, hN 0 (by omega), hN 1 (by omega), hN 2 (by omega)]
  have g0 := ek
  refine ⟨fun z => ?_, fun z => ?_, fun z => ?_, fun z => ?_, fun z => ?_, fun z1 z2 z3 z4 z5 => ?_⟩
  · have z := (ek 99 (by omega)).mp z
    subst z
    have hc : cmd σ 99 p.2.2.2 = if canC σ (p.2.2.2 0) (p.2.2.2 1) (p.2.2.2 2) then some (addC σ (p.2.2.2 0) (p.2.2.2 1) (p.2.2.2 2)) else none := rfl
    rw [hc] at h1 h0
    refine ⟨ht.1, ht.2.2.1, v0, v1, v2, hs.1.1, S_X6_addSort hs n0 n1 n2 (fun can M' f hs' => ⟨Or.inr rfl, ?_⟩) (fun can => ⟨Or.inl rfl, ?_⟩)⟩
    · rw [if_pos can] at h1; exact h1 _ rfl M' f hs'
    · rw [if_neg can] at h0; exact h0 rfl
  · have z := (ek 104 (by omega)).mp z
    subst z
    have hc : cmd σ 104 p.2.2.2 = if 1 ≤ p.2.2.2 0 ∧ p.2.2.2 0 ≤ 6 then some (setH σ (p.2.2.2 0)) else none := rfl
    rw [hc] at h1 h0
    have l1 : nI (p.2.2.2 0) < (1 : Int32) ↔ p.2.2.2 0 < 1 := nI_lt31 (b := 1) (by omega) (by omega)
    have l6 : (6 : Int32) < nI (p.2.2.2 0) ↔ 6 < p.2.2.2 0 := nI_lt31 (a := 6) (by omega) (by omega)
    refine ⟨ht.1, ht.2.2.1, v0, hs.1.1, S_X6_change hs.1.1 (fun q => absurd q (by decide)) (fun q => absurd q (by decide)) (fun _ y w => ⟨Or.inr rfl, ?_⟩) (fun _ _ q => ⟨Or.inl rfl, ?_⟩)⟩
    · have y := mt l1.mpr y
      have w := mt l6.mpr w
      rw [if_pos ⟨by omega, by omega⟩] at h1
      exact h1 _ rfl _ (Fr.uI sA) (hs.setH ⟨by omega, by omega⟩)
    · rw [if_neg (fun w => by rcases q rfl with q | q; (have := l1.mp q; omega); (have := l6.mp q; omega))] at h0
      exact h0 rfl
  · have z := (ek 107 (by omega)).mp z
    subst z
    have hc : cmd σ 107 p.2.2.2 = if p.2.2.2 0 ≤ 9 then some (setK σ (p.2.2.2 0)) else none := rfl
    rw [hc] at h1 h0
    have l6 : (9 : Int32) < nI (p.2.2.2 0) ↔ 9 < p.2.2.2 0 := nI_lt31 (a := 9) (by omega) (by omega)
    refine ⟨ht.1, ht.2.2.1, v0, hs.1.1, S_X6_change hs.1.1 (fun q => absurd q (by decide)) (fun _ y w => ⟨Or.inr rfl, ?_⟩) (fun q => absurd q (by decide)) (fun _ q _ => ⟨Or.inl rfl, ?_⟩)⟩
    · have w := mt l6.mpr w
      rw [if_pos (by omega)] at h1
      exact h1 _ rfl _ (Fr.uI sA) (hs.setK (by omega))
    · rw [if_neg (fun w => by rcases q rfl with q | q; exact absurd q (nI_pos (by omega)); (have := l6.mp q; omega))] at h0
      exact h0 rfl
  · have z := (ek 109 (by omega)).mp z
    subst z
    have hc : cmd σ 109 p.2.2.2 = if p.2.2.2 0 ≤ 20 then some (setM σ (p.2.2.2 0)) else none := rfl
    rw [hc] at h1 h0
    have l6 : (20 : Int32) < nI (p.2.2.2 0) ↔ 20 < p.2.2.2 0 := nI_lt31 (a := 20) (by omega) (by omega)
    refine ⟨ht.1, ht.2.2.1, v0, hs.1.1, S_X6_change hs.1.1 (fun _ y w => ⟨Or.inr rfl, ?_⟩) (fun q => absurd q (by decide)) (fun q => absurd q (by decide)) (fun q _ _ => ⟨Or.inl rfl, ?_⟩)⟩
    · have w := mt l6.mpr w
      rw [if_pos (by omega)] at h1
      exact h1 _ rfl _ (Fr.uI sA) (hs.setM (by omega))
    · rw [if_neg (fun w => by rcases q rfl with q | q; exact absurd q (nI_pos (by omega)); (have := l6.mp q; omega))] at h0
      exact h0 rfl
  · have z := (ek 119 (by omega)).mp z
    subst z
    have hc : cmd σ 119 p.2.2.2 = if canW σ (p.2.2.2 0) (p.2.2.2 1) then some (addW σ (p.2.2.2 0) (p.2.2.2 1)) else none := rfl
    rw [hc] at h1 h0
    refine ⟨ht.1, ht.2.2.1, v0, v1, hs.1.1, S_X6_addWorth hs n0 n1 (fun can M' f hs' => ⟨Or.inr rfl, ?_⟩) (fun can => ⟨Or.inl rfl, ?_⟩)⟩
    · rw [if_pos can] at h1; exact h1 _ rfl M' f hs'
    · rw [if_neg can] at h0; exact h0 rfl
  · refine h0 ?_
    unfold cmd
    rw [if_neg (fun w => z5 ((ek 119 (by omega)).mpr w)), if_neg (fun w => z1 ((ek 99 (by omega)).mpr w)), if_neg (fun w => z4 ((ek 109 (by omega)).mpr w)), if_neg (fun w => z3 ((ek 107 (by omega)).mpr w)), if_neg (fun w => z2 ((ek 104 (by omega)).mpr w))]
/-- the end of a text: what a text tells, whatever lay in the reader before -/
theorem S_X7_tellTo (hq : byAt M q len b) (h : PsAt M x p) (hs : StAt M s σ) (hd : apart q 2 x 2) (hd2 : apart q 2 s 8) (hd3 : apart x 2 s 8)
    (hF : fmV b len < 0 → ∀ p' M', Fr (txA x) M M' → PsAt M' x p' → Q (iI (fmV b len)) M')
    (hY : 0 ≤ fmV b len → ∀ p' M', Fr (fun y => txA x y ∨ stA s y) M M' → PsAt M' x p' → (0 ≤ (tlV b len σ).1 → StAt M' s (tlV b len σ).2) → Q (iI (tlV b len σ).1) M') : wp_X7_tellTo x s q M Q := by
  unfold apart at hd hd2 hd3
  have lq := hq.2.1
  refine ⟨h.1.1, S_X7_formFault hq h (by unfold apart; omega) (fun p0 p2 M2 hz f2 h2 => ?_)⟩
  have fr0 : -2000 ≤ formV b len p0 ∧ formV b len p0 ≤ 0 := by
    unfold formV
    have : ∀ r t p, t + r ≤ 100 → ∀ a, run b r t p = .inl a → a < 100 := by
      intro r
      induction r with
      | zero => intro t p _ a ha; exact absurd ha (by unfold run; simp)
      | succ r ih =>
        intro t p ht a ha
        unfold run at ha
        split at ha
        · injection ha with ha; omega
        · exact ih _ _ (by omega) a ha
    split
    · rename_i a ha; have := this len 0 p0 (by omega) a ha; omega
    · split <;> omega
  have e0 : (0 : Int32) ≤ iI (formV b len p0) ↔ 0 ≤ formV b len p0 := iI_le (a := 0) (by omega) (by omega)
  refine ⟨fun z => ⟨h2.1.1, fun M8 e8 => ?_⟩, fun z => by have z := mt e0.mpr z; have hF := fun w => hF w p2 M2 f2 h2; unfold fmV at hF; rw [← formV_Z hz] at hF; exact hF (by omega)⟩
  have z := e0.mp z
  have f8 : Fr (txA x) M M8 := by rw [e8]; exact f2.t2 (Fr.uI (Or.inl rfl))
  have h8 : PsAt M8 x (0, p2.2.1, p2.2.2.1, p2.2.2.2) := by
    refine ⟨h.1.fr f8, ⟨by show 0 < 128; omega, h2.2.1.2.1, h2.2.1.2.2.1, h2.2.1.2.2.2.1, fun z => absurd rfl z⟩, ?_, ?_, ?_, fun k hk => ?_⟩
    · rw [e8, mI_uI, if_pos rfl, if_pos rfl]; rfl
    · rw [e8, mI_uI, if_pos rfl, if_neg (by decide)]; exact h2.2.2.2.1
    · rw [e8, mI_uI, if_pos rfl, if_neg (by decide)]; exact h2.2.2.2.2.1
    · rw [e8, mI_uI, if_neg (by omega)]; exact h2.2.2.2.2.2 k hk
  generalize hp1 : ((0, p2.2.1, p2.2.2.1, p2.2.2.2) : PsT) = p1 at h8
  have hz1 : p1.1 = 0 := by rw [← hp1]
  have hY := fun p' M' => hY (show 0 ≤ formV b len pZ by rw [← formV_Z hz]; exact z) p' M'
  have tZ : tlV b len σ = tl b len 0 0 0 p1 σ := (tl_rl len 0 0 0 p1 pZ σ (rl_Z hz1) (fun w => absurd hz1 w) (fun _ => rfl)).symm
  rw [tZ] at hY
  have ok1 : ∃ pf, run b len 0 p1 = .inr pf := by
    rcases run_rl (b := b) len 0 p0 p1 ⟨hz.trans hz1.symm, fun w => absurd hz w⟩ with ⟨a, h1, h2⟩ | ⟨p', q', h1, h2, h3⟩
    · unfold formV at z; rw [h1] at z; change 0 ≤ -1000 - (a : Int) at z; omega
    · exact ⟨q', h2⟩
  have s8 : StAt M8 s σ := hs.fr f8 (by simp only [txA]; omega) (by simp only [txA]; omega) (by simp only [txA]; omega) (by simp only [txA]; omega) (by simp only [txA]; omega) (by simp only [txA]; omega)
  have tot : ∀ r t st cnt p σ, t + r ≤ 100 → st ≤ t → cnt ≤ t → -3000 ≤ (tl b r t st cnt p σ).1 ∧ (tl b r t st cnt p σ).1 ≤ 1000 := by
    intro r
    induction r with
    | zero => intro t st cnt p σ h1 h2 h3; show -3000 ≤ (cnt : Int) ∧ (cnt : Int) ≤ 1000; omega
    | succ r ih =>
      intro t st cnt p σ h1 h2 h3
      unfold tl
      split
      · show -3000 ≤ (-1 : Int) ∧ (-1 : Int) ≤ 1000; omega
      · split
        · split
          · show -3000 ≤ -2000 - (st : Int) ∧ -2000 - (st : Int) ≤ 1000; omega
          · exact ih _ _ _ _ _ (by omega) (by omega) (by omega)
        · exact ih _ _ _ _ _ (by omega) (by omega) (by omega)
  refine for_up (fun m i => ∀ M' p' σ' st cnt, Fr (fun y => txA x y ∨ stA s y) M M' → PsAt M' x p' → StAt M' s σ' → st ≤ i → st < len ∨ i = len → cnt ≤ i → tl b len 0 0 0 p1 σ = tl b (len - i) i st cnt p' σ' → (∃ pf, run b (len - i) i p' = .inr pf) → lp_X7_tellTo_26 Q m x s q (nI cnt) (nI st) (nI i) M') len (fun m M' p' σ' st cnt fr hp hs' h1 h2 h3 hr ok => ?_) (fun m i hi ih M' p' σ' st cnt fr hp hs' h1 h2 h3 hr ok => ?_) |> fun ⟨m, hm⟩ => ⟨m, hm M8 p1 σ 0 0 (f8.mono (fun y hy => Or.inl hy)) h8 s8 (Nat.le_refl _) (by omega) (Nat.le_refl _) rfl ok1⟩
  · have qa := hq.fr fr (by simp only [txA, stA]; omega) (by simp only [txA, stA]; omega)
    unfold lp_X7_tellTo_26
    rw [qa.2.2.1]
    rw [Nat.sub_self] at hr
    refine ⟨qa.1.1, fun _ => ?_, fun hn => absurd (nI_le (Nat.le_refl _) (by omega)) hn⟩
    have hq' := hY p' M' fr hp
    rw [hr] at hq'
    rw [nI_iI]
    exact hq' (fun _ => hs')
  · have qa := hq.fr fr (by simp only [txA, stA]; omega) (by simp only [txA, stA]; omega)
    obtain ⟨b1, b2⟩ := qa.2.2.2 i hi
    unfold lp_X7_tellTo_26
    refine ⟨qa.1.1, fun hle => absurd (by rw [qa.2.2.1] at hle; exact hle) (nI_ge hi (by omega)), fun _ => ?_⟩
    rw [qa.1.2.1, qa.1.2.2.2, nI_clamp (by omega), b2]
    have e2 : len - i = (len - (i + 1)) + 1 := by omega
    rw [e2] at hr ok
    obtain ⟨pf, hpf⟩ := ok
    change (match gw p' (b i) with | none => .inl i | some p' => run b (len - (i + 1)) (i + 1) p') = Sum.inr pf at hpf
    refine ⟨qa.1.2.2.1, vp_in_nI (by omega) (by omega), hp.1.1, S_X7_goesOnWith hp b1 (fun p3 hg M3 f3 hp3 => ?_) (fun hg => ?_)⟩
    · have fr3 : Fr (fun y => txA x y ∨ stA s y) M M3 := fr.t2 (f3.mono (fun y hy => Or.inl hy))
      have q3 := hq.fr fr3 (by simp only [txA, stA]; omega) (by simp only [txA, stA]; omega)
      have s3 : StAt M3 s σ' := hs'.fr f3 (by simp only [txA]; omega) (by simp only [txA]; omega) (by simp only [txA]; omega) (by simp only [txA]; omega) (by simp only [txA]; omega) (by simp only [txA]; omega)
      have pl := hp3.2.1.1
      have e0 : nI p3.1 = (0 : Int32) ↔ p3.1 = 0 := nI_eq (b := 0) (by omega) (by omega)
      rw [hp3.2.2.1]
      refine ⟨hp3.1.1, fun y => ?_, fun y => ⟨q3.1.1, ?_⟩⟩
      · unfold jn_X7_tellTo_85
        rw [nI_1]
        refine ih M3 p3 σ' st cnt fr3 hp3 s3 (by omega) (by omega) (by omega) (hr.trans ?_) ⟨pf, by rw [hg] at hpf; exact hpf⟩
        show (match gw p' (b i) with | none => _ | some p' => _) = _
        rw [hg]
        show (if p3.1 = 0 then _ else _) = _
        rw [if_neg (mt e0.mpr y)]
      · obtain ⟨c1, c2⟩ := q3.2.2.2 st (by omega)
        rw [q3.1.2.1, q3.1.2.2.2, nI_clamp (by omega), c2]
        refine ⟨q3.1.2.2.1, vp_in_nI (by omega) (by omega), S_X7_carryOut hp3 s3 c1 (fun σ2 hc M4 f4 s4 => ⟨fun _ y29 e29 => ?_, fun w => absurd w (by decide)⟩) (fun hc => ⟨fun w => absurd rfl w, fun _ => ?_⟩)⟩
        · unfold jn_X7_tellTo_85
          rw [e29, nI_1, nI_1]
          have h4 : PsAt M4 x p3 := hp3.fr f4 (by simp only [stA]; omega) (by simp only [stA]; omega)
          refine ih M4 p3 σ2 (i + 1) (cnt + 1) (fr3.t2 (f4.mono (fun y hy => Or.inr hy))) h4 s4 (by omega) (by omega) (by omega) (hr.trans ?_) ⟨pf, by rw [hg] at hpf; exact hpf⟩
          show (match gw p' (b i) with | none => _ | some p' => _) = _
          rw [hg]
          show (if p3.1 = 0 then _ else _) = _
          rw [if_pos (e0.mp y)]
          show (match cmd σ' (b st) p3.2.2.2 with | none => _ | some σ' => _) = _
          rw [hc]
        · have hT : tl b len 0 0 0 p1 σ = (-2000 - (st : Int), σ') := by
            refine hr.trans ?_
            show (match gw p' (b i) with | none => _ | some p' => _) = _
            rw [hg]
            show (if p3.1 = 0 then _ else _) = _
            rw [if_pos (e0.mp y)]
            show (match cmd σ' (b st) p3.2.2.2 with | none => _ | some σ' => _) = _
            rw [hc]
          have hq' := hY p3 M3 fr3 hp3
          rw [hT] at hq'
          rw [nI_iI, show (-2000 : Int32) = iI (-2000) from rfl, iI_sub]
          exact hq' (fun w => by change 0 ≤ -2000 - (st : Int) at w; omega)
    · -- a sign that does not go on: the form has been looked at
      rw [hg] at hpf; exact absurd hpf (by simp)
end TEXT
