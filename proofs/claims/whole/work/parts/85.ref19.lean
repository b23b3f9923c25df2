/-! TEXTS: what is read number by number is what is read sign by sign -/
theorem run_app {b : Nat → Nat} : ∀ r s t (p : PsT), run b (r + s) t p = (match run b r t p with
    | .inl x => Sum.inl x
    | .inr p' => run b s (t + r) p')
  | 0, s, t, p => by rw [Nat.zero_add, Nat.add_zero]; rfl
  | r + 1, s, t, p => by
    rw [Nat.succ_add]
    show (match gw p (b t) with
      | none => Sum.inl t
      | some p' => run b (r + s) (t + 1) p') = (match (match gw p (b t) with
        | none => Sum.inl t
        | some p' => run b r (t + 1) p') with
      | .inl x => Sum.inl x
      | .inr p' => run b s (t + (r + 1)) p')
    cases gw p (b t) with
    | none => rfl
    | some p' =>
      show run b (r + s) (t + 1) p' = _
      rw [run_app r s (t + 1) p', show t + 1 + r = t + (r + 1) by omega]
def Rn (b : Nat → Nat) (t : Nat) (p : PsT) : Prop := run b t 0 pZ = .inr p
theorem Rn.step {b : Nat → Nat} {t : Nat} {p p' : PsT} (h : Rn b t p) (g : gw p (b t) = some p') : Rn b (t + 1) p' := by
  unfold Rn at *
  rw [run_app, h]
  show run b 1 (0 + t) p = _
  rw [Nat.zero_add]
  show (match gw p (b t) with
    | none => Sum.inl t
    | some p' => run b 0 (t + 1) p') = _
  rw [g]; rfl
theorem Rn.bad {b : Nat → Nat} {t len : Nat} {p : PsT} (h : Rn b t p) (ht : t < len) (g : gw p (b t) = none) : fmV b len = -1000 - (t : Int) := by
  have e : run b len 0 pZ = .inl t := by
    unfold Rn at h
    obtain ⟨s, rfl⟩ : ∃ s, len = t + (s + 1) := ⟨len - t - 1, by omega⟩
    rw [run_app, h]
    show run b (s + 1) (0 + t) p = _
    rw [Nat.zero_add]
    show (match gw p (b t) with
      | none => Sum.inl t
      | some p' => run b s (t + 1) p') = _
    rw [g]
  unfold fmV formV
  rw [e]
theorem Rn.fin {b : Nat → Nat} {len : Nat} {p : PsT} (h : Rn b len p) : fmV b len = if len ≠ 0 ∧ p.1 = 0 then 0 else -1000 - (len : Int) := by
  unfold Rn at h
  unfold fmV formV
  rw [h]
/-- one text, sign by sign and statement by statement -/
def Sg (b : Nat → Nat) (len st : Nat) (p0 : PsT) (t : Nat) (p : PsT) : Prop := Rn b t p ∧ st ≤ t ∧ t ≤ len ∧ ∀ cnt σ, tl b (len - st) st st cnt p0 σ = tl b (len - t) t st cnt p σ
theorem Sg.step {b : Nat → Nat} {len st t : Nat} {p0 p p' : PsT} (h : Sg b len st p0 t p) (ht : t < len) (g : gw p (b t) = some p') (n0 : p'.1 ≠ 0) : Sg b len st p0 (t + 1) p' := by
  refine ⟨h.1.step g, by have := h.2.1; omega, ht, fun cnt σ => ?_⟩
  rw [h.2.2.2 cnt σ]
  obtain ⟨s, e⟩ : ∃ s, len - t = s + 1 := ⟨len - t - 1, by omega⟩
  rw [e, show len - (t + 1) = s by omega]
  show (match gw p (b t) with
    | none => (-1, σ)
    | some p' => if p'.1 = 0 then (match cmd σ (b st) p'.2.2.2 with
        | none => (-2000 - (st : Int), σ)
        | some σ' => tl b s (t + 1) (t + 1) (cnt + 1) p' σ')
      else tl b s (t + 1) st cnt p' σ) = _
  rw [g]
  show (if p'.1 = 0 then _ else _) = _
  rw [if_neg n0]
/-- a statement ends -/
theorem Sg.stop {b : Nat → Nat} {len st t : Nat} {p0 p p' : PsT} (h : Sg b len st p0 t p) (ht : t < len) (g : gw p (b t) = some p') (n0 : p'.1 = 0) : Rn b (t + 1) p' ∧ ∀ cnt σ, tl b (len - st) st st cnt p0 σ = (match cmd σ (b st) p'.2.2.2 with
    | none => (-2000 - (st : Int), σ)
    | some σ' => tl b (len - (t + 1)) (t + 1) (t + 1) (cnt + 1) p' σ') := by
  refine ⟨h.1.step g, fun cnt σ => ?_⟩
  rw [h.2.2.2 cnt σ]
  obtain ⟨s, e⟩ : ∃ s, len - t = s + 1 := ⟨len - t - 1, by omega⟩
  rw [e, show len - (t + 1) = s by omega]
  show (match gw p (b t) with
    | none => (-1, σ)
    | some p' => if p'.1 = 0 then (match cmd σ (b st) p'.2.2.2 with
        | none => (-2000 - (st : Int), σ)
        | some σ' => tl b s (t + 1) (t + 1) (cnt + 1) p' σ')
      else tl b s (t + 1) st cnt p' σ) = _
  rw [g]
  show (if p'.1 = 0 then _ else _) = _
  rw [if_pos n0]
/-- the value of so many digits -/
def dgV (b : Nat → Nat) (t : Nat) : Nat → Nat
  | 0 => 0
  | k + 1 => dgV b t k * 10 + (b (t + k) - 48)
abbrev isD (u : Nat) : Prop := 48 ≤ u ∧ u ≤ 57
def dgOK (b : Nat → Nat) (len t k : Nat) : Prop := t + k ≤ len ∧ (∀ j, j < k → isD (b (t + j))) ∧ ∀ j, j < k → 0 < j → dgV b t j ≠ 0
theorem dgV_lt {b : Nat → Nat} {t : Nat} : ∀ k, (∀ j, j < k → isD (b (t + j))) → dgV b t k < 10 ^ k
  | 0, _ => by show 0 < 1; omega
  | k + 1, h => by
    have h1 := dgV_lt k (fun j hj => h j (by omega))
    have h2 := h k (by omega)
    show dgV b t k * 10 + (b (t + k) - 48) < 10 ^ (k + 1)
    rw [Nat.pow_succ]
    omega
theorem dg_go {b : Nat → Nat} {len st t l f : Nat} {p0 : PsT} {n : Nat → Nat} (hl : l ≠ 0) (h : Sg b len st p0 t (l, f, 0, n)) (n0 : n f = 0) : ∀ k, k ≤ roomN l f → dgOK b len t k → ∃ n', Sg b len st p0 (t + k) (l, f, k, n') ∧ n' f = dgV b t k ∧ ∀ j, j ≠ f → n' j = n j
  | 0, _, _ => ⟨n, h, n0, fun _ _ => rfl⟩
  | k + 1, hk, hd => by
    obtain ⟨n1, s1, e1, o1⟩ := dg_go hl h n0 k (by omega) ⟨by have := hd.1; omega, fun j hj => hd.2.1 j (by omega), fun j hj hj0 => hd.2.2 j (by omega) hj0⟩
    have d1 := hd.2.1 k (by omega)
    have hlen := hd.1
    have c : k < roomN l f ∧ (k = 0 ∨ n1 f ≠ 0) := by
      refine ⟨by omega, ?_⟩
      rcases Nat.eq_zero_or_pos k with e | e
      · exact Or.inl e
      · exact Or.inr (by rw [e1]; exact hd.2.2 k (by omega) e)
    have g : gw (l, f, k, n1) (b (t + k)) = some (l, f, k + 1, put1 n1 f (n1 f * 10 + (b (t + k) - 48))) := by
      unfold gw
      rw [if_neg (show ¬ (l, f, k, n1).1 = 0 from hl), if_pos d1]
      exact if_pos c
    refine ⟨_, s1.step (by omega) g hl, ?_, fun j hj => ?_⟩
    · show (if f = f then _ else _) = _
      rw [if_pos rfl, e1]; rfl
    · show (if j = f then _ else n1 j) = _
      rw [if_neg hj]; exact o1 j hj
/-- after a number that can't go on: what may follow, what not -/
theorem gw_sep {l f k : Nat} {n : Nat → Nat} (hl : l ≠ 0) (hk : k ≠ 0) : gw (l, f, k, n) 32 = if f < lastN l then some (l, f + 1, 0, put1 n (f + 1) 0) else none := by
  unfold gw
  rw [if_neg (show ¬ (l, f, k, n).1 = 0 from hl), if_neg (by omega), if_neg (show ¬ (l, f, k, n).2.2.1 = 0 from hk)]
  by_cases c : f < lastN l
  · rw [if_pos ⟨rfl, c⟩, if_pos c]
  · rw [if_neg (fun q => c q.2), if_neg (fun q => absurd q.1 (by omega)), if_neg c]
theorem gw_end {l f k : Nat} {n : Nat → Nat} (hl : l ≠ 0) (hk : k ≠ 0) : gw (l, f, k, n) 59 = if f = lastN l then some (0, f, k, n) else none := by
  unfold gw
  rw [if_neg (show ¬ (l, f, k, n).1 = 0 from hl), if_neg (by omega), if_neg (show ¬ (l, f, k, n).2.2.1 = 0 from hk), if_neg (fun q => absurd q.1 (by omega))]
  by_cases c : f = lastN l
  · rw [if_pos ⟨rfl, c⟩, if_pos c]
  · rw [if_neg (fun q => c q.2), if_neg c]
theorem gw_no {l f k u : Nat} {n : Nat → Nat} (hl : l ≠ 0) (hk : k ≠ 0) (h32 : u = 32 → ¬ f < lastN l) (h59 : u = 59 → f ≠ lastN l) (hd : isD u → k ≥ roomN l f ∨ n f = 0) : gw (l, f, k, n) u = none := by
  unfold gw
  rw [if_neg (show ¬ (l, f, k, n).1 = 0 from hl)]
  by_cases c : 48 ≤ u ∧ u ≤ 57
  · rw [if_pos c, if_neg]
    intro q
    have q1 : k < roomN l f := q.1
    have q2 : k = 0 ∨ n f ≠ 0 := q.2
    have := hd c
    omega
  · rw [if_neg c, if_neg (show ¬ (l, f, k, n).2.2.1 = 0 from hk), if_neg (fun q => h32 q.1 q.2), if_neg (fun q => h59 q.1 q.2)]
theorem gw_no0 {l f u : Nat} {n : Nat → Nat} (hl : l ≠ 0) (hd : ¬ isD u) : gw (l, f, 0, n) u = none := by
  unfold gw
  rw [if_neg (show ¬ (l, f, 0, n).1 = 0 from hl), if_neg hd]
  exact if_pos rfl
