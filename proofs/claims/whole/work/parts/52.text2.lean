/-! TEXTS: sign by sign -/
abbrev PsT : Type := Nat × Nat × Nat × (Nat → Nat)
abbrev isL (u : Nat) : Prop := u = 119 ∨ u = 99 ∨ u = 109 ∨ u = 107 ∨ u = 104
def lastN (l : Nat) : Nat := if l = 99 then 2 else if l = 119 then 1 else 0
def roomN (l f : Nat) : Nat := if l = 99 ∧ f = 0 then 1 else 3
def put1 (n : Nat → Nat) (k v : Nat) : Nat → Nat := fun j => if j = k then v else n j
def gw (p : PsT) (u : Nat) : Option PsT :=
  if p.1 = 0 then (if isL u then some (u, 0, 0, put1 p.2.2.2 0 0) else none)
  else if 48 ≤ u ∧ u ≤ 57 then (if p.2.2.1 < roomN p.1 p.2.1 ∧ (p.2.2.1 = 0 ∨ p.2.2.2 p.2.1 ≠ 0) then some (p.1, p.2.1, p.2.2.1 + 1, put1 p.2.2.2 p.2.1 (p.2.2.2 p.2.1 * 10 + (u - 48))) else none)
  else if p.2.2.1 = 0 then none
  else if u = 32 ∧ p.2.1 < lastN p.1 then some (p.1, p.2.1 + 1, 0, put1 p.2.2.2 (p.2.1 + 1) 0)
  else if u = 59 ∧ p.2.1 = lastN p.1 then some (0, p.2.1, p.2.2.1, p.2.2.2)
  else none
def psOK (p : PsT) : Prop := p.1 < 128 ∧ p.2.1 ≤ 2 ∧ p.2.2.1 ≤ 3 ∧ (∀ k, p.2.2.2 k < 1000) ∧ (p.1 ≠ 0 → p.2.2.2 p.2.1 < 10 ^ p.2.2.1)
def byI (u : Nat) : Int := if u < 128 then (u : Int) else (u : Int) - 256
def sb (u : Nat) : Int32 := iI (byI u)
theorem byI_rng {u : Nat} (h : u < 256) : -128 ≤ byI u ∧ byI u < 128 := by unfold byI; split <;> omega
theorem sb_eq {u k : Nat} (h : u < 256) (hk : k < 128) : sb u = nI k ↔ u = k := by
  have r := byI_rng h
  unfold sb
  rw [nI_iI, iI_eq (by omega) (by omega)]
  unfold byI
  split <;> omega
theorem sb_lt {u k : Nat} (h : u < 256) (hk : k < 128) : sb u < nI k ↔ (u < k ∨ 128 ≤ u) := by
  have r := byI_rng h
  unfold sb
  rw [nI_iI, iI_lt (by omega) (by omega)]
  unfold byI
  split <;> omega
theorem sb_gt {u k : Nat} (h : u < 256) (hk : k < 128) : nI k < sb u ↔ (k < u ∧ u < 128) := by
  have r := byI_rng h
  unfold sb
  rw [nI_iI, iI_lt (by omega) (by omega)]
  unfold byI
  split <;> omega
theorem sb_n {u : Nat} (h : u < 128) : sb u = nI u := by
  unfold sb byI
  rw [if_pos h, nI_iI]
def TxOK (M : Mem) (x : Nat) : Prop := mK M x = 8 ∧ mR M x 3 = x + 1 ∧ mK M (x + 1) = 20 ∧ mN M (x + 1) = 3
theorem TxOK.fr {A : Nat → Prop} {M M' : Mem} {q : Nat} (h : TxOK M q) (f : Fr A M M') : TxOK M' q := by
  unfold TxOK
  rw [f.K, f.N, f.R]
  exact h
def PsAt (M : Mem) (x : Nat) (p : PsT) : Prop := TxOK M x ∧ psOK p ∧ mI M x 0 = nI p.1 ∧ mI M x 1 = nI p.2.1 ∧ mI M x 2 = nI p.2.2.1 ∧ ∀ k, k < 3 → mI M (x + 1) k = nI (p.2.2.2 k)
abbrev txA (x : Nat) : Nat → Prop := fun y => y = x ∨ y = x + 1
theorem PsAt.fr {A : Nat → Prop} {M M' : Mem} {x : Nat} {p : PsT} (h : PsAt M x p) (f : Fr A M M') (h0 : ¬ A x) (h1 : ¬ A (x + 1)) : PsAt M' x p := by
  refine ⟨h.1.fr f, h.2.1, ?_⟩
  rw [f.I h0, f.I h1]
  exact h.2.2
theorem put1_lt {n : Nat → Nat} {k v : Nat} (h : ∀ j, n j < 1000) (hv : v < 1000) : ∀ j, put1 n k v j < 1000 := by
  intro j
  unfold put1
  split
  · exact hv
  · exact h j
section TEXT
variable {M : Mem} {x : Nat} {p : PsT} {Q : Int32 → Mem → Prop} {QV0 : Mem → Prop}
theorem S_X7_lastField (h : PsAt M x p) (hQ : Q (nI (lastN p.1)) M) : wp_X7_lastField x M Q := by
  have hl := h.2.1.1
  unfold lastN at hQ
  unfold wp_X7_lastField
  rw [h.2.2.1]
  have e1 : nI p.1 = (99 : Int32) ↔ p.1 = 99 := nI_eq (b := 99) (by omega) (by omega)
  have e2 : nI p.1 = (119 : Int32) ↔ p.1 = 119 := nI_eq (b := 119) (by omega) (by omega)
  refine ⟨h.1.1, fun a => ⟨fun b => ?_, fun b => ?_⟩, fun a => ?_⟩
  · rw [if_neg (mt e1.mpr a), if_neg (mt e2.mpr b)] at hQ; exact hQ
  · rw [if_neg (mt e1.mpr a), if_pos (e2.mp b)] at hQ; exact hQ
  · rw [if_pos (e1.mp a)] at hQ; exact hQ
/-- beginning a number: letter as it lies in the cells -/
theorem S_X7_beginNumber {l k : Nat} {n : Nat → Nat} (ht : TxOK M x) (hk : k ≤ 2) (hl : l < 128) (h0 : mI M x 0 = nI l) (hn : ∀ j, j < 3 → mI M (x + 1) j = nI (n j)) (hn2 : ∀ j, n j < 1000)
    (hQ : ∀ M', Fr (txA x) M M' → PsAt M' x (l, k, 0, put1 n k 0) → QV0 M') : wp_X7_beginNumber x (nI k) M QV0 := by
  refine ⟨ht.1, fun M1 e1 M4 e4 => ⟨fun z => absurd z (nI_pos (by omega)), fun _ => ?_⟩⟩
  have r4 : mR M4 x 3 = x + 1 := by rw [e4, e1]; exact ht.2.1
  have n4 : mN M4 (x + 1) = 3 := by rw [e4, e1]; exact ht.2.2.2
  rw [r4, n4, nI_clamp (by omega)]
  refine ⟨by rw [e4, e1]; exact ht.2.2.1, fun z => absurd z (nI_ge (b := 3) (by omega) (by omega)), fun _ => ⟨vp_in_nI (by omega) (by omega), fun M15 e15 => ?_⟩⟩
  refine hQ M15 ?_ ⟨?_, ⟨hl, hk, by show 0 ≤ 3; omega, put1_lt hn2 (by omega), fun _ => ?_⟩, ?_, ?_, ?_, fun j hj => ?_⟩
  · rw [e15, e4, e1]; exact ((Fr.uI (Or.inl rfl)).t2 (Fr.uI (Or.inl rfl))).t2 (Fr.uI (Or.inr rfl))
  · rw [e15, e4, e1]; exact ht
  · show put1 n k 0 k < 10 ^ 0
    unfold put1; rw [if_pos rfl]; decide
  · rw [e15, mI_uI, if_neg (by omega), e4, mI_uI, if_pos rfl, if_neg (by decide), e1, mI_uI, if_pos rfl, if_neg (by decide)]; exact h0
  · rw [e15, mI_uI, if_neg (by omega), e4, mI_uI, if_pos rfl, if_neg (by decide), e1, mI_uI, if_pos rfl, if_pos rfl]
  · rw [e15, mI_uI, if_neg (by omega), e4, mI_uI, if_pos rfl, if_pos rfl]; rfl
  · show _ = nI (put1 n k 0 j)
    rw [e15, mI_uI, if_pos rfl, e4, mI_uI, if_neg (show ¬ x + 1 = x by omega), e1, mI_uI, if_neg (show ¬ x + 1 = x by omega)]
    unfold put1
    by_cases c : j = k
    · rw [if_pos c, if_pos c]; rfl
    · rw [if_neg c, if_neg c]; exact hn j hj
theorem S_X7_goesOnWith {u : Nat} (h : PsAt M x p) (hu : u < 256) (h1 : ∀ p', gw p u = some p' → ∀ M', Fr (txA x) M M' → PsAt M' x p' → Q 1 M') (h0 : gw p u = none → Q 0 M) : wp_X7_goesOnWith x (sb u) M Q := by
  obtain ⟨ht, ⟨hl, hf, hd, hn, hn10⟩, i0, i1, i2, iN⟩ := id h
  unfold wp_X7_goesOnWith
  rw [i0]
  have e0 : nI p.1 = (0 : Int32) ↔ p.1 = 0 := nI_eq (b := 0) (by omega) (by omega)
  refine ⟨ht.1, fun a => ?_, fun a => ?_⟩
  · have a := mt e0.mpr a
    have g34 : ¬ (48 ≤ u ∧ u ≤ 57) → jn_X7_goesOnWith_34 Q x (sb u) M := by
      intro b
      have g1 : gw p u = if p.2.2.1 = 0 then none else if u = 32 ∧ p.2.1 < lastN p.1 then some (p.1, p.2.1 + 1, 0, put1 p.2.2.2 (p.2.1 + 1) 0) else if u = 59 ∧ p.2.1 = lastN p.1 then some (0, p.2.1, p.2.2.1, p.2.2.2) else none := by
        unfold gw; rw [if_neg a, if_neg b]
      rw [g1] at h1 h0
      unfold jn_X7_goesOnWith_34
      rw [i2]
      have ed : nI p.2.2.1 = (0 : Int32) ↔ p.2.2.1 = 0 := nI_eq (b := 0) (by omega) (by omega)
      have ll : lastN p.1 ≤ 2 := by unfold lastN; split <;> (try split) <;> omega
      refine ⟨ht.1, fun c => ?_, fun c => ?_⟩
      · have c := mt ed.mpr c
        rw [if_neg c] at h1 h0
        have g72 : ¬ (u = 32 ∧ p.2.1 < lastN p.1) → jn_X7_goesOnWith_72 Q x (sb u) M := by
          intro d
          rw [if_neg d] at h1 h0
          have e59 : sb u = (59 : Int32) ↔ u = 59 := sb_eq (k := 59) hu (by omega)
          refine ⟨fun z => ?_, fun z => ⟨ht.1, S_X7_lastField h ?_⟩⟩
          · rw [if_neg (fun y => z (e59.mpr y.1))] at h0; exact h0 rfl
          · rw [i1]
            have ef : nI p.2.1 = nI (lastN p.1) ↔ p.2.1 = lastN p.1 := nI_eq (by omega) (by omega)
            refine ⟨fun y => ?_, fun y => ⟨ht.1, fun M28 e28 => ?_⟩⟩
            · rw [if_neg (fun w => y (ef.mpr w.2))] at h0; exact h0 rfl
            · rw [if_pos ⟨e59.mp z, ef.mp y⟩] at h1
              refine h1 _ rfl M28 (by rw [e28]; exact Fr.uI (Or.inl rfl)) ⟨by rw [e28]; exact ht, ⟨by show 0 < 128; omega, hf, hd, hn, fun w => absurd rfl w⟩, ?_, ?_, ?_, fun j hj => ?_⟩
              · rw [e28, mI_uI, if_pos rfl, if_pos rfl]; rfl
              · rw [e28, mI_uI, if_pos rfl, if_neg (by decide)]; exact i1
              · rw [e28, mI_uI, if_pos rfl, if_neg (by decide)]; exact i2
              · rw [e28, mI_uI, if_neg (by omega)]; exact iN j hj
        have e32 : sb u = (32 : Int32) ↔ u = 32 := sb_eq (k := 32) hu (by omega)
        refine ⟨fun z => g72 (fun y => z (e32.mpr y.1)), fun z => S_X7_lastField h ?_⟩
        rw [i1]
        have ef : nI (lastN p.1) ≤ nI p.2.1 ↔ lastN p.1 ≤ p.2.1 := nI_le31 (by omega) (by omega)
        refine ⟨fun y => g72 (fun w => by have := ef.mp y; omega), fun y => ⟨ht.1, ?_⟩⟩
        have y := mt ef.mpr y
        rw [nI_1]
        refine S_X7_beginNumber ht (by omega) hl i0 iN hn (fun M' f hp => ?_)
        rw [if_pos ⟨e32.mp z, by omega⟩] at h1
        exact h1 _ rfl M' f hp
      · rw [if_pos (ed.mp c)] at h0; exact h0 rfl
    have lo : sb u < (48 : Int32) ↔ (u < 48 ∨ 128 ≤ u) := sb_lt (k := 48) hu (by omega)
    have hi : (57 : Int32) < sb u ↔ (57 < u ∧ u < 128) := sb_gt (k := 57) hu (by omega)
    refine ⟨fun b => g34 (by have := lo.mp b; omega), fun b => ⟨fun c => g34 (by have := hi.mp c; omega), fun c => ?_⟩⟩
    have b := mt lo.mpr b
    have c := mt hi.mpr c
    have dg : 48 ≤ u ∧ u ≤ 57 := by omega
    have g1 : gw p u = if p.2.2.1 < roomN p.1 p.2.1 ∧ (p.2.2.1 = 0 ∨ p.2.2.2 p.2.1 ≠ 0) then some (p.1, p.2.1, p.2.2.1 + 1, put1 p.2.2.2 p.2.1 (p.2.2.2 p.2.1 * 10 + (u - 48))) else none := by
      unfold gw; rw [if_neg a, if_pos dg]
    rw [g1] at h1 h0
    rw [sb_n (by omega), show (48 : Int32) = nI 48 from rfl, pk_sub dg.1]
    have nf := hn10 a
    have nin := iN p.2.1 (by omega)
    have hnf := hn p.2.1
    -- the digit is taken
    have g72 : p.2.2.1 < roomN p.1 p.2.1 → (p.2.2.1 = 0 ∨ p.2.2.2 p.2.1 ≠ 0) → jn_X7_takesDigit_72 (fun r46 M45 => (r46 = 0 ∨ r46 = 1) ∧ Q r46 M45) x (nI (u - 48)) M := by
      intro r1 r2
      rw [if_pos ⟨r1, r2⟩] at h1
      have rl : roomN p.1 p.2.1 ≤ 3 := by unfold roomN; split <;> omega
      have bnd : p.2.2.2 p.2.1 * 10 + (u - 48) < 10 ^ (p.2.2.1 + 1) := by rw [Nat.pow_succ]; omega
      have bnd2 : p.2.2.2 p.2.1 * 10 + (u - 48) < 1000 := by
        have := Nat.pow_le_pow_right (show 0 < 10 by omega) (show p.2.2.1 + 1 ≤ 3 by omega)
        omega
      unfold jn_X7_takesDigit_72
      rw [ht.2.1, i1, ht.2.2.2, nI_clamp (by omega), nin]
      refine ⟨ht.1, ht.2.2.1, vp_in_nI (by omega) (by omega), vp_in_nI (by omega) (by omega), fun M21 e21 M24 e24 => ⟨Or.inr rfl, ?_⟩⟩
      rw [show (10 : Int32) = nI 10 from rfl, pk_mul, nI_add] at e21
      have i21 : mI M21 x 2 = nI p.2.2.1 := by rw [e21, mI_uI, if_neg (by omega)]; exact i2
      rw [i21, nI_1] at e24
      refine h1 _ rfl M24 (by rw [e24, e21]; exact (Fr.uI (Or.inr rfl)).t2 (Fr.uI (Or.inl rfl))) ⟨by rw [e24, e21]; exact ht, ⟨hl, hf, by show p.2.2.1 + 1 ≤ 3; omega, put1_lt hn bnd2, fun _ => ?_⟩, ?_, ?_, ?_, fun j hj => ?_⟩
      · show put1 _ _ _ p.2.1 < 10 ^ (p.2.2.1 + 1)
        unfold put1; rw [if_pos rfl]; exact bnd
      · rw [e24, mI_uI, if_pos rfl, if_neg (by decide), e21, mI_uI, if_neg (by omega)]; exact i0
      · rw [e24, mI_uI, if_pos rfl, if_neg (by decide), e21, mI_uI, if_neg (by omega)]; exact i1
      · rw [e24, mI_uI, if_pos rfl, if_pos rfl]
      · show _ = nI (put1 _ _ _ j)
        rw [e24, mI_uI, if_neg (show ¬ x + 1 = x by omega), e21, mI_uI, if_pos rfl]
        unfold put1
        by_cases c : j = p.2.1
        · rw [if_pos c, if_pos c]
        · rw [if_neg c, if_neg c]; exact iN j hj
    have g21 : ∀ room : Nat, room = roomN p.1 p.2.1 → jn_X7_takesDigit_21 (fun r46 M45 => (r46 = 0 ∨ r46 = 1) ∧ Q r46 M45) x (nI (u - 48)) (nI room) M := by
      intro room hroom
      have rl : room ≤ 3 := by rw [hroom]; unfold roomN; split <;> omega
      rw [← hroom] at h1 h0 g72
      unfold jn_X7_takesDigit_21
      rw [i1, ht.2.1, ht.2.2.2, i2, nI_clamp (by omega), nin]
      have er : nI p.2.2.1 < nI room ↔ p.2.2.1 < room := nI_lt31 (by omega) (by omega)
      have ed : nI p.2.2.1 ≤ (0 : Int32) ↔ p.2.2.1 ≤ 0 := nI_le31 (b := 0) (by omega) (by omega)
      have ez : nI (p.2.2.2 p.2.1) = (0 : Int32) ↔ p.2.2.2 p.2.1 = 0 := nI_eq (b := 0) (by omega) (by omega)
      refine ⟨ht.1, fun z => absurd z (nI_pos (by omega)), fun _ => ⟨ht.2.2.1, fun z => absurd z (nI_ge (b := 3) (by omega) (by omega)), fun _ => ⟨fun z => ⟨fun y => g72 (er.mp z) (Or.inl (by have := ed.mp y; omega)), fun y => ⟨vp_in_nI (by omega) (by omega), fun w => g72 (er.mp z) (Or.inr (mt ez.mpr w)), fun w => ?_⟩⟩, fun z => ?_⟩⟩⟩
      · rw [if_neg (fun v => by have := mt ed.mpr y; have := ez.mp w; rcases v.2 with q | q <;> omega)] at h0
        exact ⟨Or.inl rfl, h0 rfl⟩
      · rw [if_neg (fun v => z (er.mpr v.1))] at h0
        exact ⟨Or.inl rfl, h0 rfl⟩
    have e99 : nI p.1 = (99 : Int32) ↔ p.1 = 99 := nI_eq (b := 99) (by omega) (by omega)
    have ef : nI p.2.1 = (0 : Int32) ↔ p.2.1 = 0 := nI_eq (b := 0) (by omega) (by omega)
    unfold wp_X7_takesDigit
    rw [i0, i1]
    refine ⟨ht.1, fun z => g21 3 ?_, fun z => ⟨fun y => g21 3 ?_, fun y => g21 1 ?_⟩⟩
    · unfold roomN; rw [if_neg (fun v => z (e99.mpr v.1))]
    · unfold roomN; rw [if_neg (fun v => y (ef.mpr v.2))]
    · unfold roomN; rw [if_pos ⟨e99.mp z, ef.mp y⟩]
  · have a := e0.mp a
    have g1 : gw p u = if isL u then some (u, 0, 0, put1 p.2.2.2 0 0) else none := by
      unfold gw; rw [if_pos a]
    rw [g1] at h1 h0
    have g32 : isL u → jn_X7_begins_32 (fun r49 M48 => (r49 = 0 ∨ r49 = 1) ∧ Q r49 M48) x (sb u) M := by
      intro b
      rw [if_pos b] at h1
      refine ⟨ht.1, fun M5 e5 => ?_⟩
      rw [sb_n (by omega)] at e5
      have t5 : TxOK M5 x := by rw [e5]; exact ht
      refine S_X7_beginNumber (k := 0) t5 (by omega) (show u < 128 by omega) (by rw [e5, mI_uI, if_pos rfl, if_pos rfl]) (n := p.2.2.2) (fun j hj => by rw [e5, mI_uI, if_neg (by omega)]; exact iN j hj) hn (fun M' f hp => ⟨Or.inr rfl, ?_⟩)
      exact h1 _ rfl M' ((show Fr (txA x) M M5 by rw [e5]; exact Fr.uI (Or.inl rfl)).t2 f) hp
    have ek : ∀ k, k < 128 → (sb u = nI k ↔ u = k) := fun k hk => sb_eq hu hk
    refine ⟨fun z => g32 (Or.inl ((ek 119 (by omega)).mp z)), fun z1 => ⟨fun z => g32 (Or.inr (Or.inl ((ek 99 (by omega)).mp z))), fun z2 => ⟨fun z => g32 (Or.inr (Or.inr (Or.inl ((ek 109 (by omega)).mp z)))), fun z3 => ⟨fun z => g32 (Or.inr (Or.inr (Or.inr (Or.inl ((ek 107 (by omega)).mp z))))), fun z4 => ⟨fun z => g32 (Or.inr (Or.inr (Or.inr (Or.inr ((ek 104 (by omega)).mp z))))), fun z5 => ?_⟩⟩⟩⟩⟩
    have b : ¬ isL u := by
      rintro (q | q | q | q | q)
      · exact z1 ((ek 119 (by omega)).mpr q)
      · exact z2 ((ek 99 (by omega)).mpr q)
      · exact z3 ((ek 109 (by omega)).mpr q)
      · exact z4 ((ek 107 (by omega)).mpr q)
      · exact z5 ((ek 104 (by omega)).mpr q)
    rw [if_neg b] at h0
    exact ⟨Or.inl rfl, h0 rfl⟩
end TEXT
