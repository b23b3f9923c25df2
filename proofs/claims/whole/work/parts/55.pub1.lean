/-! THE COMPONENT: calls that look only -/
/-- an int as a number, far off if below 0 -/
def ix (x : Int32) : Nat := if x < 0 then 4294967296 else x.toNatClampNeg
theorem ix_nI {i : Nat} (h : i < 2147483648) : ix (nI i) = i := by
  unfold ix
  rw [if_neg (nI_pos h), nI_clamp h]
theorem inN_ix {x : Int32} {n : Nat} (hn : n ≤ 2147483648) : inN x n ↔ ix x < n := by
  constructor
  · rintro ⟨j, hj, rfl⟩
    rw [ix_nI (by omega)]; exact hj
  · intro h
    by_cases c : x < 0
    · unfold ix at h; rw [if_pos c] at h; omega
    · obtain ⟨j, hj, rfl⟩ := nI_of c
      rw [ix_nI hj] at h
      exact ⟨j, h, rfl⟩
abbrev sl (x y : Int32) : Prop := ix x < ix y ∧ ix y ≤ 100
theorem isSl_ix {x y : Int32} : isSl x y ↔ sl x y := by
  constructor
  · rintro ⟨b, a, h1, h2, rfl, rfl⟩
    unfold sl
    rw [ix_nI (by omega), ix_nI (by omega)]
    exact ⟨h1, h2⟩
  · rintro ⟨h1, h2⟩
    obtain ⟨a, ha, rfl⟩ := (inN_ix (x := y) (n := 101) (by omega)).mpr (by omega)
    rw [ix_nI (by omega)] at h1
    obtain ⟨b, hb, rfl⟩ := (inN_ix (x := x) (n := a) (by omega)).mpr h1
    exact ⟨b, a, hb, by omega, rfl, rfl⟩
abbrev rdy (c : CT) : Prop := sumN (sCh (cS c)) (sN (cS c)) = 100
def aWorth (c : CT) (x y : Int32) : Int32 := if ix x < sN (cS c) ∧ ix y < 2 then (if ix y = 0 then nI (sCh (cS c) (ix x)) else nI (sVa (cS c) (ix x))) else -1
def aSort (c : CT) (x y : Int32) : Int32 := if ix x < sS (cS c) ∧ ix y < 3 then (if ix y = 0 then nI (sKd (cS c) (ix x)) else if ix y = 1 then nI (sPt (cS c) (ix x)) else nI (sLi (cS c) (ix x))) else -1
def aDoes (c : CT) (s w b a : Int32) : Int32 := if ix s < sS (cS c) ∧ ix w < sN (cS c) ∧ sl b a then nI (sDeal (cS c) (ix s) (sVa (cS c) (ix w)) (ix b) (ix a)) else -1
def aChance (c : CT) (e w b a : Int32) : Int32 := if ix e < 3 ∧ ix w < sN (cS c) ∧ sl b a then nI (odds (cS c) (cH c) (ix e) (ix w) (ix b) (ix a)) else -1
def aThink (c : CT) (w p : Int32) : Int64 := if ix w < sN (cS c) ∧ ix p < 2 then (if rdy c then lN ((if ix p = 0 then cW c (ix w) else sumN (cW c) (sN (cS c))) / Nat.gcd (cW c (ix w)) (sumN (cW c) (sN (cS c)))) else -4000000000000000003) else -4000000000000000001
def aFair (c : CT) (p : Int32) : Int32 := if ix p < 2 then (if rdy c then (if ix p = 0 then iI (fairA (cS c) (cW c)) else iI (fairB (cS c) (cW c))) else -3) else -1
def aApart (c : CT) : Int32 := if rdy c then (if fairA (cS c) (cW c) = -4 ∨ fairB (cS c) (cW c) = -4 then -1000000004 else iI (fairA (cS c) (cW c) - fairB (cS c) (cW c))) else -1000000003
section COMP
variable {M : Mem} {c : CT} {Q : Int32 → Mem → Prop} {QR : Nat → Mem → Prop} {QJ0 : Int64 → Mem → Prop} {QV0 : Mem → Prop}
theorem S_ready (h : AbsC M c) (h1 : rdy c → Q 1 M) (h0 : ¬ rdy c → Q 0 M) : wp_X6_isReady 3 M Q := S_X6_isReady h.2.1.1 h1 h0
theorem two_of {i : Nat} (hi : i < 2) : i = 0 ∨ i = 1 := by omega
theorem S_X12_worth {x y : Int32} (h : AbsC M c) (hQ : Q (aWorth c x y) M) : wp_X12_worth 2 x y M Q := by
  have h6 := h.2.1.1.2.1.1
  unfold aWorth at hQ
  refine ⟨h.1.1, S_X12_isWorth h (fun i hi e => ⟨fun z => absurd z (by decide), fun _ => ?_⟩) (fun hn => ⟨fun _ => ?_, fun z => absurd rfl z⟩)⟩
  · subst e
    rw [ix_nI (by omega)] at hQ
    refine S_X12_isPart (fun j hj e => ⟨fun _ => ⟨fun z => ?_, fun z => ?_⟩, fun z => absurd z (by decide)⟩) (fun hn => ⟨fun z => absurd rfl z, fun _ => ?_⟩)
    · subst e
      rw [ix_nI (by omega), if_pos ⟨hi, hj⟩, if_neg (fun q => z (by rw [q]; rfl))] at hQ
      rw [h.1.2.1.1, h.2.1.1.1.2.1.2.1, h.2.1.1.1.2.2.2.2.1, nI_clamp (by omega), (h.2.1.1.2.2.2.1 i hi).2]
      exact ⟨h.1.1, h.2.1.1.1.1, h.2.1.1.1.2.2.1.2.1, vp_in_nI (by omega) (by omega), hQ⟩
    · subst e
      have z : j = 0 := (nI_eq (b := 0) (by omega) (by omega)).mp z
      rw [ix_nI (by omega), if_pos ⟨hi, hj⟩, if_pos z] at hQ
      rw [h.1.2.1.1, h.2.1.1.1.2.1.1, h.2.1.1.1.2.2.2.1, nI_clamp (by omega), (h.2.1.1.2.2.2.1 i hi).1]
      exact ⟨h.1.1, h.2.1.1.1.1, h.2.1.1.1.2.2.1.1, vp_in_nI (by omega) (by omega), hQ⟩
    · rw [if_neg (fun q => hn ((inN_ix (by omega)).mpr q.2))] at hQ; exact hQ
  · rw [if_neg (fun q => hn ((inN_ix (by omega)).mpr q.1))] at hQ; exact hQ
theorem S_X12_sort {x y : Int32} (h : AbsC M c) (hQ : Q (aSort c x y) M) : wp_X12_sort 2 x y M Q := by
  have h6 := h.2.1.1.2.1.2.2.1
  unfold aSort at hQ
  refine ⟨h.1.1, S_X12_isSort h (fun i hi e => ⟨fun z => absurd z (by decide), fun _ => ?_⟩) (fun hn => ⟨fun _ => ?_, fun z => absurd rfl z⟩)⟩
  · subst e
    rw [ix_nI (by omega)] at hQ
    obtain ⟨b1, b2, b3⟩ := h.2.1.1.2.2.2.2 i hi
    refine ⟨fun z => ?_, fun z => ⟨fun w => ?_, fun w => ?_⟩⟩
    · rw [if_neg (fun q => inN_neg (n := 3) (by omega) z ((inN_ix (by omega)).mpr q.2))] at hQ; exact hQ
    · obtain ⟨j, hj, rfl⟩ := nI_of z
      have w := (nI_le31 (b := 2) hj (by omega)).mp w
      rw [ix_nI hj, if_pos ⟨hi, by omega⟩] at hQ
      have e0 : nI j = (0 : Int32) ↔ j = 0 := nI_eq (b := 0) hj (by omega)
      have e1 : nI j = (1 : Int32) ↔ j = 1 := nI_eq (b := 1) hj (by omega)
      rw [h.1.2.1.1, h.2.1.1.1.2.1.2.2.1, h.2.1.1.1.2.1.2.2.2.1, h.2.1.1.1.2.1.2.2.2.2.1, h.2.1.1.1.2.2.2.2.2.1, h.2.1.1.1.2.2.2.2.2.2.1, h.2.1.1.1.2.2.2.2.2.2.2.1, nI_clamp (by omega), b1, b2, b3]
      refine ⟨fun q => ⟨fun r => ?_, fun r => ?_⟩, fun q => ?_⟩
      · rw [if_neg (mt e0.mpr q), if_neg (mt e1.mpr r)] at hQ
        exact ⟨h.1.1, h.2.1.1.1.1, h.2.1.1.1.2.2.1.2.2.2.2.1, vp_in_nI (by omega) (by omega), hQ⟩
      · rw [if_neg (mt e0.mpr q), if_pos (e1.mp r)] at hQ
        exact ⟨h.1.1, h.2.1.1.1.1, h.2.1.1.1.2.2.1.2.2.2.1, vp_in_nI (by omega) (by omega), hQ⟩
      · rw [if_pos (e0.mp q)] at hQ
        exact ⟨h.1.1, h.2.1.1.1.1, h.2.1.1.1.2.2.1.2.2.1, vp_in_nI (by omega) (by omega), hQ⟩
    · rw [if_neg (fun q => w ?_)] at hQ
      · exact hQ
      · obtain ⟨j, hj, rfl⟩ := (inN_ix (by omega)).mpr q.2
        exact nI_le (b := 2) (by omega) (by omega)
  · rw [if_neg (fun q => hn ((inN_ix (by omega)).mpr q.1))] at hQ; exact hQ
theorem S_X12_does {s w b a : Int32} (h : AbsC M c) (hQ : Q (aDoes c s w b a) M) : wp_X12_does 2 s w b a M Q := by
  have h6 := h.2.1.1.2.1.2.2.1
  have h7 := h.2.1.1.2.1.1
  unfold aDoes at hQ
  refine ⟨h.1.1, S_X12_isSort h (fun i hi e => ⟨fun z => absurd z (by decide), fun _ => ⟨h.1.1, S_X12_isWorth h (fun k hk e2 => ⟨fun z => absurd z (by decide), fun _ => S_X12_isSlate (fun p q hpq hq e3 e4 => ⟨fun _ => ?_, fun z => absurd z (by decide)⟩) (fun hn => ⟨fun z => absurd rfl z, fun _ => ?_⟩)⟩) (fun hn => ⟨fun _ => ?_, fun z => absurd rfl z⟩)⟩⟩) (fun hn => ⟨fun _ => ?_, fun z => absurd rfl z⟩)⟩
  · subst e e2 e3 e4
    unfold sl at hQ
    rw [ix_nI (by omega), ix_nI (by omega), ix_nI (by omega), ix_nI (by omega), if_pos ⟨hi, hk, hpq, hq⟩] at hQ
    rw [h.1.2.1.1, h.2.1.1.1.2.1.2.1, h.2.1.1.1.2.2.2.2.1, nI_clamp (by omega), (h.2.1.1.2.2.2.1 k hk).2]
    exact ⟨h.1.1, h.2.1.1.1.1, h.2.1.1.1.2.2.1.2.1, vp_in_nI (by omega) (by omega), S_X6_dealOf h.2.1.1 hi (h.2.1.1.2.1.2.1 k hk).2.2 (by omega) hq hQ⟩
  · rw [if_neg (fun q => hn (isSl_ix.mpr q.2.2))] at hQ; exact hQ
  · rw [if_neg (fun q => hn ((inN_ix (by omega)).mpr q.2.1))] at hQ; exact hQ
  · rw [if_neg (fun q => hn ((inN_ix (by omega)).mpr q.1))] at hQ; exact hQ
theorem S_X12_chance {e w b a : Int32} (h : AbsC M c) (hQ : Q (aChance c e w b a) M) : wp_X12_chance 2 e w b a M Q := by
  have h7 := h.2.1.1.2.1.1
  unfold aChance at hQ
  refine S_X12_isEvent (fun i hi e => ⟨fun z => absurd z (by decide), fun _ => ⟨h.1.1, S_X12_isWorth h (fun k hk e2 => ⟨fun z => absurd z (by decide), fun _ => S_X12_isSlate (fun p q hpq hq e3 e4 => ⟨fun _ => ?_, fun z => absurd z (by decide)⟩) (fun hn => ⟨fun z => absurd rfl z, fun _ => ?_⟩)⟩) (fun hn => ⟨fun _ => ?_, fun z => absurd rfl z⟩)⟩⟩) (fun hn => ⟨fun _ => ?_, fun z => absurd rfl z⟩)
  · subst e e2 e3 e4
    unfold sl at hQ
    rw [ix_nI (by omega), ix_nI (by omega), ix_nI (by omega), ix_nI (by omega), if_pos ⟨hi, hk, hpq, hq⟩] at hQ
    rw [h.1.2.1.1, h.1.2.1.2.2.2.1]
    exact ⟨h.1.1, h.2.2.1.1.1, S_X9_oddsOf h.2.1 h.2.2.1 (by omega) hk (by omega) hq (fun _ => hpq) hQ⟩
  · rw [if_neg (fun q => hn (isSl_ix.mpr q.2.2))] at hQ; exact hQ
  · rw [if_neg (fun q => hn ((inN_ix (by omega)).mpr q.2.1))] at hQ; exact hQ
  · rw [if_neg (fun q => hn ((inN_ix (by omega)).mpr q.1))] at hQ; exact hQ
theorem S_X12_held (h : AbsC M c) (hQ : Q (iI (cH c)) M) : wp_X12_held 2 M Q := by
  unfold wp_X12_held
  rw [h.1.2.1.2.2.2.1, h.2.2.1.2.1]
  exact ⟨h.1.1, h.2.2.1.1.1, hQ⟩
theorem S_X12_fair {p : Int32} (h : AbsC M c) (hQ : Q (aFair c p) M) : wp_X12_fair 2 p M Q := by
  unfold aFair at hQ
  refine S_X12_isPart (fun i hi e => ⟨fun _ => ?_, fun z => absurd z (by decide)⟩) (fun hn => ⟨fun z => absurd rfl z, fun _ => ?_⟩)
  · subst e
    rw [ix_nI (by omega), if_pos hi] at hQ
    rw [h.1.2.1.1]
    refine ⟨h.1.1, h.2.1.1.1.1, S_ready h (fun r => ⟨fun _ => ?_, fun z => absurd z (by decide)⟩) (fun r => ⟨fun z => absurd rfl z, fun _ => ?_⟩)⟩
    · rw [if_pos r] at hQ
      rw [h.1.2.1.1, h.1.2.1.2.2.2.1]
      have e0 : nI i = (0 : Int32) ↔ i = 0 := nI_eq (b := 0) (by omega) (by omega)
      refine ⟨fun z => ⟨h.1.1, h.2.2.1.1.1, S_X9_fairBid h.2.1 h.2.2.1.1 h.2.2.1.2.2.2.2 h.2.2.1.2.2.2.1 ?_⟩, fun z => ⟨h.1.1, h.2.2.1.1.1, S_X9_fairAsk h.2.1 h.2.2.1.1 h.2.2.1.2.2.2.2 h.2.2.1.2.2.2.1 ?_⟩⟩
      · rw [if_neg (mt e0.mpr z)] at hQ; exact hQ
      · rw [if_pos (e0.mp z)] at hQ; exact hQ
    · rw [if_neg r] at hQ; exact hQ
  · rw [if_neg (fun q => hn ((inN_ix (by omega)).mpr q))] at hQ; exact hQ
theorem S_X12_apart (h : AbsC M c) (hQ : Q (aApart c) M) : wp_X12_apart 2 M Q := by
  unfold aApart at hQ
  unfold wp_X12_apart
  rw [h.1.2.1.1]
  refine ⟨h.1.1, h.2.1.1.1.1, S_ready h (fun r => ⟨fun _ => ?_, fun z => absurd z (by decide)⟩) (fun r => ⟨fun z => absurd rfl z, fun _ => ?_⟩)⟩
  · rw [if_pos r] at hQ
    rw [h.1.2.1.1, h.1.2.1.2.2.2.1]
    refine ⟨h.1.1, h.2.2.1.1.1, S_X9_fairAsk h.2.1 h.2.2.1.1 h.2.2.1.2.2.2.2 h.2.2.1.2.2.2.1 ?_⟩
    rw [h.1.2.1.1, h.1.2.1.2.2.2.1]
    refine ⟨h.1.1, h.2.2.1.1.1, S_X9_fairBid h.2.1 h.2.2.1.1 h.2.2.1.2.2.2.2 h.2.2.1.2.2.2.1 ?_⟩
    have ra := fairA_rng (σ := cS c) (w := cW c)
    have rb := fairB_rng (σ := cS c) (w := cW c)
    have ea : iI (fairA (cS c) (cW c)) = (-4 : Int32) ↔ fairA (cS c) (cW c) = -4 := iI_eq (b := -4) (by omega) (by omega)
    have eb : iI (fairB (cS c) (cW c)) = (-4 : Int32) ↔ fairB (cS c) (cW c) = -4 := iI_eq (b := -4) (by omega) (by omega)
    refine ⟨fun z => ?_, fun z => ⟨fun y => ?_, fun y => ?_⟩⟩
    · rw [if_pos (Or.inl (ea.mp z))] at hQ; exact hQ
    · rw [if_neg (fun q => by rcases q with q | q; exact z (ea.mpr q); exact y (eb.mpr q))] at hQ
      rw [iI_sub]; exact hQ
    · rw [if_pos (Or.inr (eb.mp y))] at hQ; exact hQ
  · rw [if_neg r] at hQ; exact hQ
end COMP
