/-! THE REFERENCE: fair prices; calls -/
def partB (σ : StT) (al : Bool) (i p : Nat) : Nat := if al = true then buyAt σ i p else selAt σ i p
theorem partB_le {σ : StT} (h : sWF σ) {al : Bool} (i p : Nat) : partB σ al i p ≤ 100 := by
  unfold partB
  split
  · exact buyAt_le h i p
  · exact selAt_le h i p
abbrev fcnd (σ : StT) (al : Bool) (i p j : Nat) : Prop := if al = true then sDeal σ j (sVa σ i) 0 p = 1 else sDeal σ j (sVa σ i) p 100 = 2
theorem deal_b {kd li va p : Nat} : dealN kd li va 0 p = 1 ↔ wbuy kd li va p := by
  unfold dealN
  by_cases c : wbuy kd li va p
  · rw [if_pos c]; exact ⟨fun _ => c, fun _ => rfl⟩
  · rw [if_neg c]
    refine ⟨fun z => ?_, fun z => absurd z c⟩
    split at z <;> omega
theorem deal_s {kd li va p : Nat} (hl : li ≤ 99) (hv : va ≤ 99) : dealN kd li va p 100 = 2 ↔ wsel kd li va p := by
  unfold dealN
  rw [if_neg (by unfold wbuy; omega)]
  by_cases c : wsel kd li va p
  · rw [if_pos c]; exact ⟨fun _ => c, fun _ => rfl⟩
  · rw [if_neg c]
    exact ⟨fun z => absurd z (by omega), fun z => absurd z c⟩
theorem partB_eq {σ : StT} (hw : sWF σ) {al : Bool} {i p : Nat} (hi : i < sN σ) : sumN (fun j => bit (if al = true then sDeal σ j (sVa σ i) 0 p = 1 else sDeal σ j (sVa σ i) p 100 = 2) (sPt σ j)) (sS σ) = partB σ al i p := by
  have hva := (hw.2.1 i hi).2.2
  unfold partB
  cases al
  · rw [if_neg (by decide)]
    refine sumN_congr (sS σ) (fun j hj => bit_iff ?_)
    rw [if_neg (by decide)]
    exact deal_s (hw.2.2.2.1 j hj).2.2 hva
  · rw [if_pos rfl]
    refine sumN_congr (sS σ) (fun j hj => bit_iff ?_)
    rw [if_pos rfl]
    exact deal_b
section REF
variable {M : Mem} {σ : StT} {c : CT} {w : Nat → Nat} {h : Int} {Q : Int32 → Mem → Prop} {QJ0 : Int64 → Mem → Prop} {QV0 : Mem → Prop}
theorem fr_in {al : Bool} {p i X Y : Nat} {K8 : Nat → Int32 → Int32 → Int64 → Int64 → Int32 → Mem → Prop} (hm : MdOK M) (hr : RS M σ) (hM : Mi M (sN σ) w) (hi : i < sN σ) (hp : p ≤ 100)
    (hk : K8 87 (nI p) (bI al) (lN (X + w i * partB σ al i p * sVa σ i)) (lN (Y + w i * partB σ al i p)) (nI (i + 1)) M) : ∃ n, lp_X13_isFair_23 K8 Q n 87 (nI p) (bI al) (lN X) (lN Y) (nI i) 0 0 M := by
  obtain ⟨w1, w2, w3, w4, w5, w6, -⟩ := hr.1
  have hva := (w2 i hi).2.2
  have hin : vp_in (nI i) 6 := vp_in_nI (by omega) (by omega)
  refine for_up (fun m j => lp_X13_isFair_23 K8 Q m 87 (nI p) (bI al) (lN X) (lN Y) (nI i) (lN (sumN (fun j => bit (if al = true then sDeal σ j (sVa σ i) 0 p = 1 else sDeal σ j (sVa σ i) p 100 = 2) (sPt σ j)) j)) (nI j) M) (sS σ) (fun m => ?_) (fun m j hj ih => ?_)
  · unfold lp_X13_isFair_23
    refine ⟨hm.1, fun _ => ?_, fun hn => absurd (by rw [hr.2.1.2.1]; exact nI_le (Nat.le_refl _) (by omega)) hn⟩
    rw [hm.r23, hm.n23, hm.r2, hm.n2, nI_clamp (by omega), hM i hi, (hr.2.2.1 i hi).2, partB_eq hr.1 hi]
    refine ⟨hm.k23, hin, hm.k2, hin, fun y hy => ⟨hin, fun y2 hy2 => ?_⟩⟩
    rw [hy, hy2, nI_l (by omega), lN_mul, lN_mul, lN_add, lN_add, nI_1]
    exact hk
  · have hpt := (w4 j hj).2.1
    have fin : ∀ y : Nat, y = bit (if al = true then sDeal σ j (sVa σ i) 0 p = 1 else sDeal σ j (sVa σ i) p 100 = 2) (sPt σ j) → jn_X13_isFair_100 K8 (fun fx0 fx1 fx2 fx3 fx5 fx7 fx8 fx10 fM => lp_X13_isFair_23 K8 Q m fx0 fx1 fx2 fx3 fx5 fx7 fx8 fx10 fM) Q 87 (nI p) (bI al) (lN X) (lN Y) (nI i) (nI j) (lN y) (lN (sumN (fun j => bit (if al = true then sDeal σ j (sVa σ i) 0 p = 1 else sDeal σ j (sVa σ i) p 100 = 2) (sPt σ j)) j)) M := by
      intro y hy z hz
      rw [hz, lN_add, nI_1, hy]
      exact ih
    unfold lp_X13_isFair_23
    refine ⟨hm.1, fun hle => absurd (by rw [hr.2.1.2.1] at hle; exact hle) (nI_ge hj (by omega)), fun _ => ?_⟩
    rw [hm.r2, hm.n2, nI_clamp (by omega), (hr.2.2.1 i hi).2]
    refine ⟨fun z => ⟨hm.k2, hin, S_R_dealt hm hr hj hva hp (ask := 100) (by omega) ?_⟩, fun z => ⟨hm.k2, hin, S_R_dealt hm hr hj hva (bid := 0) (by omega) hp ?_⟩⟩
    · have ha : ¬ al = true := bI_0.mp z
      have ee : nI (sDeal σ j (sVa σ i) p 100) = (2 : Int32) ↔ sDeal σ j (sVa σ i) p 100 = 2 := nI_eq (b := 2) (by have : sDeal σ j (sVa σ i) p 100 ≤ 2 := dealN_le _ _ _ _ _; omega) (by omega)
      refine ⟨fun _ => ?_, fun y => absurd z y⟩
      unfold jn_X13_isFair_85
      rw [hm.r5, hm.n5, nI_clamp (by omega), (hr.2.2.2 j hj).2.1, nI_l (by omega)]
      exact ⟨fun q => fin 0 (bit_f (by rw [if_neg ha]; exact mt ee.mpr q)).symm, fun q => ⟨hm.1, hm.k5, vp_in_nI (by omega) (by omega), fin _ (bit_t (by rw [if_neg ha]; exact ee.mp q)).symm⟩⟩
    · have ha : al = true := by cases al; (exact absurd rfl z); rfl
      have ee : nI (sDeal σ j (sVa σ i) 0 p) = (1 : Int32) ↔ sDeal σ j (sVa σ i) 0 p = 1 := nI_eq (b := 1) (by have : sDeal σ j (sVa σ i) 0 p ≤ 2 := dealN_le _ _ _ _ _; omega) (by omega)
      refine ⟨fun y => absurd y z, fun _ => ?_⟩
      unfold jn_X13_isFair_85
      rw [hm.r5, hm.n5, nI_clamp (by omega), (hr.2.2.2 j hj).2.1, nI_l (by omega)]
      exact ⟨fun q => fin 0 (bit_f (by rw [if_pos ha]; exact mt ee.mpr q)).symm, fun q => ⟨hm.1, hm.k5, vp_in_nI (by omega) (by omega), fin _ (bit_t (by rw [if_pos ha]; exact ee.mp q)).symm⟩⟩
def pbW (σ : StT) (w : Nat → Nat) (al : Bool) (p : Nat) : Nat := sumN (fun i => w i * partB σ al i p) (sN σ)
def pbV (σ : StT) (w : Nat → Nat) (al : Bool) (p : Nat) : Nat := sumN (fun i => w i * partB σ al i p * sVa σ i) (sN σ)
theorem S_R_isFair {al : Bool} {p : Nat} (hm : MdOK M) (hr : RS M σ) (hM : Mi M (sN σ) w) (hw : ∀ i, i < sN σ → w i ≤ 100000000000) (hp : p ≤ 100)
    (hQ : Q (if 0 < pbW σ w al p ∧ (if al = true then pbV σ w al p ≤ p * pbW σ w al p else p * pbW σ w al p ≤ pbV σ w al p) then 1 else 0) M) : wp_X13_isFair 87 (nI p) (bI al) M Q := by
  have h6 := hr.1.1
  refine for_up (fun m i => lp_X13_isFair_8 Q m 87 (nI p) (bI al) (lN (sumN (fun i => w i * partB σ al i p * sVa σ i) i)) (lN (sumN (fun i => w i * partB σ al i p) i)) (nI i) M) (sN σ) (fun m => ?_) (fun m i hi ih => ?_)
  · unfold lp_X13_isFair_8
    refine ⟨hm.1, fun _ => ?_, fun hn => absurd (by rw [hr.2.1.1]; exact nI_le (Nat.le_refl _) (by omega)) hn⟩
    obtain ⟨b1, b2⟩ := fw_b (w := w) (b := partB σ al) hr.1 (fun i p => partB_le hr.1 i p) hw p (sN σ) (Nat.le_refl _)
    unfold pbW pbV at hQ
    generalize sumN (fun i => w i * partB σ al i p * sVa σ i) (sN σ) = V at *
    generalize sumN (fun i => w i * partB σ al i p) (sN σ) = W at *
    have b3 : p * W ≤ 100 * 60000000000000 := Nat.mul_le_mul hp b1
    have e0 : lN W ≤ (0 : Int64) ↔ W ≤ 0 := pk_lLE (b := 0) (by omega) (by omega)
    have e1 : lN V < lN (p * W) ↔ V < p * W := pk_lLT (by omega) (by omega)
    have e2 : lN (p * W) < lN V ↔ p * W < V := pk_lLT (by omega) (by omega)
    rw [nI_l (by omega), lN_mul]
    refine ⟨fun z => ?_, fun z => ⟨fun y => ⟨fun x => ?_, fun x => ?_⟩, fun y => ⟨fun x => ?_, fun x => ?_⟩⟩⟩
    · rw [if_neg (fun q => by have := e0.mp z; omega)] at hQ; exact hQ
    · rw [if_neg (fun q => by have := e1.mp x; have q := q.2; rw [if_neg (bI_0.mp y)] at q; omega)] at hQ; exact hQ
    · rw [if_pos ⟨by have := mt e0.mpr z; omega, by rw [if_neg (bI_0.mp y)]; have := mt e1.mpr x; omega⟩] at hQ; exact hQ
    · have ya : al = true := by cases al; (exact absurd rfl y); rfl
      rw [if_neg (fun q => by have := e2.mp x; have q := q.2; rw [if_pos ya] at q; omega)] at hQ; exact hQ
    · have ya : al = true := by cases al; (exact absurd rfl y); rfl
      rw [if_pos ⟨by have := mt e0.mpr z; omega, by rw [if_pos ya]; have := mt e2.mpr x; omega⟩] at hQ; exact hQ
  · unfold lp_X13_isFair_8
    exact ⟨hm.1, fun hle => absurd (by rw [hr.2.1.1] at hle; exact hle) (nI_ge hi (by omega)), fun _ => fr_in hm hr hM hi hp ih⟩
theorem rfA_go (hm : MdOK M) (hr : RS M σ) (hM : Mi M (sN σ) w) (hw : ∀ i, i < sN σ → w i ≤ 100000000000) : ∀ f a, f + a = 100 → Q (iI (findU (isFA σ w) f a)) M → lp_X13_fairAsk_2 Q (f + 1) 87 (nI a) M
  | 0, a, e, hQ => by
    have : a = 100 := by omega
    subst this
    exact ⟨fun _ => hQ, fun z => absurd (nI_le (a := 100) (b := 100) (Nat.le_refl _) (by omega)) z⟩
  | f + 1, a, e, hQ => by
    refine ⟨fun z => absurd z (nI_ge (b := 100) (by omega) (by omega)), fun _ => ⟨hm.1, S_R_isFair (al := true) hm hr hM hw (by omega) ?_⟩⟩
    have hu : findU (isFA σ w) (f + 1) a = if isFA σ w a then (a : Int) else findU (isFA σ w) f (a + 1) := rfl
    have hd : (0 < pbW σ w true a ∧ (if true = true then pbV σ w true a ≤ a * pbW σ w true a else a * pbW σ w true a ≤ pbV σ w true a)) ↔ isFA σ w a := Iff.rfl
    rw [hu] at hQ
    by_cases c : isFA σ w a
    · rw [if_pos c] at hQ
      rw [if_pos (hd.mpr c)]
      exact ⟨fun z => absurd z (by decide), fun _ => by rw [nI_iI]; exact hQ⟩
    · rw [if_neg c] at hQ
      rw [if_neg (mt hd.mp c), nI_1]
      exact ⟨fun _ => rfA_go hm hr hM hw f (a + 1) (by omega) hQ, fun z => absurd rfl z⟩
theorem S_R_fairAsk (hm : MdOK M) (hr : RS M σ) (hM : Mi M (sN σ) w) (hw : ∀ i, i < sN σ → w i ≤ 100000000000) (hQ : Q (iI (fairA σ w)) M) : wp_X13_fairAsk 87 M Q := ⟨101, rfA_go hm hr hM hw 100 0 rfl hQ⟩
theorem rfB_go (hm : MdOK M) (hr : RS M σ) (hM : Mi M (sN σ) w) (hw : ∀ i, i < sN σ → w i ≤ 100000000000) : ∀ b, b ≤ 100 → Q (iI (findD (isFB σ w) b)) M → lp_X13_fairBid_3 Q (b + 1) 87 (nI b) M
  | 0, _, hQ => ⟨fun _ => hQ, fun z => absurd (nI_le (a := 0) (b := 0) (Nat.le_refl _) (by omega)) z⟩
  | b + 1, hb, hQ => by
    refine ⟨fun z => absurd z (nI_nle (by omega) (by omega)), fun _ => ⟨hm.1, S_R_isFair (al := false) hm hr hM hw hb ?_⟩⟩
    have hu : findD (isFB σ w) (b + 1) = if isFB σ w (b + 1) then ((b + 1 : Nat) : Int) else findD (isFB σ w) b := rfl
    have hd : (0 < pbW σ w false (b + 1) ∧ (if false = true then pbV σ w false (b + 1) ≤ (b + 1) * pbW σ w false (b + 1) else (b + 1) * pbW σ w false (b + 1) ≤ pbV σ w false (b + 1))) ↔ isFB σ w (b + 1) := Iff.rfl
    rw [hu] at hQ
    by_cases c : isFB σ w (b + 1)
    · rw [if_pos c] at hQ
      rw [if_pos (hd.mpr c)]
      exact ⟨fun z => absurd z (by decide), fun _ => by rw [nI_iI]; exact hQ⟩
    · rw [if_neg c] at hQ
      rw [if_neg (mt hd.mp c), pk_m1]
      exact ⟨fun _ => rfB_go hm hr hM hw b (by omega) hQ, fun z => absurd rfl z⟩
theorem S_R_fairBid (hm : MdOK M) (hr : RS M σ) (hM : Mi M (sN σ) w) (hw : ∀ i, i < sN σ → w i ≤ 100000000000) (hQ : Q (iI (fairB σ w)) M) : wp_X13_fairBid 87 M Q := ⟨101, rfB_go hm hr hM hw 100 (by omega) hQ⟩
theorem S_R_clamped {x : Int} (hx : -1000 ≤ x ∧ x ≤ 1000) (hQ : Q (iI (max 0 (min 100 x))) M) : wp_X13_clamped (iI x) M Q := by
  have e0 : (0 : Int32) ≤ iI x ↔ 0 ≤ x := iI_le (a := 0) (by omega) (by omega)
  have e1 : iI x ≤ (100 : Int32) ↔ x ≤ 100 := iI_le (b := 100) (by omega) (by omega)
  refine ⟨fun z => ⟨fun y => ?_, fun y => ?_⟩, fun z => ?_⟩
  · have := e0.mp z; have := e1.mp y
    rw [show max 0 (min 100 x) = x by omega] at hQ; exact hQ
  · have := e0.mp z; have := mt e1.mpr y
    rw [show max 0 (min 100 x) = 100 by omega] at hQ; exact hQ
  · have := mt e0.mpr z
    rw [show max 0 (min 100 x) = 0 by omega] at hQ; exact hQ
abbrev caC (a k : Nat) : Prop := a = 87 ∧ (k = 24 ∨ k = 25)
theorem ca_end {B A : Int} {b a : Nat} (hm : MdOK M) (hB : -1000 ≤ B ∧ B ≤ 1000) (hA : -1000 ≤ A ∧ A ≤ 1000) (eb : b = (min 99 B).toNat) (ea : a = (max ((b : Int) + 1) (min 100 A)).toNat)
    (hQ : ∀ M', Fg caC M M' → mI M' 87 24 = nI b → mI M' 87 25 = nI a → QV0 M') : jn_X13_call_135 QV0 87 (iI B) (iI A) M := by
  refine S_R_clamped hB ⟨hm.1, fun M1 e1 => S_R_clamped hA ⟨by rw [e1]; exact hm.1, fun M2 e2 => ?_⟩⟩
  have f2 : Fg caC M M2 := by rw [e2, e1]; exact (Fg.pI ⟨rfl, Or.inl rfl⟩).sI ⟨rfl, Or.inr rfl⟩
  have i4 : mI M2 87 24 = iI (max 0 (min 100 B)) := by rw [e2, mI_uI, if_pos rfl, if_neg (by decide), e1, mI_uI, if_pos rfl, if_pos rfl]
  have i5 : mI M2 87 25 = iI (max 0 (min 100 A)) := by rw [e2, mI_uI, if_pos rfl, if_pos rfl]
  have m2 : mK M2 87 = 14 := by rw [f2.K]; exact hm.1
  rw [i4, i5]
  have el : iI (max 0 (min 100 B)) < iI (max 0 (min 100 A)) ↔ max 0 (min 100 B) < max 0 (min 100 A) := iI_lt (by omega) (by omega)
  have e100 : iI (max 0 (min 100 B)) = (100 : Int32) ↔ max 0 (min 100 B) = 100 := iI_eq (b := 100) (by omega) (by omega)
  have fin : ∀ x : Int, x = (b : Int) → (b : Int) + 1 = (a : Int) → jn_X13_call_183 QV0 87 (iI x) 87 M2 := by
    intro x hx hab
    refine ⟨m2, fun M3 e3 => ⟨by rw [e3]; exact m2, fun M4 e4 => ?_⟩⟩
    have i34 : mI M3 87 24 = nI b := by rw [e3, mI_uI, if_pos rfl, if_pos rfl, hx, nI_iI]
    refine hQ M4 (by rw [e4, e3]; exact (f2.sI ⟨rfl, Or.inl rfl⟩).sI ⟨rfl, Or.inr rfl⟩) ?_ ?_
    · rw [e4, mI_uI, if_pos rfl, if_neg (by decide)]; exact i34
    · rw [e4, mI_uI, if_pos rfl, if_pos rfl, i34, nI_1]
      congr 1; omega
  refine ⟨fun z => ?_, fun z => ⟨fun y => ?_, fun y => ?_⟩⟩
  · have z := el.mp z
    refine hQ M2 f2 ?_ ?_
    · rw [i4, nI_iI]; congr 1; omega
    · rw [i5, nI_iI]; congr 1; omega
  · have z := mt el.mpr z
    have y := mt e100.mpr y
    exact fin _ (by omega) (by omega)
  · have z := mt el.mpr z
    have y := e100.mp y
    exact fin 99 (by omega) (by omega)
theorem S_R_call {k f : Nat} (hm : MdOK M) (hr : RS M σ) (hM : Mi M (sN σ) w) (hw : ∀ i, i < sN σ → w i ≤ 100000000000) (hp : 0 < sumN w (sN σ)) (h26 : mI M 87 26 = nI (mbc σ)) (hk : k ≤ 5) (hf : f ≤ 49) (hh : -20 ≤ h ∧ h ≤ 20)
    (hQ : ∀ M', Fg caC M M' → mI M' 87 24 = nI (bidW σ w h k f) → mI M' 87 25 = nI (askW σ w h k f) → QV0 M') : wp_X13_call 87 (nI k) (nI f) (iI h) M QV0 := by
  have rb := wishB_rng (σ := σ) (w := w) (hh := h) (k := k) (f := f) hr.1 hh hf
  have ra := wishA_rng (σ := σ) (w := w) (hh := h) (k := k) (f := f) hr.1 hh hf
  have fin : ∀ B A : Int, B = wishB σ w h k f → A = wishA σ w h k f → jn_X13_call_135 QV0 87 (iI B) (iI A) M := fun B A e1 e2 =>
    ca_end hm (by omega) (by omega) (by rw [e1]; rfl) (by rw [e2]; rfl) hQ
  have k1 : nI k = (1 : Int32) ↔ k = 1 := nI_eq (b := 1) (by omega) (by omega)
  have k2 : nI k = (2 : Int32) ↔ k = 2 := nI_eq (b := 2) (by omega) (by omega)
  have k3 : nI k = (3 : Int32) ↔ k = 3 := nI_eq (b := 3) (by omega) (by omega)
  have k4 : nI k = (4 : Int32) ↔ k = 4 := nI_eq (b := 4) (by omega) (by omega)
  have k5 : nI k = (5 : Int32) ↔ k = 5 := nI_eq (b := 5) (by omega) (by omega)
  -- kinds 1, 2, 3
  have mid : ∀ (m : Nat) (l : Int), (k = 1 ∨ k = 2 ∨ k = 3) → (m : Int) - f - l = wishB σ w h k f → (m : Int) + f + 1 - l = wishA σ w h k f → jn_X13_call_50 QV0 87 (nI k) (nI f) (nI m) (iI l) M := by
    intro m l hk3 eB eA y hy y2 hy2
    have hb : y = iI (wishB σ w h k f) := by rw [hy, nI_iI, nI_iI, iI_sub, iI_sub, eB]
    have ha : y2 = iI (wishA σ w h k f) := by rw [hy2, nI_iI, nI_iI, iI_add, show (1 : Int32) = iI 1 from rfl, iI_add, iI_sub, eA]
    rw [hb, ha]
    exact ⟨fun _ => ⟨fun _ => fin _ _ rfl rfl, fun z => by have := k5.mp z; omega⟩, fun z => by have := k4.mp z; omega⟩
  have b23 : ∀ m : Nat, (k = 3 → m = mvN σ w) → (k ≠ 3 → m = mbc σ) → jn_X13_call_23 QV0 87 (nI k) (nI f) (iI h) 0 100 (nI m) M := by
    intro m hm3 hm1
    have m40 : (k = 1 ∨ k = 2 ∨ k = 3) → jn_X13_call_40 QV0 87 (nI k) (nI f) (iI h) (nI m) M := by
      intro hk3
      refine ⟨fun z => mid m 0 hk3 ?_ ?_, fun z => mid m h hk3 ?_ ?_⟩
      · have := mt k2.mpr z
        unfold wishB
        by_cases c : k = 1
        · rw [if_pos c, hm1 (by omega)]; omega
        · rw [if_neg c, if_neg (by omega), if_pos (by omega), hm3 (by omega)]; omega
      · have := mt k2.mpr z
        unfold wishA
        by_cases c : k = 1
        · rw [if_pos c, hm1 (by omega)]; omega
        · rw [if_neg c, if_neg (by omega), if_pos (by omega), hm3 (by omega)]; omega
      · have := k2.mp z
        unfold wishB
        rw [if_neg (by omega), if_pos (by omega), hm1 (by omega)]
      · have := k2.mp z
        unfold wishA
        rw [if_neg (by omega), if_pos (by omega), hm1 (by omega)]
    refine ⟨fun z => m40 (Or.inl (k1.mp z)), fun z1 => ⟨fun z => m40 (Or.inr (Or.inl (k2.mp z))), fun z2 => ⟨fun z3 => ?_, fun z => m40 (Or.inr (Or.inr (k3.mp z)))⟩⟩⟩
    have z1 := mt k1.mpr z1
    have z2 := mt k2.mpr z2
    have z3 := mt k3.mpr z3
    refine ⟨fun z4 => ⟨fun z5 => ?_, fun z5 y hy => ?_⟩, fun z4 => ⟨hm.1, S_R_fairBid hm hr hM hw ⟨hm.1, S_R_fairAsk hm hr hM hw ?_⟩⟩⟩
    · have z4 := mt k4.mpr z4
      have z5 := mt k5.mpr z5
      refine fin 0 100 ?_ ?_
      · unfold wishB; rw [if_neg z1, if_neg z2, if_neg z3, if_neg z4, if_neg z5]
      · unfold wishA; rw [if_neg z1, if_neg z2, if_neg z3, if_neg z4, if_neg z5]
    · have z5 := k5.mp z5
      have hy2 : y = iI (2 * (f : Int) + 1) := by rw [hy, nI_iI, show (2 : Int32) = iI 2 from rfl, iI_mul, show (1 : Int32) = iI 1 from rfl, iI_add]
      rw [hy2, nI_iI]
      refine fin _ _ ?_ ?_
      · unfold wishB; rw [if_neg z1, if_neg z2, if_neg z3, if_neg (by omega), if_pos z5]
      · unfold wishA; rw [if_neg z1, if_neg z2, if_neg z3, if_neg (by omega), if_pos z5]
    · have z4 := k4.mp z4
      have gA := fairA_rng (σ := σ) (w := w)
      have gB := fairB_rng (σ := σ) (w := w)
      have eA : (0 : Int32) ≤ iI (fairA σ w) ↔ 0 ≤ fairA σ w := iI_le (a := 0) (by omega) (by omega)
      have eB : (0 : Int32) ≤ iI (fairB σ w) ↔ 0 ≤ fairB σ w := iI_le (a := 0) (by omega) (by omega)
      have last : ∀ B A : Int, B = wishB σ w h k f → A + f = wishA σ w h k f → jn_X13_call_116 QV0 87 (nI k) (nI f) (iI B) (iI A) M := by
        intro B A e1 e2 y hy
        have hy2 : y = iI (A + f) := by rw [hy, nI_iI, iI_add]
        rw [hy2]
        exact ⟨fun _ => fin _ _ e1 e2, fun z => by have := k5.mp z; omega⟩
      have pre : ∀ x : Int, x - f = wishB σ w h k f → jn_X13_call_100 QV0 87 (nI k) (nI f) (iI (fairA σ w)) (iI x) M := by
        intro x ex y hy
        have hy2 : y = iI (x - f) := by rw [hy, nI_iI, iI_sub]
        rw [hy2]
        refine ⟨fun z => last _ _ ex ?_, fun z => last _ 100 ex ?_⟩
        · have := eA.mp z
          unfold wishA; rw [if_neg z1, if_neg z2, if_neg z3, if_pos z4, if_neg (by omega)]
        · have := mt eA.mpr z
          unfold wishA; rw [if_neg z1, if_neg z2, if_neg z3, if_pos z4, if_pos (by omega)]
      refine ⟨fun z => pre _ ?_, fun z => pre 0 ?_⟩
      · have := eB.mp z
        unfold wishB; rw [if_neg z1, if_neg z2, if_neg z3, if_pos z4, if_neg (by omega)]
      · have := mt eB.mpr z
        unfold wishB; rw [if_neg z1, if_neg z2, if_neg z3, if_pos z4, if_pos (by omega)]
  refine ⟨fun z => ⟨hm.1, ?_⟩, fun z => ⟨hm.1, S_R_meanInMind hm hr hM hw hp ?_⟩⟩
  · rw [h26]
    exact b23 (mbc σ) (fun q => absurd (k3.mpr q) z) (fun _ => rfl)
  · exact b23 (mvN σ w) (fun _ => rfl) (fun q => absurd (k3.mp z) q)
end REF
