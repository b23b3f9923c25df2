/-! THE REFERENCE: the best last hour, two hours, the best slates -/
def lhT (σ : StT) (w : Nat → Nat) (h g : Int) (b a i ev : Nat) : Int := ((w i * odds σ h ev i b a : Nat) : Int) * (g + tkI ev b a - (sCo σ * (hA ev h).natAbs : Nat) + hA ev h * sVa σ i)
def lhV (σ : StT) (w : Nat → Nat) (h g : Int) (b a : Nat) : Int := sumZ (fun i => sumZ (lhT σ w h g b a i) 3) (sN σ)
theorem lhV_eq {σ : StT} {w : Nat → Nat} {h g : Int} {b a : Nat} (hw : sWF σ) (hba : b < a) : lhV σ w h g b a = pkS σ w h g + mbN σ w h 2 b + mbN σ w h 1 a := by
  unfold lhV pkS mbN
  rw [← sumZ_add, ← sumZ_add]
  refine sumZ_congr _ (fun i hi => ?_)
  have ho := od_le hw (h := h) (i := i) (bid := b) (ask := a) hba
  have e3 : sumZ (lhT σ w h g b a i) 3 = 0 + lhT σ w h g b a i 0 + lhT σ w h g b a i 1 + lhT σ w h g b a i 2 := rfl
  have o0 : odds σ h 0 i b a = 100 - odB σ h i a - odS σ h i b := by unfold odds; rw [if_neg (by decide), if_neg (by decide)]
  have o1 : odds σ h 1 i b a = odB σ h i a := by unfold odds; rw [if_pos rfl]
  have o2 : odds σ h 2 i b a = odS σ h i b := by unfold odds; rw [if_neg (by decide), if_pos rfl]
  have p1 : odds σ h 1 i a a = odB σ h i a := by unfold odds; rw [if_pos rfl]
  have p2 : odds σ h 2 i b b = odS σ h i b := by unfold odds; rw [if_neg (by decide), if_pos rfl]
  have t0 : tkI 0 b a = 0 := by unfold tkI; rw [if_neg (by decide), if_neg (by decide)]
  have t1 : tkI 1 b a = a := by unfold tkI; rw [if_pos rfl]
  have t2 : tkI 2 b a = -(b : Int) := by unfold tkI; rw [if_neg (by decide), if_pos rfl]
  have u1 : tkI 1 a a = a := by unfold tkI; rw [if_pos rfl]
  have u2 : tkI 2 b b = -(b : Int) := by unfold tkI; rw [if_neg (by decide), if_pos rfl]
  have a0 : hA 0 h = h := by unfold hA; rw [if_neg (by decide), if_neg (by decide)]
  rw [e3]
  unfold lhT
  rw [o0, o1, o2, p1, p2, t0, t1, t2, u1, u2, a0]
  generalize odB σ h i a = B at *
  generalize odS σ h i b = S at *
  generalize hA 1 h = h1
  generalize hA 2 h = h2
  have c0 : ((w i * (100 - B - S) : Nat) : Int) = 100 * (w i : Int) - ((w i * B : Nat) : Int) - ((w i * S : Nat) : Int) := by
    rw [Nat.mul_sub, Nat.mul_sub]
    have : w i * B + w i * S ≤ w i * 100 := by rw [← Nat.mul_add]; exact Nat.mul_le_mul_left _ ho
    omega
  rw [c0]
  generalize ((w i * B : Nat) : Int) = WB
  generalize ((w i * S : Nat) : Int) = WS
  generalize 100 * (w i : Int) = W
  generalize ((sCo σ * h.natAbs : Nat) : Int) = C0
  generalize ((sCo σ * h1.natAbs : Nat) : Int) = C1
  generalize ((sCo σ * h2.natAbs : Nat) : Int) = C2
  generalize (sVa σ i : Int) = v
  rw [Int.sub_mul h2 h v, Int.sub_mul h1 h v]
  generalize h * v = hv
  generalize h1 * v = h1v
  generalize h2 * v = h2v
  have x1 : (g + (a : Int) - C1 + h1v) = (g - C0 + hv) + ((a : Int) - C1 + C0 + (h1v - hv)) := by omega
  have x2 : (g + -(b : Int) - C2 + h2v) = (g - C0 + hv) + (-(b : Int) - C2 + C0 + (h2v - hv)) := by omega
  have x0 : (g + 0 - C0 + hv) = (g - C0 + hv) := by omega
  rw [x0, x1, x2]
  generalize (g - C0 + hv) = X
  generalize ((a : Int) - C1 + C0 + (h1v - hv)) = Y1
  generalize (-(b : Int) - C2 + C0 + (h2v - hv)) = Y2
  rw [Int.mul_add WB, Int.mul_add WS, Int.sub_mul, Int.sub_mul]
  omega
theorem pkF_lh {σ : StT} {w : Nat → Nat} {h g : Int} {n L s : Nat} (hw : sWF σ) (hlt : pB L s * n < pA L s * n) : pkF σ w h g n L s = jI (lhV σ w h g (pB L s * n) (pA L s * n)) := by
  unfold pkF
  rw [lhV_eq hw hlt]
section REF
variable {M : Mem} {σ : StT} {c : CT} {w p : Nat → Nat} {h g : Int} {Q : Int32 → Mem → Prop} {QJ0 : Int64 → Mem → Prop} {QV0 : Mem → Prop}
abbrev Fi (M : Mem) (n : Nat) (w : Nat → Nat) : Prop := ∀ i, i < n → mJ M 108 i = lN (w i)
theorem lh_in {b a i : Nat} {acc : Int} {K : Nat → Int32 → Int32 → Int32 → Int32 → Int64 → Int32 → Mem → Prop} (hm : MdOK M) (hr : RS M σ) (hF : Fi M (sN σ) w) (hw : ∀ i, i < sN σ → w i ≤ 100000000000) (hi : i < sN σ) (hba : b < a) (ha : a ≤ 100) (hh : -20 ≤ h ∧ h ≤ 20) (hg : -5000 ≤ g ∧ g ≤ 5000)
    (hk : K 87 (nI b) (nI a) (iI h) (iI g) (jI (acc + sumZ (lhT σ w h g b a i) 3)) (nI (i + 1)) M) : ∃ n, lp_X13_lastHour_18 K QJ0 n 87 (nI b) (nI a) (iI h) (iI g) (jI acc) (nI i) 0 M := by
  obtain ⟨w1, w2, w3, w4, w5, w6, wm, wc, -⟩ := hr.1
  have hva := (w2 i hi).2.2
  have hwi := hw i hi
  have hin : vp_in (nI i) 6 := vp_in_nI (by omega) (by omega)
  refine for_up (fun m e => lp_X13_lastHour_18 K QJ0 m 87 (nI b) (nI a) (iI h) (iI g) (jI (acc + sumZ (lhT σ w h g b a i) e)) (nI i) (nI e) M) 3 (fun m => ?_) (fun m e he ih => ?_) |> fun ⟨m, hx⟩ => ⟨m, by
    have hx := hx
    simp only [sumZ, Int.add_zero] at hx
    exact hx⟩
  · unfold lp_X13_lastHour_18
    refine ⟨fun _ => ?_, fun z => absurd (nI_le (a := 3) (b := 3) (Nat.le_refl _) (by omega)) z⟩
    unfold jn_X13_lastHour_136
    rw [nI_1]; exact hk
  · unfold lp_X13_lastHour_18
    refine ⟨fun z => absurd z (nI_ge (b := 3) he (by omega)), fun _ => ?_⟩
    rw [hm.r37, hm.n37, nI_clamp (by omega), hF i hi]
    have e0 : lN (w i) ≤ (0 : Int64) ↔ w i ≤ 0 := pk_lLE (b := 0) (by omega) (by omega)
    refine ⟨hm.1, hm.k37, hin, fun z => ?_, fun z => S_R_heldBy (by omega) ?_⟩
    · have z := e0.mp z
      have ez : ∀ ev, lhT σ w h g b a i ev = 0 := fun ev => by
        unfold lhT
        rw [show w i = 0 by omega, Nat.zero_mul]
        exact Int.zero_mul _
      have es : ∀ k, sumZ (lhT σ w h g b a i) k = 0 := fun k => by
        rw [sumZ_congr (g := fun _ => 0) k (fun ev _ => ez ev), sumZ_0]
      unfold jn_X13_lastHour_136
      rw [es] at hk ⊢
      rw [nI_1]; exact hk
    · have e1 : nI e = (1 : Int32) ↔ e = 1 := nI_eq (b := 1) (by omega) (by omega)
      have e2 : nI e = (2 : Int32) ↔ e = 2 := nI_eq (b := 2) (by omega) (by omega)
      have ht : -21 ≤ hA e h ∧ hA e h ≤ 21 := by
        unfold hA
        split
        · omega
        · split <;> omega
      have hv1 : -2100 ≤ hA e h * (sVa σ i : Int) ∧ hA e h * (sVa σ i : Int) ≤ 2100 := by
        have a1 : hA e h * (sVa σ i : Int) ≤ 21 * (sVa σ i : Int) := Int.mul_le_mul_of_nonneg_right ht.2 (by omega)
        have a2 : (-21) * (sVa σ i : Int) ≤ hA e h * (sVa σ i : Int) := Int.mul_le_mul_of_nonneg_right ht.1 (by omega)
        omega
      have hc1 : sCo σ * (hA e h).natAbs ≤ 9 * 21 := Nat.mul_le_mul wc (by omega)
      have htk : -100 ≤ tkI e b a ∧ tkI e b a ≤ 100 := by
        unfold tkI
        split
        · omega
        · split <;> omega
      have fin : ∀ t : Int, t = tkI e b a → jn_X13_lastHour_68 K (fun fx0 fx1 fx2 fx3 fx4 fx5 fx7 fx8 fM => lp_X13_lastHour_18 K QJ0 m fx0 fx1 fx2 fx3 fx4 fx5 fx7 fx8 fM) QJ0 87 (nI b) (nI a) (iI h) (iI g) (jI (acc + sumZ (lhT σ w h g b a i) e)) (nI i) (nI e) (iI (hA e h)) (iI t) (iI g) M := by
        intro t et
        have nb : ∀ x : Int, x = ((hA e h).natAbs : Int) → jn_X13_lastHour_86 K (fun fx0 fx1 fx2 fx3 fx4 fx5 fx7 fx8 fM => lp_X13_lastHour_18 K QJ0 m fx0 fx1 fx2 fx3 fx4 fx5 fx7 fx8 fM) QJ0 87 (nI b) (nI a) (iI h) (iI g) (jI (acc + sumZ (lhT σ w h g b a i) e)) (nI i) (nI e) (iI (hA e h)) (iI x) (mI M 87 8) (iI g + iI t) M := by
          intro x ex
          unfold jn_X13_lastHour_86
          rw [hm.r2, hm.n2, hm.r37, hm.n37, nI_clamp (by omega), (hr.2.2.1 i hi).2, hF i hi, hr.2.1.2.2.2.1]
          refine ⟨hm.1, hm.k2, hin, fun y hy => ⟨hm.k37, hin, S_R_hun hm hr (by omega) hi (by omega) ha (by omega) (fun y2 hy2 => ?_)⟩⟩
          have ey : y = iI (g + tkI e b a - (sCo σ * (hA e h).natAbs : Nat) + hA e h * sVa σ i) := by
            rw [hy, iI_add, nI_iI, iI_mul, iI_sub, nI_iI, iI_mul, iI_add, et, ex]
            congr 1
          rw [← odds_hun hr.1 (by omega) hba] at hy2
          have lo := odds_le hr.1 (h := h) (ev := e) (i := i) (bid := b) (ask := a)
          rw [ey, nI_l (by omega), lN_mul, lN_jI, iI_jI (by omega) (by omega), jI_mul, jI_add] at hy2
          rw [hy2, nI_1]
          have e9 : acc + sumZ (lhT σ w h g b a i) e + ((w i * odds σ h e i b a : Nat) : Int) * (g + tkI e b a - (sCo σ * (hA e h).natAbs : Nat) + hA e h * sVa σ i) = acc + sumZ (lhT σ w h g b a i) (e + 1) := by
            rw [Int.add_assoc]; rfl
          rw [e9]
          exact ih
        have c0 : (0 : Int32) ≤ iI (hA e h) ↔ 0 ≤ hA e h := iI_le (a := 0) (by omega) (by omega)
        refine ⟨hm.1, fun z => nb _ (by have := c0.mp z; omega), fun z => ?_⟩
        rw [iI_neg]
        exact nb _ (by have := mt c0.mpr z; omega)
      refine ⟨fun z => ⟨fun y => fin 0 ?_, fun y => ?_⟩, fun z => ?_⟩
      · unfold tkI; rw [if_neg (mt e1.mpr z), if_neg (mt e2.mpr y)]
      · have := fin (-(b : Int)) (by unfold tkI; rw [if_neg (mt e1.mpr z), if_pos (e2.mp y)])
        rw [← iI_neg, ← nI_iI] at this
        exact this
      · have := fin (a : Int) (by unfold tkI; rw [if_pos (e1.mp z)])
        rw [← nI_iI] at this
        exact this
theorem S_R_lastHour {b a : Nat} (hm : MdOK M) (hr : RS M σ) (hF : Fi M (sN σ) w) (hw : ∀ i, i < sN σ → w i ≤ 100000000000) (hba : b < a) (ha : a ≤ 100) (hh : -20 ≤ h ∧ h ≤ 20) (hg : -5000 ≤ g ∧ g ≤ 5000) (hQ : QJ0 (jI (lhV σ w h g b a)) M) : wp_X13_lastHour 87 (nI b) (nI a) (iI h) (iI g) M QJ0 := by
  have w1 := hr.1.1
  refine for_up (fun m i => lp_X13_lastHour_6 QJ0 m 87 (nI b) (nI a) (iI h) (iI g) (jI (sumZ (fun i => sumZ (lhT σ w h g b a i) 3) i)) (nI i) M) (sN σ) (fun m => ?_) (fun m i hi ih => ?_)
  · unfold lp_X13_lastHour_6
    exact ⟨hm.1, fun _ => hQ, fun hn => absurd (by rw [hr.2.1.1]; exact nI_le (Nat.le_refl _) (by omega)) hn⟩
  · unfold lp_X13_lastHour_6
    exact ⟨hm.1, fun hle => absurd (by rw [hr.2.1.1] at hle; exact hle) (nI_ge hi (by omega)), fun _ => lh_in hm hr hF hw hi hba ha hh hg ih⟩
/-- what is the best so far, and whether there is one -/
def fs (s : Nat) : Int32 := if s = 0 then 0 else 1
def bv (F : Nat → Int64) (s : Nat) : Int64 := if s = 0 then 0 else F (bst F s)
theorem fs_0 {s : Nat} : fs s = (0 : Int32) ↔ s = 0 := by
  unfold fs
  by_cases c : s = 0
  · rw [if_pos c]; exact ⟨fun _ => c, fun _ => rfl⟩
  · rw [if_neg c]; exact ⟨fun z => absurd z (by decide), fun z => absurd z c⟩
theorem fs_1 {s : Nat} (h : s ≠ 0) : fs s = 1 := if_neg h
theorem bst_s {F : Nat → Int64} {s : Nat} (h : s ≠ 0) : bst F (s + 1) = if F s ≤ F (bst F s) then bst F s else s := by
  show (if s = 0 then 0 else if F s ≤ F (bst F s) then bst F s else s) = _
  rw [if_neg h]
theorem stp {n L b : Nat} (hn : 1 ≤ n) (hL : L = 100 / n) : b * n ≤ 100 ↔ b ≤ L := by
  rw [hL]; exact (Nat.le_div_iff_mul_le hn).symm
theorem S_R_bestLast {n L : Nat} (hm : MdOK M) (hr : RS M σ) (hF : Fi M (sN σ) w) (hw : ∀ i, i < sN σ → w i ≤ 100000000000) (hn : 10 ≤ n ∧ n ≤ 50) (hL : L = 100 / n) (hh : -20 ≤ h ∧ h ≤ 20) (hg : -5000 ≤ g ∧ g ≤ 5000) (hQ : QJ0 (bpk σ w h g n L) M) : wp_X13_bestLast 87 (nI n) (iI h) (iI g) M QJ0 := by
  have hL2 : 2 ≤ L ∧ L ≤ 10 := by
    rw [hL]
    exact ⟨(Nat.le_div_iff_mul_le (by omega)).mpr (by omega), Nat.le_trans (Nat.div_le_div_left hn.1 (by omega)) (by omega)⟩
  have hbL : 0 < bse L L := by
    obtain ⟨k, rfl⟩ : ∃ k, L = k + 1 := ⟨L - 1, by omega⟩
    have : bse (k + 1) 1 ≤ bse (k + 1) (1 + k) := bse_mono k 1
    rw [Nat.add_comm 1 k] at this
    have : bse (k + 1) 1 = 0 + (k + 1 - 0) := rfl
    omega
  have st := fun b => stp (b := b) (n := n) (L := L) (by omega) hL
  have bse1 : ∀ b, bse L (b + 1) = bse L b + (L - b) := fun b => rfl
  refine for_up (fun m b => lp_X13_bestLast_9 QJ0 m 87 (nI n) (iI h) (iI g) (fs (bse L b)) (bv (pkF σ w h g n L) (bse L b)) (nI (b * n)) M) (L + 1) (fun m => ?_) (fun m b hb ih => ?_) |> fun ⟨m, hx⟩ => ⟨m, by
    have hx := hx
    rw [Nat.zero_mul] at hx
    exact hx⟩
  · unfold lp_X13_bestLast_9
    have hgt : 100 < (L + 1) * n := by have := mt (st (L + 1)).mp (by omega); omega
    have hle : (L + 1) * n ≤ 11 * 50 := Nat.mul_le_mul (by omega) hn.2
    refine ⟨fun _ => ?_, fun z => absurd (nI_lt (a := 100) hgt (by omega)) z⟩
    rw [bse1, Nat.sub_self, Nat.add_zero]
    unfold bv
    rw [if_neg (by omega)]
    exact hQ
  · have hbn := (st b).mpr (by omega)
    unfold lp_X13_bestLast_9
    refine ⟨fun z => absurd ((nI_lt31 (a := 100) (by omega) (by omega)).mp z) (by omega), fun _ y hy => ?_⟩
    have ey : y = nI ((b + 1 + 0) * n) := by rw [hy, nI_add, Nat.add_zero, Nat.succ_mul]
    rw [ey]
    refine for_up (fun m' i => lp_X13_bestLast_22 (fun fx0 fx1 fx2 fx3 fx4 fx5 fx7 fM => lp_X13_bestLast_9 QJ0 m fx0 fx1 fx2 fx3 fx4 fx5 fx7 fM) QJ0 m' 87 (nI n) (iI h) (iI g) (fs (bse L b + i)) (bv (pkF σ w h g n L) (bse L b + i)) (nI (b * n)) (nI ((b + 1 + i) * n)) M) (L - b) (fun m' => ?_) (fun m' i hi ih2 => ?_)
    · unfold lp_X13_bestLast_22
      have hgt : 100 < (b + 1 + (L - b)) * n := by have := mt (st (b + 1 + (L - b))).mp (by omega); omega
      have hle : (b + 1 + (L - b)) * n ≤ 11 * 50 := Nat.mul_le_mul (by omega) hn.2
      refine ⟨fun _ y2 hy2 => ?_, fun z => absurd (nI_lt (a := 100) hgt (by omega)) z⟩
      have ey2 : y2 = nI ((b + 1) * n) := by rw [hy2, nI_add, Nat.succ_mul]
      rw [ey2, ← bse1]
      exact ih
    · have han := (st (b + 1 + i)).mpr (by omega)
      obtain ⟨qB, qA⟩ := pBA (L := L) (b := b) (i := i) (by omega) hi
      have hlt : b * n < (b + 1 + i) * n := Nat.mul_lt_mul_of_pos_right (by omega) (by omega)
      unfold lp_X13_bestLast_22
      refine ⟨fun z => absurd ((nI_lt31 (a := 100) (by omega) (by omega)).mp z) (by omega), fun _ => ⟨hm.1, S_R_lastHour hm hr hF hw hlt han hh hg ?_⟩⟩
      have eF : jI (lhV σ w h g (b * n) ((b + 1 + i) * n)) = pkF σ w h g n L (bse L b + i) := by
        rw [pkF_lh hr.1 (by rw [qB, qA]; exact hlt), qB, qA]
      rw [eF]
      have f1 : fs (bse L b + (i + 1)) = 1 := fs_1 (by omega)
      have nxt : nI ((b + 1 + i) * n) + nI n = nI ((b + 1 + (i + 1)) * n) := by rw [nI_add, ← Nat.add_assoc (b + 1) i 1, Nat.succ_mul]
      rw [f1, show bse L b + (i + 1) = bse L b + i + 1 from rfl] at ih2
      unfold bv at ih2 ⊢
      rw [if_neg (by omega)] at ih2
      refine ⟨fun z => ?_, fun z => ⟨fun y2 => ?_, fun y2 => ?_⟩⟩
      · have z := fs_0.mp z
        intro y3 hy3
        rw [hy3, nxt]
        have eb : bst (pkF σ w h g n L) (bse L b + i + 1) = bse L b + i := by
          rw [z]; rfl
        rw [eb] at ih2
        exact ih2
      · have z := mt fs_0.mpr z
        rw [if_neg z] at y2 ⊢
        rw [bst_s z, if_pos y2] at ih2
        intro y3 hy3
        rw [hy3, nxt, fs_1 z]
        exact ih2
      · have z := mt fs_0.mpr z
        rw [if_neg z] at y2
        rw [bst_s z, if_neg y2] at ih2
        intro y3 hy3
        rw [hy3, nxt]
        exact ih2
end REF
