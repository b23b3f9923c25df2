/-! DAYS: logs -/
def ShOK (M : Mem) (q : Nat) : Prop := mK M q = 5 ∧ mR M q 3 = q + 1 ∧ mK M (q + 1) = 20 ∧ mN M (q + 1) = 100
theorem ShOK.fr {A : Nat → Prop} {M M' : Mem} {q : Nat} (h : ShOK M q) (f : Fr A M M') : ShOK M' q := by
  unfold ShOK
  rw [f.K, f.N, f.R]
  exact h
def lgx (σ : StT) (e : Nat → Nat) (b a : Nat) : Nat → (Nat → Nat) × Int
  | 0 => (sCh σ, 0)
  | m + 1 => (stl (sN σ) (flw σ (lgx σ e b a m).1 (lgx σ e b a m).2 (e m) b a), hA (e m) (lgx σ e b a m).2)
def lgw (σ : StT) (e : Nat → Nat) (b a m : Nat) : Nat := sumN (flw σ (lgx σ e b a m).1 (lgx σ e b a m).2 (e m) b a) (sN σ)
def kno (σ : StT) (ev i b a : Nat) : Nat := sumN (fun j => bit ((sKd σ j = 2 ∨ sKd σ j = 3) ∧ sDeal σ j (sVa σ i) b a = ev) (sPt σ j)) (sS σ)
def lgk (σ : StT) (e : Nat → Nat) (b a m : Nat) : Nat := if e m = 0 then 0 else sumN (fun i => (lgx σ e b a m).1 i * kno σ (e m) i b a) (sN σ)
section DAYS
variable {M : Mem} {s t d q b ak : Nat} {σ : StT} {w p : Nat → Nat} {hh g : Int} {c : Nat} {Q : Int32 → Mem → Prop} {QV0 : Mem → Prop}
theorem kno_le (hw : sWF σ) {ev i : Nat} : kno σ ev i b ak ≤ 100 := Nat.le_trans (sum_bit_le _) hw.2.2.2.2.2.1
theorem S_X4_hasPlace {n : Nat} {x : Int32} (hk : mK M q = 5) (hn : mI M q 2 = nI n) (hn2 : n ≤ 100) (h1 : ∀ j, j < n → x = nI j → Q 1 M) (h0 : (∀ j, j < n → x ≠ nI j) → Q 0 M) : wp_X4_hasPlace q x M Q := by
  unfold wp_X4_hasPlace
  rw [hn]
  rcases pk_ix x (n := n) (by omega) with h | h | ⟨j, hj, rfl⟩
  · refine ⟨fun _ => h0 (fun j hj e => ?_), fun z => absurd h z⟩
    rw [e] at h; exact absurd h (nI_pos (by omega))
  · have h9 : ∀ j, j < n → x ≠ nI j := fun j hj e => by
      rw [e] at h; exact absurd h (nI_ge hj (by omega))
    exact ⟨fun _ => h0 h9, fun _ => ⟨hk, fun _ => h0 h9, fun z => absurd h z⟩⟩
  · exact ⟨fun z => absurd z (nI_pos (by omega)), fun _ => ⟨hk, fun z => absurd z (nI_ge hj (by omega)), fun _ => h1 j hj rfl⟩⟩
theorem S_X0_readLog {L : Nat} {e : Nat → Nat} (hd : DyOK M d) (hs : StTb M s σ) (hq : ShOK M q) (hap : apart s 8 d 24) (haq : apart q 2 d 24) (hL : L < 100) (hn : mI M q 2 = nI (L + 1)) (he : ∀ i, i < L + 1 → e i ≤ 2 ∧ mI M (q + 1) i = nI (e i)) (hb : b ≤ 100) (ha : ak ≤ 100) (hba : b < ak)
    (hF : ∀ m, m < L + 1 → (∀ j, j < m → 0 < lgw σ e b ak j) → ¬ 0 < lgw σ e b ak m → ∀ M', Fr (dyA d) M M' → Q (nI m) M')
    (hY : (∀ j, j < L + 1 → 0 < lgw σ e b ak j) → ∀ M', Fr (dyA d) M M' → mJ M' d 7 = lN (lgk σ e b ak L) → mJ M' d 8 = lN (lgw σ e b ak L) → Q (-1) M') : wp_X0_readLog d s q (nI b) (nI ak) M Q := by
  have hw := hs.1.2.1
  have h6 := hw.1
  unfold wp_X0_readLog
  have c0 : (0 : Int32).toNatClampNeg = 0 := by decide
  have c1 : (1 : Int32).toNatClampNeg = 1 := by decide
  obtain ⟨hd1, hd2, hd3, hd4, hd5, hd6, hd7, hd8, hd9⟩ := id hd
  obtain ⟨r0, t0⟩ := hd8 0 (by omega)
  obtain ⟨r1, t1⟩ := hd8 1 (by omega)
  rw [hd2, hd5, c0, c1, r0, r1]
  refine ⟨hd1, hd4, vp_in_nI (n := 0) (by omega) (by omega), fun y1 e1 => ⟨vp_in_nI (n := 1) (by omega) (by omega), fun y4 e4 => ?_⟩⟩
  rw [e1, e4]
  have d0 : apart s 8 (d + 10 + 2 * 0) 2 := by unfold apart at *; omega
  have d1 : apart s 8 (d + 10 + 2 * 1) 2 := by unfold apart at *; omega
  have dd : apart (d + 10 + 2 * 0) 2 (d + 10 + 2 * 1) 2 := by unfold apart at *; omega
  have fA : ∀ x, thA (d + 10 + 2 * 0) x → dyA d x := fun x hx => by simp only [thA, dyA] at *; omega
  have fB : ∀ x, thA (d + 10 + 2 * 1) x → dyA d x := fun x hx => by simp only [thA, dyA] at *; omega
  have fD : dyA d d := by simp only [dyA]; omega
  have nq : ¬ dyA d q := by unfold apart at haq; simp only [dyA]; omega
  have nq1 : ¬ dyA d (q + 1) := by unfold apart at haq; simp only [dyA]; omega
  refine ⟨t0.1, S_X9_begin hs.1 t0 d0 (fun M8 f8 h8 => ⟨by rw [f8.K]; exact hq.1, fun y9 e9 => ?_⟩)⟩
  have f8' : Fr (dyA d) M M8 := f8.mono fA
  have e9' : y9 = nI L := by rw [e9, f8'.I nq, hn, nI_pred]
  rw [e9']
  have loop := for_up (fun m j => ∀ M', Fr (dyA d) M M' → (∀ i, i < j → 0 < lgw σ e b ak i) → ThAt M' (d + 10 + 2 * 0) (sN σ) (lgx σ e b ak j).1 (lgx σ e b ak j).2 WM → lp_X0_readLog_33 Q m d s q (nI b) (nI ak) (d + 10 + 2 * 0) (d + 10 + 2 * 1) (nI L) (nI j) M') L (fun m M' fr hc ht => ?_) (fun m j hj ih M' fr hc ht => ?_)
  · obtain ⟨m, hm⟩ := loop
    exact ⟨m, hm M8 f8' (fun i hi => absurd hi (by omega)) (h8.up (by decide))⟩
  · have sa := hs.fr fr (fun x _ _ => by unfold apart at hap; simp only [dyA]; omega)
    have qa := hq.fr fr
    unfold lp_X0_readLog_33
    refine ⟨fun _ => ⟨qa.1, S_X4_hasPlace (n := L + 1) qa.1 (by rw [fr.I nq]; exact hn) (by omega) (fun j hj ej => ?_) (fun hno => absurd rfl (hno L (by omega)))⟩, fun z => absurd (nI_le (Nat.le_refl _) (by omega)) z⟩
    refine ⟨fun z => absurd z (by decide), fun _ => ⟨qa.1, ?_⟩⟩
    rw [qa.2.1, qa.2.2.2, nI_clamp (by omega), fr.I nq1, (he L (by omega)).2]
    refine ⟨qa.2.2.1, vp_in_nI (by omega) (by omega), by rw [fr.K]; exact hd1, fun M23 e23 M26 e26 => ?_⟩
    have f26 : Fr (fun x => x = d) M' M26 := by rw [e26, e23]; exact (Fr.uJ (A := fun x => x = d) rfl).t2 (Fr.uJ rfl)
    have j7 : mJ M26 d 7 = lN 0 := by rw [e26, mJ_uJ, if_pos rfl, if_neg (by decide), e23, mJ_uJ, if_pos rfl, if_pos rfl]; rfl
    have j8 : mJ M26 d 8 = lN 0 := by rw [e26, mJ_uJ, if_pos rfl, if_pos rfl]; rfl
    have ev2 := (he L (by omega)).1
    have hw0 : ∀ i, i < sN σ → (lgx σ e b ak L).1 i ≤ 100000000000 := ht.2.2.2.1
    have bnd : ∀ k, k ≤ sN σ → sumN (flw σ (lgx σ e b ak L).1 (lgx σ e b ak L).2 (e L) b ak) k ≤ 6 * 10000000000000 := sumN_le' (fun i hi => Nat.mul_le_mul (hw0 i hi) (odds_le hw)) h6
    have e0 : nI (e L) = (0 : Int32) ↔ e L = 0 := nI_eq (b := 0) (by omega) (by omega)
    have hk0 : e L = 0 → lgk σ e b ak L = 0 := fun z => by unfold lgk; rw [if_pos z]
    have hk1 : e L ≠ 0 → lgk σ e b ak L = sumN (fun i => (lgx σ e b ak L).1 i * kno σ (e L) i b ak) (sN σ) := fun z => by unfold lgk; rw [if_neg z]
    have loop2 := for_up (fun m i => ∀ M2, Fr (fun x => x = d) M' M2 → (e L = 0 → mJ M2 d 7 = lN 0) → (e L ≠ 0 → mJ M2 d 7 = lN (sumN (fun i => (lgx σ e b ak L).1 i * kno σ (e L) i b ak) i)) → mJ M2 d 8 = lN (sumN (flw σ (lgx σ e b ak L).1 (lgx σ e b ak L).2 (e L) b ak) i) → lp_X0_readLog_112 Q m d s (nI b) (nI ak) (d + 10 + 2 * 0) (nI L) (nI (e L)) (nI i) M2) (sN σ) (fun m M2 f2 k70 k71 k8 => ?_) (fun m i hi ih2 M2 f2 k70 k71 k8 => ?_)
    · obtain ⟨m, hm⟩ := loop2
      exact ⟨m, hm M26 f26 (fun _ => j7) (fun _ => j7) j8⟩
    · have sb := sa.fr f2 (fun x _ _ => by unfold apart at hap; omega)
      have fM : Fr (dyA d) M M2 := fr.t2 (f2.mono (fun x hx => by rw [hx]; exact fD))
      unfold lp_X0_readLog_112
      refine ⟨sb.1.1.1, fun _ => ⟨by rw [f2.K, fr.K]; exact hd1, ?_⟩, fun hn => absurd (by rw [sb.1.2.2.1.1]; exact nI_le (Nat.le_refl _) (by omega)) hn⟩
      have hb9 := bnd (sN σ) (Nat.le_refl _)
      change mJ M2 d 8 = lN (lgw σ e b ak L) at k8
      change lgw σ e b ak L ≤ _ at hb9
      have e8 : lN (lgw σ e b ak L) ≤ (0 : Int64) ↔ lgw σ e b ak L ≤ 0 := pk_lLE (b := 0) (by omega) (by omega)
      rw [k8]
      refine ⟨fun z => hF L (by omega) hc (by have := e8.mp z; omega) M2 fM, fun z => hY (fun j hj => ?_) M2 fM ?_ k8⟩
      · by_cases c : j = L
        · rw [c]; have := mt e8.mpr z; omega
        · exact hc j (by omega)
      · by_cases c : e L = 0
        · rw [k70 c, hk0 c]
        · rw [k71 c, hk1 c]
    · have sb := sa.fr f2 (fun x _ _ => by unfold apart at hap; omega)
      have tb := ht.fr f2 (by omega) (by omega)
      have k2 : mK M2 d = 1 := by rw [f2.K, fr.K]; exact hd1
      have lo := odds_le hw (h := (lgx σ e b ak L).2) (ev := e L) (i := i) (bid := b) (ask := ak)
      unfold lp_X0_readLog_112
      refine ⟨sb.1.1.1, fun hle => absurd (by rw [sb.1.2.2.1.1] at hle; exact hle) (nI_ge hi (by omega)), fun _ => ⟨tb.1.1, ?_⟩⟩
      rw [tb.1.2.1, tb.1.2.2.2, nI_clamp (by omega), tb.2.2.2.2 i hi]
      refine ⟨tb.1.2.2.1, vp_in_nI (by omega) (by omega), fun y37 e37 => ⟨k2, S_X9_oddsOf sb tb ev2 hi hb ha (fun _ => hba) ⟨k2, fun M43 e43 => ?_⟩⟩⟩
      rw [k8, e37, nI_l (by omega), lN_mul, lN_add] at e43
      have f43 : Fr (fun x => x = d) M' M43 := by rw [e43]; exact f2.t2 (Fr.uJ rfl)
      have k743 : mJ M43 d 7 = mJ M2 d 7 := by rw [e43, mJ_uJ, if_pos rfl, if_neg (by decide)]
      have k843 : mJ M43 d 8 = lN (sumN (flw σ (lgx σ e b ak L).1 (lgx σ e b ak L).2 (e L) b ak) (i + 1)) := by
        rw [e43, mJ_uJ, if_pos rfl, if_pos rfl]; rfl
      refine ⟨fun z => ?_, fun z => ?_⟩
      · have z := e0.mp z
        unfold jn_X0_readLog_186
        rw [nI_1]
        exact ih2 M43 f43 (fun _ => by rw [k743]; exact k70 z) (fun y => absurd z y) k843
      · have z := mt e0.mpr z
        have sc := sb.fr (show Fr (fun x => x = d) M2 M43 by rw [e43]; exact Fr.uJ rfl) (fun x _ _ => by unfold apart at hap; omega)
        have kl := kno_le hw (ev := e L) (i := i) (b := b) (ak := ak)
        refine ⟨sc.1.1.1, S_X6_knowersOf sc.1 ev2 hi hb ha ⟨by rw [e43]; exact k2, fun M53 e53 => ?_⟩⟩
        change M53 = uJ M43 d 7 (mJ M43 d 7 + y37 * (nI (kno σ (e L) i b ak)).toInt64) at e53
        rw [k743, k71 z, e37, nI_l (by omega), lN_mul, lN_add] at e53
        unfold jn_X0_readLog_186
        rw [nI_1]
        refine ih2 M53 (by rw [e53]; exact f43.t2 (Fr.uJ rfl)) (fun y => absurd y z) (fun _ => ?_) ?_
        · rw [e53, mJ_uJ, if_pos rfl, if_pos rfl]; rfl
        · rw [e53, mJ_uJ, if_pos rfl, if_neg (by decide)]; exact k843
  · have sa := hs.fr fr (fun x _ _ => by unfold apart at hap; simp only [dyA]; omega)
    have qa := hq.fr fr
    have t1' := t1.fr fr
    obtain ⟨ev2, ej⟩ := he j (by omega)
    unfold lp_X0_readLog_33
    refine ⟨fun z => absurd z (nI_ge hj (by omega)), fun _ => ⟨qa.1, ?_⟩⟩
    rw [qa.2.1, qa.2.2.2, nI_clamp (by omega), fr.I nq1, ej]
    refine ⟨qa.2.2.1, vp_in_nI (by omega) (by omega), t1'.1, S_X9_follow sa t1' ht (Nat.le_refl _) d1 dd ev2 hb ha (fun _ => hba) (fun hp0 M58 f58 h58 => ?_) (fun hp0 M58 f58 => ?_)⟩
    · refine ⟨fun _ => ?_, fun z => absurd z (by decide)⟩
      have t0' := (t0.fr fr).fr f58
      refine ⟨t0'.1, S_X9_copyFrom h58 h6 t0' (fun M65 f65 h65 => ?_)⟩
      rw [nI_1]
      refine ih M65 (fr.t2 ((f58.mono fB).t2 (f65.mono fA))) (fun i hi => ?_) h65
      by_cases c : i = j
      · rw [c]; exact hp0
      · exact hc i (by omega)
    · exact ⟨fun z => absurd rfl z, fun _ => hF j (by omega) hc hp0 M58 (fr.t2 (f58.mono fB))⟩
end DAYS
