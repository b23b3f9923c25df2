/-! THOUGHTS: odds, what divides all, halving, as numbers -/
abbrev WM : Nat := 100000000000
def odB (σ : StT) (h : Int) (i ask : Nat) : Nat := if -(sMo σ : Int) < h then buyAt σ i ask else 0
def odS (σ : StT) (h : Int) (i bid : Nat) : Nat := if h < (sMo σ : Int) then selAt σ i bid else 0
def odds (σ : StT) (h : Int) (ev i bid ask : Nat) : Nat := if ev = 1 then odB σ h i ask else if ev = 2 then odS σ h i bid else 100 - odB σ h i ask - odS σ h i bid
def hA (ev : Nat) (h : Int) : Int := if ev = 1 then h - 1 else if ev = 2 then h + 1 else h
theorem sum_bit2 {f g : Nat → Prop} [DecidablePred f] [DecidablePred g] {w : Nat → Nat} : ∀ n, (∀ j, j < n → ¬ (f j ∧ g j)) → sumN (fun j => bit (f j) (w j)) n + sumN (fun j => bit (g j) (w j)) n ≤ sumN w n
  | 0, _ => Nat.le_refl _
  | n + 1, h => by
    have h1 := sum_bit2 (f := f) (g := g) (w := w) n (fun j hj => h j (by omega))
    have h2 := h n (by omega)
    simp only [sumN]
    by_cases hf : f n
    · rw [bit_t hf, bit_f (fun q => h2 ⟨hf, q⟩)]; omega
    · rw [bit_f hf]
      have := bit_le (p := g n) (x := w n)
      omega
theorem no_both {kd li va bid ask : Nat} (h : bid < ask) : ¬ (wbuy kd li va ask ∧ wsel kd li va bid) := by
  unfold wbuy wsel
  omega
theorem bs_le {σ : StT} (hw : sWF σ) {i bid ask : Nat} (h : bid < ask) : buyAt σ i ask + selAt σ i bid ≤ 100 :=
  Nat.le_trans (sum_bit2 (sS σ) (fun j _ => no_both h)) hw.2.2.2.2.2.1
theorem od_le {σ : StT} (hw : sWF σ) {h : Int} {i bid ask : Nat} (hb : bid < ask) : odB σ h i ask + odS σ h i bid ≤ 100 := by
  have := bs_le hw (i := i) hb
  unfold odB odS
  split <;> split <;> omega
theorem odB_le {σ : StT} (hw : sWF σ) {h : Int} {i ask : Nat} : odB σ h i ask ≤ 100 := by
  unfold odB
  split
  · exact buyAt_le hw _ _
  · omega
theorem odS_le {σ : StT} (hw : sWF σ) {h : Int} {i bid : Nat} : odS σ h i bid ≤ 100 := by
  unfold odS
  split
  · exact selAt_le hw _ _
  · omega
theorem odds_le {σ : StT} (hw : sWF σ) {h : Int} {ev i bid ask : Nat} : odds σ h ev i bid ask ≤ 100 := by
  unfold odds
  split
  · exact odB_le hw
  · split
    · exact odS_le hw
    · omega
def gcdN (f : Nat → Nat) : Nat → Nat
  | 0 => 0
  | n + 1 => Nat.gcd (gcdN f n) (f n)
theorem gcdN_dvd {f : Nat → Nat} : ∀ n i, i < n → gcdN f n ∣ f i
  | 0, i, h => absurd h (by omega)
  | n + 1, i, h => by
    by_cases e : i = n
    · rw [e]; exact Nat.gcd_dvd_right _ _
    · exact Nat.dvd_trans (Nat.gcd_dvd_left _ _) (gcdN_dvd n i (by omega))
theorem gcdN_0 {f : Nat → Nat} : ∀ n, gcdN f n = 0 ↔ sumN f n = 0
  | 0 => by simp [gcdN, sumN]
  | n + 1 => by
    simp only [gcdN, sumN, Nat.gcd_eq_zero_iff, gcdN_0 n]
    omega
theorem gcdN_congr {f g : Nat → Nat} : ∀ n, (∀ i, i < n → f i = g i) → gcdN f n = gcdN g n
  | 0, _ => rfl
  | n + 1, h => by
    simp only [gcdN]
    rw [gcdN_congr n (fun i hi => h i (by omega)), h n (by omega)]
theorem gcdN_le {f : Nat → Nat} {c : Nat} : ∀ n, (∀ i, i < n → f i ≤ c) → gcdN f n ≤ c
  | 0, _ => Nat.zero_le _
  | n + 1, h => by
    have h1 := gcdN_le n (fun i hi => h i (by omega))
    have h2 := h n (by omega)
    simp only [gcdN]
    by_cases e : f n = 0
    · rw [e, Nat.gcd_zero_right]; exact h1
    · exact Nat.le_trans (Nat.gcd_le_right _ (by omega)) h2
def maxN (f : Nat → Nat) : Nat → Nat
  | 0 => 0
  | n + 1 => max (maxN f n) (f n)
theorem maxN_le {f : Nat → Nat} {c : Nat} : ∀ n, maxN f n ≤ c ↔ ∀ i, i < n → f i ≤ c
  | 0 => by simp [maxN]
  | n + 1 => by
    simp only [maxN, Nat.max_le, maxN_le n]
    constructor
    · intro h i hi
      by_cases e : i = n
      · rw [e]; exact h.2
      · exact h.1 i (by omega)
    · intro h
      exact ⟨fun i hi => h i (by omega), h n (by omega)⟩
theorem maxN_congr {f g : Nat → Nat} : ∀ n, (∀ i, i < n → f i = g i) → maxN f n = maxN g n
  | 0, _ => rfl
  | n + 1, h => by
    simp only [maxN]
    rw [maxN_congr n (fun i hi => h i (by omega)), h n (by omega)]
def hv (x : Nat) : Nat := if x = 1 then 1 else x / 2
theorem hv_le (x : Nat) : hv x ≤ x := by
  unfold hv; split <;> omega
theorem hv_pos {x : Nat} (h : 0 < x) : 0 < hv x := by
  unfold hv; split <;> omega
def hlv (n : Nat) : Nat → (Nat → Nat) → (Nat → Nat)
  | 0, f => f
  | k + 1, f => if maxN f n ≤ WM then f else hlv n k (fun i => hv (f i))
theorem hlv_pos {n : Nat} : ∀ k (f : Nat → Nat) i, 0 < f i → 0 < hlv n k f i
  | 0, _, _, h => h
  | k + 1, f, i, h => by
    unfold hlv
    split
    · exact h
    · exact hlv_pos k _ i (hv_pos h)
theorem hlv_ok {n : Nat} : ∀ k (f : Nat → Nat), (∀ i, i < n → f i ≤ WM * 2 ^ k) → ∀ i, i < n → hlv n k f i ≤ WM
  | 0, f, h, i, hi => by have := h i hi; simpa [hlv] using this
  | k + 1, f, h, i, hi => by
    unfold hlv
    split
    · rename_i q; exact (maxN_le n).mp q i hi
    · refine hlv_ok k _ (fun j hj => ?_) i hi
      have h1 := h j hj
      rw [Nat.pow_succ, ← Nat.mul_assoc] at h1
      show hv (f j) ≤ _
      unfold hv
      split
      · exact Nat.le_trans (by decide) (Nat.le_mul_of_pos_right WM (Nat.two_pow_pos k))
      · omega
theorem hlv_congr {n : Nat} : ∀ k (f g : Nat → Nat), (∀ i, i < n → f i = g i) → ∀ i, i < n → hlv n k f i = hlv n k g i
  | 0, f, g, h, i, hi => h i hi
  | k + 1, f, g, h, i, hi => by
    unfold hlv
    rw [maxN_congr n h]
    split
    · exact h i hi
    · exact hlv_congr k _ _ (fun j hj => by show hv (f j) = hv (g j); rw [h j hj]) i hi
/-- more turns than are wanted change nothing -/
theorem hlv_more {n : Nat} : ∀ k m (f : Nat → Nat), (∀ i, i < n → f i ≤ WM * 2 ^ k) → hlv n (k + m) f = hlv n k f
  | 0, 0, f, _ => rfl
  | 0, m + 1, f, h => by
    rw [Nat.zero_add]
    show (if maxN f n ≤ WM then f else hlv n m (fun i => hv (f i))) = f
    rw [if_pos ((maxN_le n).mpr (fun i hi => by have := h i hi; simpa using this))]
  | k + 1, m, f, h => by
    rw [show k + 1 + m = (k + m) + 1 by omega]
    show (if maxN f n ≤ WM then f else hlv n (k + m) (fun i => hv (f i))) = if maxN f n ≤ WM then f else hlv n k (fun i => hv (f i))
    split
    · rfl
    · refine hlv_more k m _ (fun j hj => ?_)
      have h1 := h j hj
      rw [Nat.pow_succ, ← Nat.mul_assoc] at h1
      show hv (f j) ≤ _
      unfold hv
      split
      · exact Nat.le_trans (by decide) (Nat.le_mul_of_pos_right WM (Nat.two_pow_pos k))
      · omega
def stl (n : Nat) (f : Nat → Nat) : Nat → Nat := hlv n 64 (fun i => f i / gcdN f n)
theorem div_gcd_le {f : Nat → Nat} {n i : Nat} : f i / gcdN f n ≤ f i := Nat.div_le_self _ _
theorem stl_le {n : Nat} {f : Nat → Nat} (h : ∀ i, i < n → f i ≤ 10000000000000) : ∀ i, i < n → stl n f i ≤ WM := by
  refine hlv_ok 64 _ (fun i hi => ?_)
  have := h i hi
  have := div_gcd_le (f := f) (n := n) (i := i)
  show _ ≤ 100000000000 * 2 ^ 64
  omega
theorem stl_pos {n : Nat} {f : Nat → Nat} {i : Nat} (hi : i < n) (h : 0 < f i) : 0 < stl n f i := by
  refine hlv_pos 64 _ i ?_
  have h1 := gcdN_dvd (f := f) n i hi
  exact Nat.div_pos (Nat.le_of_dvd h h1) (Nat.pos_of_ne_zero fun e => by rw [e] at h1; have := Nat.eq_zero_of_zero_dvd h1; omega)
theorem sumN_pos {f : Nat → Nat} : ∀ n, 0 < sumN f n ↔ ∃ i, i < n ∧ 0 < f i
  | 0 => by simp [sumN]
  | n + 1 => by
    simp only [sumN]
    constructor
    · intro h
      by_cases e : 0 < f n
      · exact ⟨n, by omega, e⟩
      · obtain ⟨i, h1, h2⟩ := (sumN_pos (f := f) n).mp (by omega)
        exact ⟨i, by omega, h2⟩
    · rintro ⟨i, h1, h2⟩
      by_cases e : i = n
      · rw [e] at h2; omega
      · have := (sumN_pos (f := f) n).mpr ⟨i, by omega, h2⟩
        omega
/-- Euclid: b below 2 to the k takes at most twice k turns -/
theorem mod_half {a b : Nat} (h : b ≤ a) (hb : 0 < b) : a % b < a - a / 2 := by
  have h1 := Nat.mod_lt a hb
  have h2 := Nat.div_add_mod a b
  have h3 : 1 ≤ a / b := Nat.div_pos h hb
  have h4 : b * 1 ≤ b * (a / b) := Nat.mul_le_mul_left b h3
  omega
def findU (p : Nat → Prop) [DecidablePred p] : Nat → Nat → Int
  | 0, _ => -4
  | f + 1, a => if p a then (a : Int) else findU p f (a + 1)
def findD (p : Nat → Prop) [DecidablePred p] : Nat → Int
  | 0 => -4
  | b + 1 => if p (b + 1) then ((b + 1 : Nat) : Int) else findD p b
theorem findU_rng {p : Nat → Prop} [DecidablePred p] : ∀ f a, findU p f a = -4 ∨ (0 ≤ findU p f a ∧ findU p f a < f + a)
  | 0, a => Or.inl rfl
  | f + 1, a => by
    unfold findU
    split
    · right; omega
    · rcases findU_rng (p := p) f (a + 1) with h | h
      · exact Or.inl h
      · right; omega
theorem findD_rng {p : Nat → Prop} [DecidablePred p] : ∀ b, findD p b = -4 ∨ (0 ≤ findD p b ∧ findD p b ≤ b)
  | 0 => Or.inl rfl
  | b + 1 => by
    unfold findD
    split
    · right; omega
    · rcases findD_rng (p := p) b with h | h
      · exact Or.inl h
      · right; omega
