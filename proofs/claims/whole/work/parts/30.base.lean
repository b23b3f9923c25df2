/-! MEMORY, NUMBERS: what is used everywhere -/
theorem mK_uI {M : Mem} {a k : Nat} {v : Int32} : mK (uI M a k v) = mK M := rfl
theorem mN_uI {M : Mem} {a k : Nat} {v : Int32} : mN (uI M a k v) = mN M := rfl
theorem mR_uI {M : Mem} {a k : Nat} {v : Int32} : mR (uI M a k v) = mR M := rfl
theorem mJ_uI {M : Mem} {a k : Nat} {v : Int32} : mJ (uI M a k v) = mJ M := rfl
theorem mT_uI {M : Mem} {a k : Nat} {v : Int32} : mT (uI M a k v) = mT M := rfl
theorem mI_uI {M : Mem} {a k : Nat} {v : Int32} {b j : Nat} : mI (uI M a k v) b j = if b = a then if j = k then v else mI M b j else mI M b j := rfl
theorem mK_uJ {M : Mem} {a k : Nat} {v : Int64} : mK (uJ M a k v) = mK M := rfl
theorem mN_uJ {M : Mem} {a k : Nat} {v : Int64} : mN (uJ M a k v) = mN M := rfl
theorem mR_uJ {M : Mem} {a k : Nat} {v : Int64} : mR (uJ M a k v) = mR M := rfl
theorem mI_uJ {M : Mem} {a k : Nat} {v : Int64} : mI (uJ M a k v) = mI M := rfl
theorem mT_uJ {M : Mem} {a k : Nat} {v : Int64} : mT (uJ M a k v) = mT M := rfl
theorem mJ_uJ {M : Mem} {a k : Nat} {v : Int64} {b j : Nat} : mJ (uJ M a k v) b j = if b = a then if j = k then v else mJ M b j else mJ M b j := rfl
theorem mK_uR {M : Mem} {a k v : Nat} : mK (uR M a k v) = mK M := rfl
theorem mN_uR {M : Mem} {a k v : Nat} : mN (uR M a k v) = mN M := rfl
theorem mI_uR {M : Mem} {a k v : Nat} : mI (uR M a k v) = mI M := rfl
theorem mJ_uR {M : Mem} {a k v : Nat} : mJ (uR M a k v) = mJ M := rfl
theorem mT_uR {M : Mem} {a k v : Nat} : mT (uR M a k v) = mT M := rfl
theorem mR_uR {M : Mem} {a k v : Nat} {b j : Nat} : mR (uR M a k v) b j = if b = a then if j = k then v else mR M b j else mR M b j := rfl
theorem mK_wI {M : Mem} {a : Nat} {f : Nat → Int32} : mK (wI M a f) = mK M := rfl
theorem mN_wI {M : Mem} {a : Nat} {f : Nat → Int32} : mN (wI M a f) = mN M := rfl
theorem mR_wI {M : Mem} {a : Nat} {f : Nat → Int32} : mR (wI M a f) = mR M := rfl
theorem mJ_wI {M : Mem} {a : Nat} {f : Nat → Int32} : mJ (wI M a f) = mJ M := rfl
theorem mT_wI {M : Mem} {a : Nat} {f : Nat → Int32} : mT (wI M a f) = mT M := rfl
theorem mI_wI {M : Mem} {a : Nat} {f : Nat → Int32} {b : Nat} : mI (wI M a f) b = if b = a then f else mI M b := rfl
theorem mK_wJ {M : Mem} {a : Nat} {f : Nat → Int64} : mK (wJ M a f) = mK M := rfl
theorem mN_wJ {M : Mem} {a : Nat} {f : Nat → Int64} : mN (wJ M a f) = mN M := rfl
theorem mR_wJ {M : Mem} {a : Nat} {f : Nat → Int64} : mR (wJ M a f) = mR M := rfl
theorem mI_wJ {M : Mem} {a : Nat} {f : Nat → Int64} : mI (wJ M a f) = mI M := rfl
theorem mT_wJ {M : Mem} {a : Nat} {f : Nat → Int64} : mT (wJ M a f) = mT M := rfl
theorem mJ_wJ {M : Mem} {a : Nat} {f : Nat → Int64} {b : Nat} : mJ (wJ M a f) b = if b = a then f else mJ M b := rfl
/-- whole numbers as ints and longs -/
def iI (x : Int) : Int32 := Int32.ofInt x
def jI (x : Int) : Int64 := Int64.ofInt x
theorem iI_toInt {x : Int} (h1 : -2147483648 ≤ x) (h2 : x < 2147483648) : (iI x).toInt = x := by
  unfold iI
  rw [Int32.toInt_ofInt]
  have e : Int32.size = 4294967296 := rfl
  simp only [Int.bmod_def, e]
  omega
theorem jI_toInt {x : Int} (h1 : -9223372036854775808 ≤ x) (h2 : x < 9223372036854775808) : (jI x).toInt = x := by
  unfold jI
  rw [Int64.toInt_ofInt]
  have e : Int64.size = 18446744073709551616 := rfl
  simp only [Int.bmod_def, e]
  omega
theorem nI_iI (n : Nat) : nI n = iI n := by
  unfold nI iI Int32.ofNat Int32.ofInt
  rw [BitVec.ofInt_natCast]
theorem lN_jI (n : Nat) : lN n = jI n := by
  unfold lN jI Int64.ofNat Int64.ofInt
  rw [BitVec.ofInt_natCast]
theorem iI_add (a b : Int) : iI a + iI b = iI (a + b) := by simp [iI]
theorem iI_sub (a b : Int) : iI a - iI b = iI (a - b) := by simp [iI]
theorem iI_mul (a b : Int) : iI a * iI b = iI (a * b) := by simp [iI]
theorem iI_neg (a : Int) : -iI a = iI (-a) := by simp [iI]
theorem jI_add (a b : Int) : jI a + jI b = jI (a + b) := by simp [jI]
theorem jI_sub (a b : Int) : jI a - jI b = jI (a - b) := by simp [jI]
theorem jI_mul (a b : Int) : jI a * jI b = jI (a * b) := by simp [jI]
theorem iI_le {a b : Int} (h1 : -2147483648 ≤ a ∧ a < 2147483648) (h2 : -2147483648 ≤ b ∧ b < 2147483648) : iI a ≤ iI b ↔ a ≤ b := by
  rw [Int32.le_iff_toInt_le, iI_toInt h1.1 h1.2, iI_toInt h2.1 h2.2]
theorem iI_lt {a b : Int} (h1 : -2147483648 ≤ a ∧ a < 2147483648) (h2 : -2147483648 ≤ b ∧ b < 2147483648) : iI a < iI b ↔ a < b := by
  rw [Int32.lt_iff_toInt_lt, iI_toInt h1.1 h1.2, iI_toInt h2.1 h2.2]
theorem iI_eq {a b : Int} (h1 : -2147483648 ≤ a ∧ a < 2147483648) (h2 : -2147483648 ≤ b ∧ b < 2147483648) : iI a = iI b ↔ a = b := by
  rw [← Int32.toInt_inj, iI_toInt h1.1 h1.2, iI_toInt h2.1 h2.2]
theorem iI_jI {a : Int} (h1 : -2147483648 ≤ a) (h2 : a < 2147483648) : (iI a).toInt64 = jI a := by
  apply Int64.toInt_inj.mp
  rw [Int32.toInt_toInt64, iI_toInt h1 h2, jI_toInt (by omega) (by omega)]
theorem jI_iI (a : Int) : (jI a).toInt32 = iI a := by
  unfold jI iI
  simp
def sumN (f : Nat → Nat) : Nat → Nat
  | 0 => 0
  | n + 1 => sumN f n + f n
theorem sumN_le {f : Nat → Nat} {c : Nat} : ∀ n, (∀ i, i < n → f i ≤ c) → sumN f n ≤ n * c
  | 0, _ => by simp [sumN]
  | n + 1, h => by
    have := sumN_le n (fun i hi => h i (by omega))
    have := h n (by omega)
    simp only [sumN, Nat.succ_mul]
    omega
theorem sumN_mono {f : Nat → Nat} {i n : Nat} (h : i ≤ n) : sumN f i ≤ sumN f n := by
  induction n with
  | zero => rw [Nat.le_zero.mp h]; exact Nat.le_refl _
  | succ n ih =>
    by_cases e : i = n + 1
    · rw [e]; exact Nat.le_refl _
    · have := ih (by omega)
      simp only [sumN]
      omega
theorem sumN_congr {f g : Nat → Nat} : ∀ n, (∀ i, i < n → f i = g i) → sumN f n = sumN g n
  | 0, _ => rfl
  | n + 1, h => by
    simp only [sumN]
    rw [sumN_congr n (fun i hi => h i (by omega)), h n (by omega)]
