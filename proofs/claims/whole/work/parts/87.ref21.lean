/-! THE REFERENCE: reading a statement -/
abbrev smC (i a k : Nat) : Prop := (a = 87 ∧ (k = 15 ∨ k = 16 ∨ k = 17)) ∨ (94 ≤ a ∧ a ≤ 98 ∧ k = i)
theorem sm_rd {i a k : Nat} (q : rdC a k) : smC i a k := by simp only [rdC] at q; simp only [smC]; omega
theorem Tx.sm {M M' : Mem} {dd len i : Nat} {b : Nat → Nat} (h : Tx M dd len b) (f : Fg (smC i) M M') : Tx M' dd len b := h.fg f (by simp only [smC]; omega) (by simp only [smC]; omega) (fun k => by simp only [smC]; omega)
/-- what lies recorded of a statement: place, letter, so many numbers -/
def Rc (M : Mem) (i t0 u : Nat) (n : Nat → Nat) (m : Nat) : Prop := mI M 94 i = nI t0 ∧ mI M 95 i = nI u ∧ mI M 96 i = nI (n 0) ∧ (1 ≤ m → mI M 97 i = nI (n 1)) ∧ (2 ≤ m → mI M 98 i = nI (n 2))
theorem Rc.fg {P : Nat → Nat → Prop} {M M' : Mem} {i t0 u m : Nat} {n : Nat → Nat} (h : Rc M i t0 u n m) (f : Fg P M M') (hP : ∀ a, 94 ≤ a → a ≤ 98 → ¬ P a i) : Rc M' i t0 u n m := by
  obtain ⟨h1, h2, h3, h4, h5⟩ := h
  exact ⟨by rw [f.I (hP 94 (by omega) (by omega))]; exact h1, by rw [f.I (hP 95 (by omega) (by omega))]; exact h2, by rw [f.I (hP 96 (by omega) (by omega))]; exact h3, fun q => by rw [f.I (hP 97 (by omega) (by omega))]; exact h4 q, fun q => by rw [f.I (hP 98 (by omega) (by omega))]; exact h5 q⟩
/-- a number has been read, and can't go on -/
def Gd (b : Nat → Nat) (len st : Nat) (p0 : PsT) (t l f k : Nat) (n : Nat → Nat) : Prop := Sg b len st p0 t (l, f, k, n) ∧ l ≠ 0 ∧ 1 ≤ k ∧ (∀ j, j ≤ f → n j < 1000) ∧ (t < len → isD (b t) → k ≥ roomN l f ∨ n f = 0)
theorem Gd.bad {b : Nat → Nat} {len st t l f k : Nat} {p0 : PsT} {n : Nat → Nat} (g : Gd b len st p0 t l f k n) (h32 : t < len → b t = 32 → ¬ f < lastN l) (h59 : t < len → b t = 59 → f ≠ lastN l) : fmV b len = -1000 - (t : Int) := by
  obtain ⟨s, hl, hk, -, hc⟩ := g
  by_cases c : t < len
  · exact s.1.bad c (gw_no hl (by omega) (h32 c) (h59 c) (hc c))
  · have e : t = len := by have := s.2.2.1; omega
    have r := s.1
    rw [e] at r
    rw [r.fin, if_neg (fun q => hl q.2), e]
section REF
variable {M M0 : Mem} {dd len t : Nat} {b : Nat → Nat} {f : Bool} {Q : Int32 → Mem → Prop} {QJ0 : Int64 → Mem → Prop} {QV0 : Mem → Prop}
theorem dg_num {st l fi k : Nat} {p0 : PsT} {n : Nat → Nat} (hl : l ≠ 0) (h : Sg b len st p0 t (l, fi, 0, n)) (n0 : n fi = 0) (hb : ∀ j, j < fi → n j < 1000) (hk1 : 1 ≤ k) (hk : k ≤ roomN l fi) (hk3 : k ≤ 3) (ok : dgOK b len t k) (hc : k = roomN l fi ∨ dgV b t k = 0 ∨ ¬ (t + k < len ∧ isD (b (t + k)))) : ∃ n', Gd b len st p0 (t + k) l fi k n' ∧ n' fi = dgV b t k ∧ ∀ j, j ≠ fi → n' j = n j := by
  obtain ⟨n', s', e', o'⟩ := dg_go hl h n0 k hk ok
  have lt := dgV_lt k ok.2.1
  have hp : 10 ^ k ≤ 10 ^ 3 := Nat.pow_le_pow_right (by omega) hk3
  refine ⟨n', ⟨s', hl, hk1, fun j hj => ?_, fun q1 q2 => ?_⟩, e', o'⟩
  · by_cases c : j = fi
    · rw [c, e']; omega
    · rw [o' j c]; exact hb j (by omega)
  · rcases hc with c | c | c
    · exact Or.inl (by omega)
    · exact Or.inr (by rw [e']; exact c)
    · exact absurd ⟨q1, q2⟩ c
/-- what follows a sign between numbers: the next number -/
theorem S_sep {st l fi k : Nat} {p0 : PsT} {n : Nat → Nat} {R : Mem → Int32 → Mem → Prop} (h : Tx M dd len b) (ha : At M t false) (g : Gd b len st p0 t l fi k n) (hf : fi < lastN l)
    (hG : ∀ M1 M2 t2 k2 n2, Fg rdC M M1 → Fg rdC M M2 → At M2 t2 false → Gd b len st p0 t2 l (fi + 1) k2 n2 → (∀ j, j ≤ fi → n2 j = n j) → t + 2 ≤ t2 → R M1 (nI (n2 (fi + 1))) M2)
    (hB : ∀ M1 M2 t2, Fg rdC M M1 → Fg rdC M M2 → At M2 t2 true → t2 ≤ len → fmV b len = -1000 - (t2 : Int) → R M1 0 M2) : wp_X13_take 87 32 M (fun M59 => mK M59 87 = 14 ∧ wp_X13_readNumber 87 M59 (R M59)) := by
  obtain ⟨s, hl, hk, hn, hc⟩ := id g
  have ht := s.2.2.1
  refine S_R_take (x := 32) (by omega) h ht ha (fun _ hlt hu M1 f1 t1 => ⟨(h.rd f1).1.1, ?_⟩) (fun o M1 f1 t1 => ⟨(h.rd f1).1.1, ?_⟩)
  · have gg : gw (l, fi, k, n) (b t) = some (l, fi + 1, 0, put1 n (fi + 1) 0) := by rw [hu, gw_sep hl (by omega), if_pos hf]
    have s1 := s.step hlt gg hl
    have rm : roomN l (fi + 1) = 3 := by unfold roomN; rw [if_neg (fun q => by have := q.2; omega)]
    refine S_R_readNumber (h.rd f1) (by omega) t1 (fun k2 _ hk1 hk3 ok cl M2 f2 t2 => ?_) (fun o M2 f2 t2 => ?_)
    · obtain ⟨n', g', e', o'⟩ := dg_num hl s1 (show put1 n (fi + 1) 0 (fi + 1) = 0 from if_pos rfl) (fun j hj => by
        show (if j = fi + 1 then 0 else n j) < 1000
        rw [if_neg (by omega)]; exact hn j (by omega)) hk1 (by rw [rm]; exact hk3) hk3 ok (by rw [rm]; exact cl)
      rw [← e']
      refine hG M1 M2 _ k2 n' f1 (f1.t2 f2) t2 g' (fun j hj => ?_) (by omega)
      rw [o' j (by omega)]
      show (if j = fi + 1 then 0 else n j) = n j
      rw [if_neg (by omega)]
    · refine hB M1 M2 (t + 1) f1 (f1.t2 f2) t2 (by omega) ?_
      have o : ¬ (t + 1 < len ∧ isD (b (t + 1))) := by
        rcases o with o | o
        · exact absurd o (by decide)
        · exact o
      by_cases c : t + 1 < len
      · exact s1.1.bad c (gw_no0 hl (fun q => o ⟨c, q⟩))
      · have e : t + 1 = len := by omega
        have r := s1.1
        rw [e] at r
        rw [r.fin, if_neg (fun q => hl q.2), e]
  · refine S_R_readNumber (h.rd f1) ht t1 (fun k2 fz => absurd fz (by decide)) (fun _ M2 f2 t2 => hB M1 M2 t f1 (f1.t2 f2) t2 ht (g.bad (fun hlt hu => ?_) (fun hlt hu => by omega)))
    rcases o with o | o
    · exact absurd o (by decide)
    · exact absurd ⟨hlt, hu⟩ o
/-- what a statement comes to -/
def StQ (QV0 : Mem → Prop) (M0 : Mem) (b : Nat → Nat) (len i t0 : Nat) (p0 : PsT) : Prop := (∀ M' t1 k n, Fg (smC i) M0 M' → At M' t1 false → mI M' 87 17 = nI (i + 1) → t0 + 3 ≤ t1 → t1 ≤ len → isL (b t0) → (∀ j, j ≤ lastN (b t0) → n j < 1000) → Rn b t1 (0, lastN (b t0), k, n) → (∀ cnt σ, tl b (len - t0) t0 t0 cnt p0 σ = (match cmd σ (b t0) n with
    | none => (-2000 - (t0 : Int), σ)
    | some σ' => tl b (len - t1) t1 t1 (cnt + 1) (0, lastN (b t0), k, n) σ')) → Rc M' i t0 (b t0) n (lastN (b t0)) → QV0 M') ∧ ∀ M' t', Fg (smC i) M0 M' → At M' t' true → mI M' 87 17 = nI (i + 1) → t' ≤ len → fmV b len = -1000 - (t' : Int) → QV0 M'
theorem e185_bad {i t0 t' : Nat} {p0 : PsT} (hq : StQ QV0 M0 b len i t0 p0) (h : Tx M dd len b) (f0 : Fg (smC i) M0 M) (ha : At M t' true) (h17 : mI M 87 17 = nI i) (ht : t' ≤ len) (hf : fmV b len = -1000 - (t' : Int)) : jn_X13_readStatement_185 QV0 87 M := by
  refine ⟨h.1.1, S_R_take (x := 59) (by omega) h ht ha (fun z => absurd z (by decide)) (fun _ M1 f1 t1 => ⟨(h.rd f1).1.1, fun M2 e2 => ?_⟩)⟩
  have v17 : mI M1 87 17 = nI i := by rw [f1.I (by decide)]; exact h17
  refine hq.2 M2 t' (by rw [e2]; exact (f0.t2 (f1.mono (fun a k q => sm_rd q))).sI (Or.inl ⟨rfl, by omega⟩)) ⟨?_, ?_⟩ ?_ ht hf
  · rw [e2, mI_uI, if_pos rfl, if_neg (by decide)]; exact t1.1
  · rw [e2, mI_uI, if_pos rfl, if_neg (by decide)]; exact t1.2
  · rw [e2, mI_uI, if_pos rfl, if_pos rfl, v17, nI_1]
theorem e156_bad {i t0 t' : Nat} {p0 : PsT} {c : Int32} (hq : StQ QV0 M0 b len i t0 p0) (h : Tx M dd len b) (f0 : Fg (smC i) M0 M) (ha : At M t' true) (h17 : mI M 87 17 = nI i) (ht : t' ≤ len) (hf : fmV b len = -1000 - (t' : Int)) : jn_X13_readStatement_156 QV0 87 c (nI i) M := by
  refine ⟨h.1.1, ?_⟩
  rw [ha.2]
  exact ⟨fun _ => e185_bad hq h f0 ha h17 ht hf, fun z => absurd z (by decide)⟩
theorem e185_ok {i t0 k : Nat} {p0 : PsT} {n : Nat → Nat} (hq : StQ QV0 M0 b len i t0 p0) (h : Tx M dd len b) (f0 : Fg (smC i) M0 M) (ha : At M t false) (h17 : mI M 87 17 = nI i) (hL : isL (b t0)) (h3 : t0 + 2 ≤ t) (g : Gd b len t0 p0 t (b t0) (lastN (b t0)) k n) (hr : Rc M i t0 (b t0) n (lastN (b t0))) : jn_X13_readStatement_185 QV0 87 M := by
  obtain ⟨s, hl, hk, hn, hc⟩ := id g
  refine ⟨h.1.1, S_R_take (x := 59) (by omega) h s.2.2.1 ha (fun _ hlt hu M1 f1 t1 => ⟨(h.rd f1).1.1, fun M2 e2 => ?_⟩) (fun o M1 f1 t1 => ⟨(h.rd f1).1.1, fun M2 e2 => ?_⟩)⟩
  · have gg : gw (b t0, lastN (b t0), k, n) (b t) = some (0, lastN (b t0), k, n) := by rw [hu, gw_end hl (by omega), if_pos rfl]
    obtain ⟨r1, tl1⟩ := s.stop hlt gg rfl
    have v17 : mI M1 87 17 = nI i := by rw [f1.I (by decide)]; exact h17
    have f2 : Fg (fun a k => a = 87 ∧ (k = 15 ∨ k = 16 ∨ k = 17)) M M2 := by rw [e2]; exact (f1.mono (fun a k q => by simp only [rdC] at q; omega)).sI ⟨rfl, by omega⟩
    refine hq.1 M2 (t + 1) k n (f0.t2 (f2.mono (fun a k q => Or.inl q))) ⟨?_, ?_⟩ ?_ (by omega) hlt hL hn r1 tl1 (hr.fg f2 (fun a _ _ => by omega))
    · rw [e2, mI_uI, if_pos rfl, if_neg (by decide)]; exact t1.1
    · rw [e2, mI_uI, if_pos rfl, if_neg (by decide)]; exact t1.2
    · rw [e2, mI_uI, if_pos rfl, if_pos rfl, v17, nI_1]
  · have v17 : mI M1 87 17 = nI i := by rw [f1.I (by decide)]; exact h17
    refine hq.2 M2 t (by rw [e2]; exact (f0.t2 (f1.mono (fun a k q => sm_rd q))).sI (Or.inl ⟨rfl, by omega⟩)) ⟨?_, ?_⟩ ?_ s.2.2.1 (g.bad (fun _ _ => by omega) (fun hlt hu => ?_))
    · rw [e2, mI_uI, if_pos rfl, if_neg (by decide)]; exact t1.1
    · rw [e2, mI_uI, if_pos rfl, if_neg (by decide)]; exact t1.2
    · rw [e2, mI_uI, if_pos rfl, if_pos rfl, v17, nI_1]
    · rcases o with o | o
      · exact absurd o (by decide)
      · exact absurd ⟨hlt, hu⟩ o
/-- behind the second number, or behind the first one of a letter that has one -/
theorem e156_ok {i t0 k fi : Nat} {p0 : PsT} {n : Nat → Nat} (hi : i < 50) (hq : StQ QV0 M0 b len i t0 p0) (h : Tx M dd len b) (f0 : Fg (smC i) M0 M) (ha : At M t false) (h17 : mI M 87 17 = nI i) (hL : isL (b t0)) (h3 : t0 + 2 ≤ t) (hfi : fi = (if b t0 = 119 ∨ b t0 = 99 then 1 else 0)) (g : Gd b len t0 p0 t (b t0) fi k n) (hr : Rc M i t0 (b t0) n fi) : jn_X13_readStatement_156 QV0 87 (nI (b t0)) (nI i) M := by
  have b128 : b t0 < 128 := by unfold isL at hL; omega
  have c99 : nI (b t0) = (99 : Int32) ↔ b t0 = 99 := nI_eq (b := 99) (by omega) (by omega)
  refine ⟨h.1.1, ?_⟩
  rw [ha.2]
  refine ⟨fun z => absurd rfl z, fun _ => ⟨fun z => ?_, fun z => ?_⟩⟩
  · have z := mt c99.mpr z
    have eN : lastN (b t0) = fi := by
      unfold lastN
      rw [if_neg z, hfi]
      by_cases c : b t0 = 119
      · rw [if_pos c, if_pos (Or.inl c)]
      · rw [if_neg c, if_neg (by omega)]
    exact e185_ok hq h f0 ha h17 hL h3 (by rw [eN]; exact g) (by rw [eN]; exact hr)
  · have z := c99.mp z
    have e1 : fi = 1 := by rw [hfi, if_pos (Or.inr z)]
    have eN : lastN (b t0) = 2 := by unfold lastN; rw [if_pos z]
    subst e1
    refine S_sep h ha g (by rw [eN]; omega) (fun M1 M2 t2 k2 n2 f1 f2 t2a g2 o2 h2 => ?_) (fun M1 M2 t2 f1 f2 t2a hle hfm => ?_)
    · have T1 := h.rd f1
      have T2 := h.rd f2
      rw [T1.1.r22, T2.1.n22, nI_clamp (by omega)]
      refine ⟨T2.1.k22, vp_in_nI hi (by omega), fun M3 e3 => ?_⟩
      have f3 : Fg (smC i) M M3 := by rw [e3]; exact (f2.mono (fun a k q => sm_rd q)).sI (Or.inr ⟨by omega, by omega, rfl⟩)
      have r2 := hr.fg f2 (fun a _ _ => by simp only [rdC]; omega)
      obtain ⟨q1, q2, q3, q4, q5⟩ := r2
      refine e185_ok (t := t2) (k := k2) (n := n2) hq (h.sm f3) (f0.t2 f3) ⟨?_, ?_⟩ ?_ hL (by omega) (by rw [eN]; exact g2) ⟨?_, ?_, ?_, fun _ => ?_, fun _ => ?_⟩
      · rw [e3, mI_uI, if_neg (by decide)]; exact t2a.1
      · rw [e3, mI_uI, if_neg (by decide)]; exact t2a.2
      · rw [e3, mI_uI, if_neg (by decide), f2.I (by decide)]; exact h17
      · rw [e3, mI_uI, if_neg (by decide)]; exact q1
      · rw [e3, mI_uI, if_neg (by decide)]; exact q2
      · rw [e3, mI_uI, if_neg (by decide), o2 0 (by omega)]; exact q3
      · rw [e3, mI_uI, if_neg (by decide), o2 1 (by omega)]; exact q4 (by omega)
      · rw [e3, mI_uI, if_pos rfl, if_pos rfl]
    · have T1 := h.rd f1
      have T2 := h.rd f2
      rw [T1.1.r22, T2.1.n22, nI_clamp (by omega)]
      refine ⟨T2.1.k22, vp_in_nI hi (by omega), fun M3 e3 => ?_⟩
      have f3 : Fg (smC i) M M3 := by rw [e3]; exact (f2.mono (fun a k q => sm_rd q)).sI (Or.inr ⟨by omega, by omega, rfl⟩)
      refine e185_bad hq (h.sm f3) (f0.t2 f3) ⟨?_, ?_⟩ ?_ hle hfm
      · rw [e3, mI_uI, if_neg (by decide)]; exact t2a.1
      · rw [e3, mI_uI, if_neg (by decide)]; exact t2a.2
      · rw [e3, mI_uI, if_neg (by decide), f2.I (by decide)]; exact h17
/-- behind the first number -/
theorem e120_ok {i t0 k : Nat} {p0 : PsT} {n : Nat → Nat} (hi : i < 50) (hq : StQ QV0 M0 b len i t0 p0) (h : Tx M dd len b) (f0 : Fg (smC i) M0 M) (ha : At M t false) (h17 : mI M 87 17 = nI i) (hL : isL (b t0)) (h3 : t0 + 2 ≤ t) (g : Gd b len t0 p0 t (b t0) 0 k n) (h94 : mI M 94 i = nI t0) (h95 : mI M 95 i = nI (b t0)) : jn_X13_readStatement_120 QV0 87 (nI (b t0)) (nI i) (nI (n 0)) (nI i) 96 M := by
  have b128 : b t0 < 128 := by unfold isL at hL; omega
  have c99 : nI (b t0) = (99 : Int32) ↔ b t0 = 99 := nI_eq (b := 99) (by omega) (by omega)
  have c119 : nI (b t0) = (119 : Int32) ↔ b t0 = 119 := nI_eq (b := 119) (by omega) (by omega)
  have T := h.1
  unfold jn_X13_readStatement_120
  rw [T.n20, nI_clamp (by omega)]
  refine ⟨T.k20, vp_in_nI hi (by omega), fun M1 e1 => ?_⟩
  have f1 : Fg (smC i) M M1 := by rw [e1]; exact Fg.pI (Or.inr ⟨by omega, by omega, rfl⟩)
  have h1 := h.sm f1
  have a1 : At M1 t false := ⟨by rw [e1, mI_uI, if_neg (by decide)]; exact ha.1, by rw [e1, mI_uI, if_neg (by decide)]; exact ha.2⟩
  have v17 : mI M1 87 17 = nI i := by rw [e1, mI_uI, if_neg (by decide)]; exact h17
  have v94 : mI M1 94 i = nI t0 := by rw [e1, mI_uI, if_neg (by decide)]; exact h94
  have v95 : mI M1 95 i = nI (b t0) := by rw [e1, mI_uI, if_neg (by decide)]; exact h95
  have v96 : mI M1 96 i = nI (n 0) := by rw [e1, mI_uI, if_pos rfl, if_pos rfl]
  have one : ¬ (b t0 = 119 ∨ b t0 = 99) → jn_X13_readStatement_156 QV0 87 (nI (b t0)) (nI i) M1 := fun o => e156_ok (fi := 0) (n := n) hi hq h1 (f0.t2 f1) a1 v17 hL h3 (by rw [if_neg o]) g ⟨v94, v95, v96, fun z => by omega, fun z => by omega⟩
  have two : (b t0 = 119 ∨ b t0 = 99) → jn_X13_readStatement_140 QV0 87 (nI (b t0)) (nI i) M1 := fun o => by
    have eN : 0 < lastN (b t0) := by
      unfold lastN
      by_cases c : b t0 = 99
      · rw [if_pos c]; omega
      · rw [if_neg c, if_pos (by omega)]; omega
    refine ⟨h1.1.1, S_sep h1 a1 g eN (fun M2 M3 t3 k3 n3 f2 f3 t3a g3 o3 h3b => ?_) (fun M2 M3 t3 f2 f3 t3a hle hfm => ?_)⟩
    · have T2 := h1.rd f2
      have T3 := h1.rd f3
      rw [T2.1.r21, T3.1.n21, nI_clamp (by omega)]
      refine ⟨T3.1.k21, vp_in_nI hi (by omega), fun M4 e4 => ?_⟩
      have f4 : Fg (smC i) M1 M4 := by rw [e4]; exact (f3.mono (fun a k q => sm_rd q)).sI (Or.inr ⟨by omega, by omega, rfl⟩)
      refine e156_ok (fi := 1) (n := n3) hi hq (h1.sm f4) ((f0.t2 f1).t2 f4) ⟨?_, ?_⟩ ?_ hL (by omega) (by rw [if_pos o]) g3 ⟨?_, ?_, ?_, fun _ => ?_, fun z => by omega⟩
      · rw [e4, mI_uI, if_neg (by decide)]; exact t3a.1
      · rw [e4, mI_uI, if_neg (by decide)]; exact t3a.2
      · rw [e4, mI_uI, if_neg (by decide), f3.I (by decide)]; exact v17
      · rw [e4, mI_uI, if_neg (by decide), f3.I (by simp only [rdC]; omega)]; exact v94
      · rw [e4, mI_uI, if_neg (by decide), f3.I (by simp only [rdC]; omega)]; exact v95
      · rw [e4, mI_uI, if_neg (by decide), f3.I (by simp only [rdC]; omega), o3 0 (by omega)]; exact v96
      · rw [e4, mI_uI, if_pos rfl, if_pos rfl]
    · have T2 := h1.rd f2
      have T3 := h1.rd f3
      rw [T2.1.r21, T3.1.n21, nI_clamp (by omega)]
      refine ⟨T3.1.k21, vp_in_nI hi (by omega), fun M4 e4 => ?_⟩
      have f4 : Fg (smC i) M1 M4 := by rw [e4]; exact (f3.mono (fun a k q => sm_rd q)).sI (Or.inr ⟨by omega, by omega, rfl⟩)
      refine e156_bad hq (h1.sm f4) ((f0.t2 f1).t2 f4) ⟨?_, ?_⟩ ?_ hle hfm
      · rw [e4, mI_uI, if_neg (by decide)]; exact t3a.1
      · rw [e4, mI_uI, if_neg (by decide)]; exact t3a.2
      · rw [e4, mI_uI, if_neg (by decide), f3.I (by decide)]; exact v17
  rw [a1.2]
  exact ⟨h1.1.1, fun z => absurd rfl z, fun _ => ⟨fun z => two (Or.inl (c119.mp z)), fun z => ⟨fun y => one (fun o => by have := mt c119.mpr z; have := mt c99.mpr y; omega), fun y => two (Or.inr (c99.mp y))⟩⟩⟩
theorem e120_bad {i t0 t' : Nat} {p0 : PsT} {c r : Int32} (hi : i < 50) (hq : StQ QV0 M0 b len i t0 p0) (h : Tx M dd len b) (f0 : Fg (smC i) M0 M) (ha : At M t' true) (h17 : mI M 87 17 = nI i) (ht : t' ≤ len) (hf : fmV b len = -1000 - (t' : Int)) : jn_X13_readStatement_120 QV0 87 c (nI i) r (nI i) 96 M := by
  have T := h.1
  unfold jn_X13_readStatement_120
  rw [T.n20, nI_clamp (by omega)]
  refine ⟨T.k20, vp_in_nI hi (by omega), fun M1 e1 => ?_⟩
  have f1 : Fg (smC i) M M1 := by rw [e1]; exact Fg.pI (Or.inr ⟨by omega, by omega, rfl⟩)
  have a1 : At M1 t' true := ⟨by rw [e1, mI_uI, if_neg (by decide)]; exact ha.1, by rw [e1, mI_uI, if_neg (by decide)]; exact ha.2⟩
  have v17 : mI M1 87 17 = nI i := by rw [e1, mI_uI, if_neg (by decide)]; exact h17
  rw [a1.2]
  exact ⟨(h.sm f1).1.1, fun _ => e156_bad hq (h.sm f1) (f0.t2 f1) a1 v17 ht hf, fun z => absurd z (by decide)⟩
theorem S_R_readStatement {i t0 : Nat} {p0 : PsT} (hi : i < 50) (hq : StQ QV0 M0 b len i t0 p0) (h : Tx M0 dd len b) (ha : At M0 t0 false) (h17 : mI M0 87 17 = nI i) (hR : Rn b t0 p0) (h0 : p0.1 = 0) (ht : t0 < len ∨ (t0 = 0 ∧ len = 0)) : wp_X13_readStatement 87 M0 QV0 := by
  have hle : t0 ≤ len := by omega
  have hin : vp_in (nI i) 50 := vp_in_nI hi (by omega)
  -- what lies there is written down
  have wr : ∀ (c : Int32) (f : Bool) (R : Mem → Prop), (∀ M1, Fg (smC i) M0 M1 → At M1 t0 f → mI M1 87 17 = nI i → mI M1 94 i = nI t0 → mI M1 95 i = c → R M1) → ∀ M11, M11 = uI M0 87 16 (bI f) → mK M11 87 = 14 ∧ mK M11 (mR M11 87 18) = 20 ∧ vp_in (nI i) (mN M11 (mR M11 87 18)) ∧ ∀ M14 : Mem, M14 = uI M11 (mR M11 87 18) (nI i).toNatClampNeg (mI M11 87 15) → mK M14 (mR M14 87 19) = 20 ∧ vp_in (nI i) (mN M14 (mR M14 87 19)) ∧ ∀ M17 : Mem, M17 = uI M14 (mR M14 87 19) (nI i).toNatClampNeg c → R M17 := by
    intro c f R hR M11 e11
    have m11 : MdOK M11 := by rw [e11]; exact h.1
    have v15 : mI M11 87 15 = nI t0 := by rw [e11, mI_uI, if_pos rfl, if_neg (by decide)]; exact ha.1
    rw [m11.r18, m11.n18, nI_clamp (by omega), v15]
    refine ⟨m11.1, m11.k18, hin, fun M14 e14 => ?_⟩
    have m14 : MdOK M14 := by rw [e14]; exact m11
    rw [m14.r19, m14.n19]
    refine ⟨m14.k19, hin, fun M17 e17 => hR M17 ?_ ⟨?_, ?_⟩ ?_ ?_ ?_⟩
    · rw [e17, e14, e11]; exact ((Fg.pI (Or.inl ⟨rfl, by omega⟩)).sI (Or.inr ⟨by omega, by omega, rfl⟩)).sI (Or.inr ⟨by omega, by omega, rfl⟩)
    · rw [e17, mI_uI, if_neg (by decide), e14, mI_uI, if_neg (by decide)]; exact v15
    · rw [e17, mI_uI, if_neg (by decide), e14, mI_uI, if_neg (by decide), e11, mI_uI, if_pos rfl, if_pos rfl]
    · rw [e17, mI_uI, if_neg (by decide), e14, mI_uI, if_neg (by decide), e11, mI_uI, if_pos rfl, if_neg (by decide)]; exact h17
    · rw [e17, mI_uI, if_neg (by decide), e14, mI_uI, if_pos rfl, if_pos rfl]
    · rw [e17, mI_uI, if_pos rfl, if_pos rfl]
  -- no letter
  have no : ∀ c : Int32, fmV b len = -1000 - (t0 : Int) → jn_X13_readStatement_46 QV0 87 c (nI i) 1 87 M0 := by
    intro c hf
    refine ⟨h.1.1, Or.inr rfl, wr c true _ (fun M1 f1 a1 v17 v94 v95 => ?_)⟩
    have T1 := h.sm f1
    rw [a1.2, a1.1]
    refine ⟨fun z => absurd z (by decide), fun _ => ⟨T1.1.1, fun M2 e2 => ?_⟩⟩
    have f2 : Fg (smC i) M1 M2 := by rw [e2]; exact Fg.pI (Or.inl ⟨rfl, by omega⟩)
    have T2 := T1.sm f2
    have a2 : At M2 t0 true := ⟨by rw [e2, mI_uI, if_pos rfl, if_pos rfl, Int32.add_zero], by rw [e2, mI_uI, if_pos rfl, if_neg (by decide)]; exact a1.2⟩
    have w17 : mI M2 87 17 = nI i := by rw [e2, mI_uI, if_pos rfl, if_neg (by decide)]; exact v17
    rw [a2.2, T2.1.r20]
    exact ⟨T2.1.1, fun z => absurd z (by decide), fun _ => e120_bad hi hq T2 (f1.t2 f2) a2 w17 hle hf⟩
  -- a letter
  have yes : t0 < len → isL (b t0) → jn_X13_readStatement_45 QV0 87 (nI (b t0)) (nI i) 87 M0 := by
    intro hlt hL
    have b128 : b t0 < 128 ∧ b t0 ≠ 0 := by unfold isL at hL; omega
    have c99 : nI (b t0) = (99 : Int32) ↔ b t0 = 99 := nI_eq (b := 99) (by omega) (by omega)
    refine ⟨h.1.1, Or.inl rfl, wr (nI (b t0)) false _ (fun M1 f1 a1 v17 v94 v95 => ?_)⟩
    have T1 := h.sm f1
    rw [a1.2, a1.1]
    refine ⟨fun _ => ⟨T1.1.1, fun M2 e2 => ?_⟩, fun z => absurd rfl z⟩
    have f2 : Fg (smC i) M1 M2 := by rw [e2]; exact Fg.pI (Or.inl ⟨rfl, by omega⟩)
    have T2 := T1.sm f2
    have a2 : At M2 (t0 + 1) false := ⟨by rw [e2, mI_uI, if_pos rfl, if_pos rfl, nI_1], by rw [e2, mI_uI, if_pos rfl, if_neg (by decide)]; exact a1.2⟩
    have w17 : mI M2 87 17 = nI i := by rw [e2, mI_uI, if_pos rfl, if_neg (by decide)]; exact v17
    have w94 : mI M2 94 i = nI t0 := by rw [e2, mI_uI, if_neg (by decide)]; exact v94
    have w95 : mI M2 95 i = nI (b t0) := by rw [e2, mI_uI, if_neg (by decide)]; exact v95
    have gg : gw p0 (b t0) = some (b t0, 0, 0, put1 p0.2.2.2 0 0) := by unfold gw; rw [if_pos h0, if_pos hL]
    have s1 : Sg b len t0 p0 (t0 + 1) (b t0, 0, 0, put1 p0.2.2.2 0 0) := Sg.step ⟨hR, Nat.le_refl _, hle, fun _ _ => rfl⟩ hlt gg b128.2
    have z0 : put1 p0.2.2.2 0 0 0 = 0 := if_pos rfl
    have badn : ¬ (t0 + 1 < len ∧ isD (b (t0 + 1))) → fmV b len = -1000 - ((t0 + 1 : Nat) : Int) := fun o => by
      by_cases c : t0 + 1 < len
      · exact s1.1.bad c (gw_no0 b128.2 (fun q => o ⟨c, q⟩))
      · have e : t0 + 1 = len := by omega
        have r := s1.1
        rw [e] at r
        rw [r.fin, if_neg (fun q => b128.2 q.2), e]
    rw [a2.2, T2.1.r20]
    refine ⟨T2.1.1, fun _ => ⟨fun z => ?_, fun z => ?_⟩, fun z => absurd rfl z⟩
    · have z := mt c99.mpr z
      have rm : roomN (b t0) 0 = 3 := by unfold roomN; rw [if_neg (fun q => z q.1)]
      refine S_R_readNumber T2 (by omega) a2 (fun k _ hk1 hk3 ok cl M3 f3 t3 => ?_) (fun o M3 f3 t3 => ?_)
      · obtain ⟨n', g', e', o'⟩ := dg_num b128.2 s1 z0 (fun j hj => absurd hj (by omega)) hk1 (by rw [rm]; exact hk3) hk3 ok (by rw [rm]; exact cl)
        rw [← e']
        have f3s := f3.mono (fun a k q => sm_rd (i := i) q)
        exact e120_ok hi hq (T2.rd f3) ((f1.t2 f2).t2 f3s) t3 (by rw [f3.I (by decide)]; exact w17) hL (by omega) g' (by rw [f3.I (by simp only [rdC]; omega)]; exact w94) (by rw [f3.I (by simp only [rdC]; omega)]; exact w95)
      · have f3s := f3.mono (fun a k q => sm_rd (i := i) q)
        have o : ¬ (t0 + 1 < len ∧ isD (b (t0 + 1))) := by
          rcases o with o | o
          · exact absurd o (by decide)
          · exact o
        exact e120_bad hi hq (T2.rd f3) ((f1.t2 f2).t2 f3s) t3 (by rw [f3.I (by decide)]; exact w17) (by omega) (badn o)
    · have z := c99.mp z
      have rm : roomN (b t0) 0 = 1 := by unfold roomN; rw [if_pos ⟨z, rfl⟩]
      refine S_R_readDigit T2 (by omega) a2 (fun _ hl2 hd2 M3 f3 t3 => ?_) (fun o M3 f3 t3 => ?_)
      · have dg1 : dgV b (t0 + 1) 1 = b (t0 + 1) - 48 := by show 0 * 10 + (b (t0 + 1 + 0) - 48) = _; rw [Nat.add_zero]; omega
        obtain ⟨n', g', e', o'⟩ := dg_num (k := 1) b128.2 s1 z0 (fun j hj => absurd hj (by omega)) (by omega) (by rw [rm]; omega) (by omega) ⟨by omega, fun j hj => by rw [show j = 0 by omega]; exact hd2, fun j hj hj0 => by omega⟩ (Or.inl rm.symm)
        rw [← dg1, ← e']
        have f3s := f3.mono (fun a k q => sm_rd (i := i) q)
        exact e120_ok hi hq (T2.rd f3) ((f1.t2 f2).t2 f3s) t3 (by rw [f3.I (by decide)]; exact w17) hL (by omega) g' (by rw [f3.I (by simp only [rdC]; omega)]; exact w94) (by rw [f3.I (by simp only [rdC]; omega)]; exact w95)
      · have f3s := f3.mono (fun a k q => sm_rd (i := i) q)
        have o : ¬ (t0 + 1 < len ∧ isD (b (t0 + 1))) := by
          rcases o with o | o
          · exact absurd o (by decide)
          · exact o
        exact e120_bad hi hq (T2.rd f3) ((f1.t2 f2).t2 f3s) t3 (by rw [f3.I (by decide)]; exact w17) (by omega) (badn o)
  refine ⟨h.1.1, S_R_here h hle ha.1 (fun hlt => ⟨h.1.1, fun y hy => ?_⟩) (fun he => ⟨h.1.1, fun y hy => ?_⟩)⟩
  · rw [h17] at hy
    subst hy
    have hb := (h.2.2.2.2.2 t0 hlt).1
    have ee : ∀ k, k < 256 → (nI (b t0) = nI k ↔ b t0 = k) := fun k hk => nI_eq (by omega) (by omega)
    refine ⟨fun q => yes hlt (by have := (ee 119 (by omega)).mp q; omega), fun q1 => ⟨fun q => yes hlt (by have := (ee 99 (by omega)).mp q; omega), fun q2 => ⟨fun q => yes hlt (by have := (ee 109 (by omega)).mp q; omega), fun q3 => ⟨fun q => yes hlt (by have := (ee 107 (by omega)).mp q; omega), fun q4 => ⟨fun q => yes hlt (by have := (ee 104 (by omega)).mp q; omega), fun q5 => no _ ?_⟩⟩⟩⟩⟩
    refine hR.bad hlt ?_
    unfold gw
    rw [if_pos h0, if_neg]
    have := mt (ee 119 (by omega)).mpr q1
    have := mt (ee 99 (by omega)).mpr q2
    have := mt (ee 109 (by omega)).mpr q3
    have := mt (ee 107 (by omega)).mpr q4
    have := mt (ee 104 (by omega)).mpr q5
    unfold isL
    omega
  · rw [h17] at hy
    subst hy
    refine ⟨fun q => absurd q (by decide), fun _ => ⟨fun q => absurd q (by decide), fun _ => ⟨fun q => absurd q (by decide), fun _ => ⟨fun q => absurd q (by decide), fun _ => ⟨fun q => absurd q (by decide), fun _ => no _ ?_⟩⟩⟩⟩⟩
    have e0 : t0 = 0 ∧ len = 0 := by omega
    rw [e0.1] at hR ⊢
    rw [e0.2]
    rw [hR.fin, if_neg (fun q => q.1 rfl)]
end REF
