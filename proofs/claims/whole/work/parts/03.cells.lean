/-! LOCALS -/
def cat2 (v : Value) : Bool := match v with
  | .long _ => true
  | .double _ => true
  | _ => false
theorem cat2_iff (v : Value) : cat2 v = true ↔ v.category = 2 := by
  cases v <;> simp [cat2, Value.category]
def unl (o : Option Value) : Option Value := match o with
  | some v => if cat2 v then none else some v
  | none => none
/-- a store of one word, of two words -/
def st1 : List (Option Value) → Nat → Value → List (Option Value)
  | [], _, _ => []
  | _ :: t, 0, v => some v :: t
  | o :: t, 1, v => unl o :: st1 t 0 v
  | o :: t, n + 2, v => o :: st1 t (n + 1) v
def st2 : List (Option Value) → Nat → Value → List (Option Value)
  | [], _, _ => []
  | _ :: t, 0, v => some v :: (match t with | [] => [] | _ :: t => none :: t)
  | o :: t, 1, v => unl o :: st2 t 0 v
  | o :: t, n + 2, v => o :: st2 t (n + 1) v
/-- padding up to a place, for locals that aren't there yet -/
def pad (L : List (Option Value)) (n : Nat) : List (Option Value) := L ++ List.replicate (n - L.length) none
theorem unl_some {o : Option Value} {w : Value} (h : unl o = some w) : o = some w ∧ ¬ w.category = 2 := by
  cases o with
  | none => cases h
  | some v =>
    unfold unl at h
    by_cases hc : cat2 v = true
    · simp [hc] at h
    · simp [hc] at h
      subst h
      exact ⟨rfl, fun q => hc ((cat2_iff v).mpr q)⟩
theorem st1_get : ∀ (L : List (Option Value)) (i : Nat) (v : Value) (j : Nat) (w : Value), (st1 L i v)[j]? = some (some w) → (j = i ∧ w = v) ∨ (j ≠ i ∧ L[j]? = some (some w) ∧ ¬ (j + 1 = i ∧ w.category = 2)) := by
  intro L i v
  induction L, i, v using st1.induct with
  | case1 i v => intro j w h; simp [st1] at h
  | case2 o t v =>
    intro j w h
    match j with
    | 0 => simp [st1] at h; exact Or.inl ⟨rfl, h.symm⟩
    | n + 1 => simp [st1] at h; exact Or.inr ⟨by omega, by simpa using h, by omega⟩
  | case3 o t v ih =>
    intro j w h
    match j with
    | 0 =>
      simp [st1] at h
      obtain ⟨h1, h2⟩ := unl_some h
      exact Or.inr ⟨by omega, by simp [h1], fun q => h2 q.2⟩
    | n + 1 =>
      simp [st1] at h
      rcases ih n w h with ⟨h1, h2⟩ | ⟨h1, h2, h3⟩
      · exact Or.inl ⟨by omega, h2⟩
      · exact Or.inr ⟨by omega, by simpa using h2, by omega⟩
  | case4 o t n v ih =>
    intro j w h
    match j with
    | 0 => simp [st1] at h; exact Or.inr ⟨by omega, by simp [h], by omega⟩
    | q + 1 =>
      simp [st1] at h
      rcases ih q w h with ⟨h1, h2⟩ | ⟨h1, h2, h3⟩
      · exact Or.inl ⟨by omega, h2⟩
      · exact Or.inr ⟨by omega, by simpa using h2, fun z => h3 ⟨by omega, z.2⟩⟩
theorem st2_get : ∀ (L : List (Option Value)) (i : Nat) (v : Value) (j : Nat) (w : Value), (st2 L i v)[j]? = some (some w) → (j = i ∧ w = v) ∨ (j ≠ i ∧ j ≠ i + 1 ∧ L[j]? = some (some w) ∧ ¬ (j + 1 = i ∧ w.category = 2)) := by
  intro L i v
  induction L, i, v using st2.induct with
  | case1 i v => intro j w h; simp [st2] at h
  | case2 o t v =>
    intro j w h
    match j with
    | 0 => simp [st2] at h; exact Or.inl ⟨rfl, h.symm⟩
    | n + 1 =>
      cases t with
      | nil => simp [st2] at h
      | cons o2 t2 =>
        match n with
        | 0 => simp [st2] at h
        | k + 1 => simp [st2] at h; exact Or.inr ⟨by omega, by omega, by simpa using h, by omega⟩
  | case3 o t v ih =>
    intro j w h
    match j with
    | 0 =>
      simp [st2] at h
      obtain ⟨h1, h2⟩ := unl_some h
      exact Or.inr ⟨by omega, by omega, by simp [h1], fun q => h2 q.2⟩
    | n + 1 =>
      simp [st2] at h
      rcases ih n w h with ⟨h1, h2⟩ | ⟨h1, h0, h2, h3⟩
      · exact Or.inl ⟨by omega, h2⟩
      · exact Or.inr ⟨by omega, by omega, by simpa using h2, by omega⟩
  | case4 o t n v ih =>
    intro j w h
    match j with
    | 0 => simp [st2] at h; exact Or.inr ⟨by omega, by omega, by simp [h], by omega⟩
    | q + 1 =>
      simp [st2] at h
      rcases ih q w h with ⟨h1, h2⟩ | ⟨h1, h0, h2, h3⟩
      · exact Or.inl ⟨by omega, h2⟩
      · exact Or.inr ⟨by omega, by omega, by simpa using h2, fun z => h3 ⟨by omega, z.2⟩⟩
theorem pad_get {L : List (Option Value)} {n j : Nat} {w : Value} (h : (pad L n)[j]? = some (some w)) : L[j]? = some (some w) := by
  unfold pad at h
  by_cases hl : j < L.length
  · rwa [List.getElem?_append_left hl] at h
  · rw [List.getElem?_append_right (by omega), List.getElem?_replicate] at h
    split at h <;> cases h
theorem lvL.pad {G : GG} {ls : Array Slot} {n k : Nat} {L : List (Option Value)} (h : lvL G ls n L) : lvL G ls n (pad L k) := ⟨h.1, h.2.1, fun i v hv => h.2.2 i v (pad_get hv)⟩
def aL (G : GG) (L : List (Option Value)) : List (Nat × Value) := (List.range L.length).filterMap (fun i => match L[i]? with
  | some (some v) => some (i, vj G v)
  | _ => none)
theorem mem_aL {G : GG} {L : List (Option Value)} {i : Nat} {v : Value} (h : L[i]? = some (some v)) : (i, vj G v) ∈ aL G L := by
  refine List.mem_filterMap.mpr ⟨i, List.mem_range.mpr (List.getElem?_eq_some_iff.mp h).1, ?_⟩
  rw [h]
theorem aL_mem {G : GG} {L : List (Option Value)} {q : Nat × Value} (h : q ∈ aL G L) : ∃ v, L[q.1]? = some (some v) ∧ q.2 = vj G v := by
  obtain ⟨i, -, h2⟩ := List.mem_filterMap.mp h
  split at h2
  · rename_i v hv
    cases h2
    exact ⟨v, hv, rfl⟩
  · cases h2
theorem lvL.has {G : GG} {ls : Array Slot} {n : Nat} {L : List (Option Value)} (h : lvL G ls n L) : lv_has ls n (aL G L) := ⟨h.1, h.2.1, fun q hq => by
  obtain ⟨v, h1, h2⟩ := aL_mem hq
  rw [h2]
  exact h.2.2 _ v h1⟩
theorem lvL.one {G : GG} {ls : Array Slot} {n i : Nat} {L : List (Option Value)} {v : Value} {l : List (Nat × Value)} (hsub : ∀ q ∈ aL G L, q ∈ l) (h : lv_has ls n ((i, vj G v) :: l.filter (fun q => !(q.1 == i) && !(q.1 + 1 == i && q.2.category == 2)))) : lvL G ls n (st1 L i v) := by
  refine ⟨h.1, h.2.1, fun j w hj => ?_⟩
  rcases st1_get L i v j w hj with ⟨rfl, rfl⟩ | ⟨h1, h2, h3⟩
  · exact h.2.2 _ List.mem_cons_self
  · refine h.2.2 (j, vj G w) (List.mem_cons_of_mem _ (List.mem_filter.mpr ⟨hsub _ (mem_aL h2), ?_⟩))
    have h4 := vj_cat G w
    simp only [Bool.and_eq_true, Bool.not_eq_true', beq_eq_false_iff_ne, ne_eq, Bool.and_eq_false_imp, beq_iff_eq]
    exact ⟨h1, fun z => by simp only [h4]; exact fun q => h3 ⟨z, q⟩⟩
theorem lvL.two {G : GG} {ls : Array Slot} {n i : Nat} {L : List (Option Value)} {v : Value} (h : lv_has ls n ((i, vj G v) :: (aL G L).filter (fun q => !(q.1 == i) && (!(q.1 == i + 1) && !(q.1 + 1 == i && q.2.category == 2))))) : lvL G ls n (st2 L i v) := by
  refine ⟨h.1, h.2.1, fun j w hj => ?_⟩
  rcases st2_get L i v j w hj with ⟨rfl, rfl⟩ | ⟨h1, h0, h2, h3⟩
  · exact h.2.2 _ List.mem_cons_self
  · refine h.2.2 (j, vj G w) (List.mem_cons_of_mem _ (List.mem_filter.mpr ⟨mem_aL h2, ?_⟩))
    have h4 := vj_cat G w
    simp only [Bool.and_eq_true, Bool.not_eq_true', beq_eq_false_iff_ne, ne_eq, Bool.and_eq_false_imp, beq_iff_eq]
    exact ⟨h1, h0, fun z => by simp only [h4]; exact fun q => h3 ⟨z, q⟩⟩
/-! CELLS -/
theorem ad_inj {G : GG} {a b : Nat} (ha : 2 ≤ a) (hb : 2 ≤ b) (h : ad G a = ad G b) : a = b := by
  unfold ad at h
  rw [if_neg (by omega), if_neg (by omega)] at h
  omega
theorem ad_eq {G : GG} {a : Nat} (ha : 2 ≤ a) : ad G a = G.2.2.2.1 + (a - 2) := if_neg (by omega)
theorem Rel.in {G : GG} {M : Mem} {H : Heap} (hR : Rel G M H) {a : Nat} (h : mK M a ≠ 0) : 2 ≤ a ∧ ad G a < H.size := by
  have h1 := hR.2.2.1 a h
  have h2 := hR.2.1
  rw [ad_eq h1.1]
  exact ⟨h1.1, by omega⟩
/-- what one cell says stays, where neither it nor its values change -/
theorem Cel.kept {G : GG} {M M' : Mem} {H H1 : Heap} {a : Nat} (h : Cel G M H a) (hk : mK M' a = mK M a) (hn : mN M' a = mN M a) (hI : mI M' a = mI M a) (hJ : mJ M' a = mJ M a) (hR : mR M' a = mR M a) (he : mK M a ≠ 0 → H1[ad G a]? = H[ad G a]?) : Cel G M' H1 a := by
  have hfv : ∀ c, fv G M' c a = fv G M c a := fun c => by
    funext k
    simp only [fv, fvt, hI, hJ, hR]
  have hav : ∀ t, av G M' t a = av G M t a := fun t => by
    funext k
    simp only [av, hI, hJ, hR]
  refine ⟨fun c hc hkc => ?_, fun t ht hkt => ?_⟩
  · rw [hk] at hkc
    rw [hfv]
    exact (h.1 c hc hkc).kept (he (by omega))
  · rw [hk] at hkt
    rw [hn, hav, he (by omega)]
    exact h.2 t ht hkt
/-- one cell changes -/
theorem Rel.put {G : GG} {M M' : Mem} {H H1 : Heap} (hR : Rel G M H) {a : Nat} (ha : mK M a ≠ 0) (hT : mT M' = mT M) (hk : mK M' = mK M) (hn : mN M' = mN M) (hI : ∀ b, b ≠ a → mI M' b = mI M b) (hJ : ∀ b, b ≠ a → mJ M' b = mJ M b) (hRr : ∀ b, b ≠ a → mR M' b = mR M b)
    (hz : H1.size = H.size) (oq : ∀ q : Nat, q ≠ ad G a → H1[q]? = H[q]?) (hc : Cel G M' H1 a) : Rel G M' H1 := by
  refine ⟨by rw [hT]; exact hR.1, by rw [hT, hz]; exact hR.2.1, fun b hb => by rw [hT]; exact hR.2.2.1 b (by rw [← hk]; exact hb), fun b => ?_⟩
  by_cases hb : b = a
  · subst hb; exact hc
  · refine (hR.2.2.2 b).kept (by rw [hk]) (by rw [hn]) (hI b hb) (hJ b hb) (hRr b hb) (fun h0 => oq _ fun e => hb (ad_inj (hR.in h0).1 (hR.in ha).1 e))
/-- a new cell -/
theorem Rel.new {G : GG} {M : Mem} {H H1 : Heap} (hR : Rel G M H) {kd n : Nat} (hz : H1.size = H.size + 1) (oq : ∀ q : Nat, q < H.size → H1[q]? = H[q]?) (hc : Cel G (nw M kd n) H1 (mT M)) : Rel G (nw M kd n) H1 := by
  refine ⟨Nat.le_succ_of_le hR.1, ?_, fun b hb => ?_, fun b => ?_⟩
  · show H1.size = _ + (mT M + 1 - 2)
    have := hR.1
    have := hR.2.1
    omega
  · show 2 ≤ b ∧ b < mT M + 1
    by_cases h : b = mT M
    · have := hR.1
      omega
    · have hb : mK M b ≠ 0 := by
        have e : mK (nw M kd n) b = mK M b := if_neg h
        rw [← e]; exact hb
      have := hR.2.2.1 b hb
      omega
  · by_cases h : b = mT M
    · subst h; exact hc
    · exact (hR.2.2.2 b).kept (if_neg h) (if_neg h) (if_neg h) (if_neg h) (if_neg h) (fun h0 => oq _ (hR.in h0).2)
theorem va_S.new {G : GG} {H0 H H1 : Heap} {locs : List Loc} (hS : va_S (AG G) H0 H locs) (hz : H1.size = H.size + 1) (oq : ∀ q : Nat, q < H.size → H1[q]? = H[q]?) : va_S (AG G) H0 H1 locs :=
  ⟨Nat.le_trans hS.1 (by omega), fun x h1 h2 => (oq x (Nat.lt_of_lt_of_le h1 hS.1)).trans (hS.2.1 x h1 h2), hS.2.2⟩
theorem top_ad {G : GG} {M : Mem} {H : Heap} (hR : Rel G M H) : ad G (mT M) = H.size := by
  rw [ad_eq hR.1, hR.2.1]
def isI (ty : FieldType) : Bool := match ty with
  | .int => true
  | .boolean => true
  | _ => false
def isR (ty : FieldType) : Bool := match ty with
  | .object _ => true
  | .array _ => true
  | _ => false
theorem fv_I {G : GG} {M : Mem} {c a k : Nat} (h : isI (fT c k) = true) : fv G M c a k = .int (mI M a k) := by
  unfold fv
  generalize fT c k = ty at h ⊢
  cases ty <;> first | rfl | (simp [isI] at h)
theorem fv_J {G : GG} {M : Mem} {c a k : Nat} (h : fT c k = .long) : fv G M c a k = .long (mJ M a k) := by
  unfold fv
  rw [h]
  rfl
theorem fv_R {G : GG} {M : Mem} {c a k : Nat} (h : isR (fT c k) = true) : fv G M c a k = vj G (.ref (mR M a k)) := by
  unfold fv
  generalize fT c k = ty at h ⊢
  cases ty <;> first | rfl | (simp [isR] at h)
def FldOK (own : String) (idx c k : Nat) : Prop := c < 14 ∧ k < clN c ∧ ∃ ref, Cond.fieldLink own idx ref (clT c k).2.1 (clT c k).2.2.1 ∈ gT ∧ ((clT c k).1 = ref ∨ Cond.sameField ref (clT c k).1 (clT c k).2.1 (clT c k).2.2.1 ∈ gT)
section PWM
variable {G : GG} {μ : MD} {rm : Room} {Q : Option Value → Mem → Prop} {p : Program} {e : Env} {s : State} {m : MethodId} {args : Array Value} {below : List Frame} {meth : Method} {c0 : Code} {Z : State → Prop} {H : Heap} {locs : List Loc} {ls : Array Slot} {M : Mem} {cells slots pc : Nat} {rest : List Value} {Q0 : State → Prop}
theorem w_get (C : Cx G μ rm Q p e s m args below meth c0 Z) (hR : Rel G M H) {idx c k a : Nat} (hf : FldOK μ.1 idx c k) (hk : mK M a = c + 1) (hdg : cod μ pc (.getfield idx) 3)
    (kk : W p G.1 e rm s m args below meth c0 H locs cells slots Z (F0 m (pc + 3) ls (fv G M c a k :: rest))) : W p G.1 e rm s m args below meth c0 H locs cells slots Z (F0 m pc ls (.ref (ad G a) :: rest)) := by
  obtain ⟨hx, hb, hml, hown, hts, hK, -⟩ := C
  obtain ⟨hc, hkn, ref, hw, hsm⟩ := hf
  obtain ⟨cell, q1, q2, q3, q4⟩ := (hR.2.2.2 a).1 c hc hk
  obtain ⟨hS, hfc, kC, hkC, hkind⟩ := hK.1 c hc
  obtain ⟨cf, kf, fi, f, hi, hsl⟩ := hS k hkn
  have hi2 : s.fieldFound? ref (clT c k).2.1 (clT c k).2.2.1 = some (cf, kf, fi, f) := by
    rcases hsm with h | h
    · rw [← h]; exact hi
    · exact u_same (hts _ h) _ hi
  refine W.getf hx hb hown (hts _ hw) hi2 (u_facts hfc hkC (u_lays hts (cl_in hc) hkn) hi).1 q1 (by rw [q3]; exact fun h => by cases h) (v := fv G M c a k) ?_ rfl rfl hdg kk
  rw [hsl, q4 k hkn]
/-- a field is written; v its value, M' the memory behind it -/
theorem w_put (C : Cx G μ rm Q p e s m args below meth c0 Z) (hR : Rel G M H) (hS0 : va_S (AG G) s.heap H locs) {idx c k a : Nat} {v : Value} {M' : Mem} (hf : FldOK μ.1 idx c k) (hfin : (clT c k).2.2.2 = false ∨ ((clT c k).1 = μ.1 ∧ (μ.2.2.1.name == "<init>") = true)) (hk : mK M a = c + 1)
    (hT : mT M' = mT M) (hkK : mK M' = mK M) (hn : mN M' = mN M) (hI : ∀ b, b ≠ a → mI M' b = mI M b) (hJ : ∀ b, b ≠ a → mJ M' b = mJ M b) (hRr : ∀ b, b ≠ a → mR M' b = mR M b) (hv : ∀ j, j < clN c → updV (fv G M c a) k v j = fv G M' c a j)
    (hnar : narrow (fT c k) v = v) (hfit : fits (fT c k) v = true) (hdg : cod μ pc (.putfield idx) 3)
    (kk : ∀ (H1 : Heap) (locs1 : List Loc), Rel G M' H1 → va_S (AG G) s.heap H1 locs1 → W p G.1 e rm s m args below meth c0 H1 locs1 cells slots Z (F0 m (pc + 3) ls rest)) : W p G.1 e rm s m args below meth c0 H locs cells slots Z (F0 m pc ls (v :: .ref (ad G a) :: rest)) := by
  obtain ⟨hx, hb, hml, hown, hts, hK, -, hnm, -⟩ := C
  obtain ⟨hc, hkn, ref, hw, hsm⟩ := hf
  have h0 : mK M a ≠ 0 := by omega
  obtain ⟨cell, q1, q2, q3, q4⟩ := (hR.2.2.2 a).1 c hc hk
  obtain ⟨hS, hfc, kC, hkC, hkind⟩ := hK.1 c hc
  obtain ⟨cf, kf, fi, f, hi, hsl⟩ := hS k hkn
  have hi2 : s.fieldFound? ref (clT c k).2.1 (clT c k).2.2.1 = some (cf, kf, fi, f) := by
    rcases hsm with h | h
    · rw [← h]; exact hi
    · exact u_same (hts _ h) _ hi
  have hst := (u_facts hfc hkC (u_lays hts (cl_in hc) hkn) hi).1
  have hap : ∀ x y, x < clN c → y < clN c → x ≠ y → (G.2.1.2 c) x ≠ (G.2.1.2 c) y := by
    intro x y hx hy hne
    obtain ⟨_, _, _, fa, hia, ea⟩ := hS x hx
    obtain ⟨_, _, _, fb, hib, eb⟩ := hS y hy
    rw [← ea, ← eb]
    refine u_apart (u_lays hts (cl_in hc) hx) (u_lays hts (cl_in hc) hy) hia hib ?_
    rw [(State.fieldFound?_type hia (cl_ty hc x hx)).1, (State.fieldFound?_type hib (cl_ty hc y hy)).1]
    exact cl_nm hc x hx y hy hne
  have fin : ∀ H' : Heap, H'[ad G a]? = some (cell.setSlot f.slot v) → H'.size = H.size → (∀ q, q ≠ ad G a → H'[q]? = H[q]?) → W p G.1 e rm s m args below meth c0 H' (locs ++ [⟨ad G a, f.slot⟩]) cells slots Z (F0 m (pc + 3) ls rest) := by
    intro H' e1 e2 e3
    rw [hsl] at e1 ⊢
    refine kk H' _ (hR.put h0 hT hkK hn hI hJ hRr e2 e3 ⟨fun c' hc' hk' => ?_, fun t ht hkt => ?_⟩) (hS0.put e2 e3 ?_)
    · rw [hkK, hk] at hk'
      have : c' = c := by omega
      subst this
      exact t_OB.to (V := updV (fv G M c' a) k v) ⟨_, e1, q2, q3, t_set q4 hap hkn v⟩ hv
    · rw [hkK, hk] at hkt
      omega
    · have := (hR.in h0).1
      rw [ad_eq this]
      exact Nat.le_add_right _ _
  have hty := cl_ty hc k hkn
  rcases hfin with hfin | ⟨hdecl, hini⟩
  · have hlay := hts _ (cl_in hc _ (u_in_lay hkn))
    unfold u_lay at hlay
    rw [if_neg (by rw [hfin]; decide)] at hlay
    have h6 := u_store hfc hkC hkind hlay hi hty hnar hfit
    exact W.putK hx hb (f := f) ⟨hown, hts _ hw, ⟨_, _, _, hi2⟩, hst⟩ (by rw [q2]; exact h6) q1 q3 (by rw [hsl]; exact k2_hasslot (q4 k hkn)) rfl rfl hdg fin
  · by_cases hf2 : (clT c k).2.2.2 = true
    · have hlay := hts _ (cl_in hc _ (u_in_lay hkn))
      unfold u_lay at hlay
      rw [if_pos hf2] at hlay
      have hcf : m.cls = cf := by
        obtain ⟨_, _, c', _, _, _, -, -, hf', -, -, -, hown2, -⟩ := Cond.laysFinal_spec hlay
        have e1 : c' = cf := by have := hi.symm.trans hf'; simp at this; exact this.1.symm
        rw [hdecl] at hown2
        rw [← e1]; exact Option.some.inj (hown.symm.trans hown2)
      have h6 := u_fits hfc hkC hkind (Or.inr hlay) hi hty hnar hfit
      have hin2 : meth.name = "<init>" := by rw [hnm]; exact beq_iff_eq.mp hini
      exact W.putFinK hx hb hown (hts _ hw) hi2 hst hcf hin2 (by rw [q2]; exact h6) q1 q3 (by rw [hsl]; exact k2_hasslot (q4 k hkn)) rfl rfl hdg fin
    · have hlay := hts _ (cl_in hc _ (u_in_lay hkn))
      unfold u_lay at hlay
      rw [if_neg hf2] at hlay
      have h6 := u_store hfc hkC hkind hlay hi hty hnar hfit
      exact W.putK hx hb (f := f) ⟨hown, hts _ hw, ⟨_, _, _, hi2⟩, hst⟩ (by rw [q2]; exact h6) q1 q3 (by rw [hsl]; exact k2_hasslot (q4 k hkn)) rfl rfl hdg fin
end PWM
