/-! THE REFERENCE: knew -/
theorem wNo_far {c : CT} {x : Int32} : (-4000000000000000000 : Int64) + (wNo c x).toInt64 = (wNo c x).toInt64 - 4000000000000000000 := by
  unfold wNo
  split
  · split <;> decide
  · decide
section REF
variable {M : Mem} {σ : StT} {c : CT} {w p : Nat → Nat} {hh g : Int} {Q : Int32 → Mem → Prop} {QJ0 : Int64 → Mem → Prop} {QV0 : Mem → Prop}
theorem kn_go {dd b a L : Nat} {e : Nat → Int} {pt : Int32} (h : AbsR M c) (hdd : dd < 8) (hL : 1 ≤ L ∧ L ≤ 100) (hr : RwAt M dd L e) (he : ∀ i, i < L → 0 ≤ e i ∧ e i < 3) (hba : b < a) (ha : a ≤ 100) (hp : ix pt < 2) (hM : Mi M (sN (cS c)) (sCh (cS c)))
    (hA : lgF (cS c) (fun i => (e i).toNat) b a L 0 = L → ∀ M', Fg miC M M' → QJ0 (lN ((if ix pt = 0 then lgk (cS c) (fun i => (e i).toNat) b a (L - 1) else lgw (cS c) (fun i => (e i).toNat) b a (L - 1)) / Nat.gcd (lgk (cS c) (fun i => (e i).toNat) b a (L - 1)) (lgw (cS c) (fun i => (e i).toNat) b a (L - 1)))) M')
    (hB : ∀ k : Nat, k < L → lgF (cS c) (fun i => (e i).toNat) b a L 0 = k → ∀ M', Fg miC M M' → QJ0 (jI (-100 - (k : Int)) - 4000000000000000000) M') : ∃ n, lp_X13_knew_188 QJ0 n 87 (nI dd) (nI b) (nI a) pt 0 (nI (L - 1)) 0 0 0 M := by
  have hw := h.2.1.1
  have he2 : ∀ i, i < L → (e i).toNat ≤ 2 := fun i hi => by have := he i hi; omega
  have L0 : ∀ i : Nat, (if (0 : Nat) = L then i else 0) = 0 := fun i => by rw [if_neg (by omega)]
  refine for_up (fun m i => (∀ j, j < i → 0 < lgw (cS c) (fun i => (e i).toNat) b a j) → ∀ M', Fg miC M M' → Mi M' (sN (cS c)) (lgx (cS c) (fun i => (e i).toNat) b a i).1 → lp_X13_knew_188 QJ0 m 87 (nI dd) (nI b) (nI a) pt (iI (lgx (cS c) (fun i => (e i).toNat) b a i).2) (nI (L - 1)) (lN (if i = L then sumN (fun k => (lgx (cS c) (fun i => (e i).toNat) b a (L - 1)).1 k * kaR (cS c) (lgx (cS c) (fun i => (e i).toNat) b a (L - 1)).2 (e (L - 1)).toNat k b a) (sN (cS c)) else 0)) (lN (if i = L then sumN (fun k => (lgx (cS c) (fun i => (e i).toNat) b a (L - 1)).1 k * kbR (cS c) (lgx (cS c) (fun i => (e i).toNat) b a (L - 1)).2 (e (L - 1)).toNat k b a) (sN (cS c)) else 0)) (nI i) M') L (fun m hl M' f hi => ?_) (fun m i hi ih hl M' f hMi => ?_) |> fun ⟨m, hx⟩ => ⟨m, by
      have q := hx (fun j hj => absurd hj (by omega)) M Fg.rf hM
      rw [L0, L0] at q
      exact q⟩
  · have h2 := h.mi f
    have r2 := hr.fg f (fun a k q => by simp only [miC] at q; omega)
    unfold lp_X13_knew_188
    rw [if_pos rfl, if_pos rfl, h2.1.r54, h2.1.n54, at118 hdd (by omega), nI_clamp (by omega), (r2.2.2 (L - 1) (by omega)).2]
    have hall := lgF_all (σ := cS c) (e := fun i => (e i).toNat) (b := b) (a := a) L 0 (fun j hj => by rw [Nat.zero_add]; exact hl j hj)
    rw [Nat.zero_add] at hall
    have ev : jI (e (L - 1)) = lN (e (L - 1)).toNat := by rw [lN_jI]; congr 1; have := he (L - 1) (by omega); omega
    refine ⟨fun _ => ⟨h2.1.1, h2.1.k54, vp_in_nI (by omega) (by omega), kn_end hw hba hL he2 hl hp ev (hA hall M' f)⟩, fun z => absurd (nI_lt (by omega) (by omega)) z⟩
  · have h2 := h.mi f
    have r2 := hr.fg f (fun a k q => by simp only [miC] at q; omega)
    unfold lp_X13_knew_188
    rw [if_neg (by omega), if_neg (by omega), h2.1.r54, h2.1.n54, at118 hdd (by omega), at118 hdd (by omega), nI_clamp (show 100 * dd + i < 2 ^ 31 by omega), (r2.2.2 i hi).2, jI_iI, show iI (e i) = nI (e i).toNat by rw [nI_iI]; congr 1; have := he i hi; omega]
    refine ⟨fun z => absurd z (nI_nlt (by omega) (by omega)), fun _ => ⟨h2.1.1, h2.1.k54, vp_in_nI (by omega) (by omega), fun y hy => ?_⟩⟩
    subst hy
    refine kn_ev h2.1 h2.2.1 hMi (lg_b hw i hl) hba ha (he2 i hi) (lgx_h hw i hl) hL hi (fun hp M3 f3 i3 => ?_) (fun hp M3 f3 => ?_)
    · have q := ih (fun j hj => by
        by_cases ej : j = i
        · rw [ej]; exact hp
        · exact hl j (by omega)) M3 (f.t2 f3) i3
      by_cases c1 : i + 1 = L
      · have c2 : L - 1 = i := by omega
        rw [if_pos c1, if_pos c1, c2] at q
        rw [if_pos c1, if_pos c1, c2]
        exact q
      · rw [if_neg c1, if_neg c1] at q
        rw [if_neg c1, if_neg c1]
        exact q
    · have q := lgF_at (σ := cS c) (e := fun i => (e i).toNat) (b := b) (a := a) L 0 i (by omega) (fun j hj => by rw [Nat.zero_add]; exact hl j hj) (by rw [Nat.zero_add]; exact hp)
      rw [Nat.zero_add] at q
      exact hB i hi q M3 (f.t2 f3)
theorem S_X13_knew {d b a p : Int32} (h : AbsR M c) (hQ : ∀ M', Fg mdC8 M M' → AbsR M' c → QJ0 (aKnew c d b a p) M') : wp_X13_knew 87 d b a p M QJ0 := by
  refine th0 h (fun M1 h1 f1 z1 => ?_)
  have q := hQ M1 f1 h1
  have no : sl b a → ix p < 2 → ¬ bR c d → QJ0 ((wNo c d).toInt64 - 4000000000000000000) M1 := fun p2 p3 n => by
    have q := q
    unfold aKnew at q
    rw [if_pos ⟨p2, p3⟩, if_neg n] at q; exact q
  have n1 : ¬ ix d < 8 ∨ ¬ (sl b a ∧ ix p < 2) → QJ0 (-4000000000000000001) M1 := fun o => by
    have q := q
    unfold aKnew at q
    by_cases c2 : sl b a ∧ ix p < 2
    · have c3 : ¬ ix d < 8 := by
        rcases o with o | o
        · exact o
        · exact absurd c2 o
      rw [if_pos c2, if_neg (fun z => c3 z.1)] at q
      unfold wNo at q
      rw [if_neg c3] at q
      exact q
    · rw [if_neg c2] at q; exact q
  refine S_inX 7 (by omega) rfl (fun p1 => ⟨fun z => absurd z (by decide), fun _ => S_R_isSlate (fun p2 => ⟨fun z => absurd z (by decide), fun _ => S_inX 1 (by omega) rfl (fun p3 => ⟨fun _ => ⟨h1.1.1, S_R_wrongRow h1 (fun g => absurd p1 g) (fun g g1 => ⟨fun z => absurd z (by decide), fun _ => ⟨h1.1.1, S_R_wrongRow h1 (fun g => absurd p1 g) (fun _ _ => ?_) (fun _ g2 => by omega) (fun _ g2 => by omega)⟩⟩) (fun g g1 => ⟨fun z => absurd z (by decide), fun _ => ⟨h1.1.1, S_R_wrongRow h1 (fun g => absurd p1 g) (fun _ g2 => by omega) (fun _ _ => ?_) (fun _ g2 => by omega)⟩⟩) (fun g g1 g2 g3 g4 g5 g6 => ⟨fun _ => ?_, fun z => absurd (by decide) z⟩)⟩, fun z => absurd z (by decide)⟩) (fun p3 => ⟨fun z => absurd rfl z, fun _ => n1 (Or.inr (fun o => p3 (by omega)))⟩)⟩) (fun p2 => ⟨fun _ => n1 (Or.inr (fun o => p2 o.1)), fun z => absurd rfl z⟩)⟩) (fun p1 => ⟨fun _ => n1 (Or.inl (by omega)), fun z => absurd rfl z⟩)
  · have q := no p2 (by omega) (fun z => by have := z.2.1; omega)
    rw [← wNo_far] at q
    unfold wNo at q
    rw [if_pos g, if_pos g1] at q; exact q
  · have q := no p2 (by omega) (fun z => by have := z.2.1; omega)
    rw [← wNo_far] at q
    unfold wNo at q
    rw [if_pos g, if_neg (by omega)] at q; exact q
  · have hin := ix_vp g (N := 8) (by omega) (by omega)
    rw [h1.1.r52, h1.1.n52, h1.1.r53, h1.1.n53, ix_cl g (by omega), g3, g5]
    have e0 : nI (cG c (ix d)).2.1 = (0 : Int32) ↔ (cG c (ix d)).2.1 = 0 := nI_eq (b := 0) (by omega) (by omega)
    refine ⟨h1.1.1, h1.1.k52, hin, fun z => ⟨h1.1.k53, hin, ?_⟩, fun z => ?_⟩
    · have z := e0.mp z
      have br : bR c d := ⟨g, g1, z⟩
      have p3' : ix p < 2 := by omega
      have bi : lgC c d ↔ (1 ≤ (cG c (ix d)).2.2.1) ∧ ∀ i, i < (cG c (ix d)).2.2.1 → 0 ≤ (cG c (ix d)).2.2.2 i ∧ (cG c (ix d)).2.2.2 i < 3 := Iff.rfl
      have rw1 : RwAt M1 (ix d) (cG c (ix d)).2.2.1 (cG c (ix d)).2.2.2 := ⟨g4, g5, fun i hi => ⟨⟨(g6 i hi).1.1, (g6 i hi).1.2.1⟩, (g6 i hi).2⟩⟩
      have hA : lgC c d → rdy c → lgF (cS c) (fun i => ((cG c (ix d)).2.2.2 i).toNat) (ix b) (ix a) (cG c (ix d)).2.2.1 0 = (cG c (ix d)).2.2.1 → ∀ M', Fg mdC8 M M' → AbsR M' c → QJ0 (lN ((if ix p = 0 then lgk (cS c) (fun i => ((cG c (ix d)).2.2.2 i).toNat) (ix b) (ix a) ((cG c (ix d)).2.2.1 - 1) else lgw (cS c) (fun i => ((cG c (ix d)).2.2.2 i).toNat) (ix b) (ix a) ((cG c (ix d)).2.2.1 - 1)) / Nat.gcd (lgk (cS c) (fun i => ((cG c (ix d)).2.2.2 i).toNat) (ix b) (ix a) ((cG c (ix d)).2.2.1 - 1)) (lgw (cS c) (fun i => ((cG c (ix d)).2.2.2 i).toNat) (ix b) (ix a) ((cG c (ix d)).2.2.1 - 1)))) M' := fun x1 x2 x3 M' fr ha => by
        have q := hQ M' fr ha
        unfold aKnew at q
        have x3' : lgF (cS c) (enN c d) (ix b) (ix a) (rL c d) 0 = rL c d := x3
        rw [if_pos ⟨p2, p3'⟩, if_pos br, if_pos x1, if_pos x2, if_pos x3'] at q; exact q
      have hB : lgC c d → rdy c → ∀ k : Nat, k < (cG c (ix d)).2.2.1 → lgF (cS c) (fun i => ((cG c (ix d)).2.2.2 i).toNat) (ix b) (ix a) (cG c (ix d)).2.2.1 0 = k → ∀ M', Fg mdC8 M M' → AbsR M' c → QJ0 (jI (-100 - (k : Int)) - 4000000000000000000) M' := fun x1 x2 k x3 x4 M' fr ha => by
        have q := hQ M' fr ha
        unfold aKnew at q
        have x4' : lgF (cS c) (enN c d) (ix b) (ix a) (rL c d) 0 = k := x4
        rw [if_pos ⟨p2, p3'⟩, if_pos br, if_pos x1, if_pos x2, x4', if_neg (fun y => by have y : k = (cG c (ix d)).2.2.1 := y; omega)] at q; exact q
      have hC : lgC c d → ¬ rdy c → QJ0 (-4000000000000000003) M1 := fun x1 x2 => by
        have q := q
        unfold aKnew at q
        rw [if_pos ⟨p2, p3'⟩, if_pos br, if_pos x1, if_neg x2] at q; exact q
      have hD : ¬ lgC c d → QJ0 (-4000000000000000013) M1 := fun x1 => by
        have q := q
        unfold aKnew at q
        rw [if_pos ⟨p2, p3'⟩, if_pos br, if_neg x1] at q; exact q
      clear hQ q no n1
      generalize lgC c d = LG at *
      obtain ⟨p4, p5⟩ := p2
      obtain ⟨dd, hdd, rfl⟩ := ix_ex g (by omega)
      obtain ⟨aa, haa, rfl⟩ := ix_ex (x := a) (n := 101) (by omega) (by omega)
      obtain ⟨bb, hbb, rfl⟩ := ix_ex (x := b) (n := 101) (by omega) (by omega)
      rw [ix_nI (show aa < 2147483648 by omega)] at hA hB p4 p5
      rw [ix_nI (show bb < 2147483648 by omega)] at hA hB p4
      rw [ix_nI (by omega)] at g2 g3 g4 g5 rw1 bi hA hB ⊢
      generalize (cG c dd).2.2.1 = L at *
      generalize (cG c dd).2.2.2 = e at *
      have l0 : nI L ≤ (0 : Int32) ↔ L ≤ 0 := nI_le31 (b := 0) (by omega) (by omega)
      have rng : ∀ x : Bool, (x = true ↔ 1 ≤ L) → ∃ n, lp_X13_knew_91 QJ0 n 87 (nI dd) (nI bb) (nI aa) p (bI x) 0 M1 := by
        intro x hx
        refine for_up (fun m i => ∀ y : Bool, (y = true ↔ (1 ≤ L ∧ ∀ j, j < i → 0 ≤ e j ∧ e j < 3)) → lp_X13_knew_91 QJ0 m 87 (nI dd) (nI bb) (nI aa) p (bI y) (nI i) M1) L (fun m y hy => ?_) (fun m i hi ih y hy => ?_) |> fun ⟨m, h⟩ => ⟨m, h x ⟨fun q => ⟨hx.mp q, fun j hj => absurd hj (by omega)⟩, fun q => hx.mpr q.1⟩⟩
        · unfold lp_X13_knew_91
          rw [h1.1.r53, h1.1.n53, nI_clamp (by omega), g5]
          refine ⟨h1.1.1, h1.1.k53, vp_in_nI hdd (by omega), fun _ => ⟨fun z => ?_, fun z => ?_⟩, fun z => absurd (nI_le (Nat.le_refl _) (by omega)) z⟩
          · have yy : y = true := by cases y; (exact absurd rfl z); rfl
            have hc := hy.mp yy
            refine S_R_isReady h1.1 h1.2.1 (fun r => ⟨fun _ => ⟨h1.1.1, S_R_setChances h1.1 h1.2.1 (fun M2 f2 i2 => ?_)⟩, fun z => absurd z (by decide)⟩) (fun r => ⟨fun z => absurd rfl z, fun _ => hC (bi.mpr hc) r⟩)
            have h2 := h1.mi f2
            have r2 := rw1.fg f2 (fun a k q => by simp only [miC] at q; omega)
            rw [h2.1.r53, h2.1.n53, r2.2.1]
            refine ⟨h2.1.1, h2.1.k53, vp_in_nI hdd (by omega), fun y1 hy1 => ?_⟩
            have ey : y1 = nI (L - 1) := by rw [hy1, show (1 : Int32) = nI 1 from rfl, pk_sub hc.1]
            rw [ey]
            exact kn_go h2 hdd ⟨hc.1, g4⟩ r2 hc.2 p4 p5 (by omega) i2 (fun x3 M3 f3 => hA (bi.mpr hc) r x3 M3 ((f1.t2 f2.mi8).t2 f3.mi8) (h2.mi f3)) (fun k hk x3 M3 f3 => hB (bi.mpr hc) r k hk x3 M3 ((f1.t2 f2.mi8).t2 f3.mi8) (h2.mi f3))
          · exact hD (mt bi.mp (mt hy.mpr (bI_0.mp z)))
        · unfold lp_X13_knew_91
          rw [h1.1.r53, h1.1.n53, h1.1.r54, h1.1.n54, at118 hdd (by omega), nI_clamp (by omega), nI_clamp (by omega), g5, (rw1.2.2 i hi).2]
          refine ⟨h1.1.1, h1.1.k53, vp_in_nI hdd (by omega), fun z => absurd z (nI_ge hi (by omega)), fun _ => ⟨fun z => ?_, fun z => ⟨h1.1.k54, vp_in_nI (by omega) (by omega), jI_S 2 (rw1.2.2 i hi).1 (by omega) rfl (fun r => ⟨fun z => absurd z (by decide), fun _ => ?_⟩) (fun r => ⟨fun _ => ?_, fun z => absurd rfl z⟩)⟩⟩⟩
          · have hc := mt hy.mpr (bI_0.mp z)
            have q := ih false ⟨fun z => (by cases z), fun z => absurd ⟨z.1, fun j hj => z.2 j (by omega)⟩ hc⟩
            rw [← nI_1] at q
            exact q
          · have yy : y = true := by cases y; (exact absurd rfl z); rfl
            have hc := hy.mp yy
            have q := ih true ⟨fun _ => ⟨hc.1, fun j hj => by
              by_cases ej : j = i
              · rw [ej]; exact ⟨r.1, by omega⟩
              · exact hc.2 j (by omega)⟩, fun _ => rfl⟩
            rw [← nI_1] at q
            exact q
          · have q := ih false ⟨fun z => (by cases z), fun z => absurd (z.2 i (by omega)) (by omega)⟩
            rw [← nI_1] at q
            exact q
      exact ⟨fun y => rng false ⟨fun z => (by cases z), fun z => by have := l0.mp y; omega⟩, fun y => rng true ⟨fun _ => by have := mt l0.mpr y; omega, fun _ => rfl⟩⟩
    · have z := mt e0.mpr z
      have q := no p2 (by omega) (fun y => z y.2.2)
      rw [← wNo_far] at q
      unfold wNo at q
      rw [if_pos g, if_neg (by omega)] at q; exact q
end REF
