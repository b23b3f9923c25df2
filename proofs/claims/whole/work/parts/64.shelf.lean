/-! SHELVES cleared, filled -/
section SHELF
variable {M : Mem} {q k v s : Nat} {QV0 : Mem → Prop}
theorem S_fill {n : Nat} (hk : mK M q = 20) (hn : mN M q = n) (hn2 : n < 2147483648) (hQ : ∀ M', Fr (fun x => x = q) M M' → (∀ i, i < n → mI M' q i = 0) → QV0 M') : wp_J7_fill_53178 q 0 M QV0 := by
  refine ⟨hk, fun y1 e1 => ?_⟩
  rw [hn] at e1
  have e1 : y1 = nI n := e1
  rw [e1]
  refine for_up (fun m i => ∀ M', Fr (fun x => x = q) M M' → (∀ j, j < i → mI M' q j = 0) → lp_J7_fill_53178_5 QV0 m q 0 (nI i) (nI n) M') n (fun m M' f hz => ?_) (fun m i hi ih M' f hz => ?_) |> fun ⟨m, hm⟩ => ⟨m, hm M Fr.rf (fun j hj => absurd hj (by omega))⟩
  · unfold lp_J7_fill_53178_5
    exact ⟨fun _ => hQ M' f hz, fun z => absurd (nI_le (Nat.le_refl _) (by omega)) z⟩
  · unfold lp_J7_fill_53178_5
    rw [f.K, f.N, hn, nI_clamp (by omega)]
    refine ⟨fun z => absurd z (nI_ge hi (by omega)), fun _ => ⟨hk, vp_in_nI hi (by omega), fun M8 e8 => ?_⟩⟩
    rw [nI_1]
    refine ih M8 (by rw [e8]; exact f.t2 (Fr.uI rfl)) (fun j hj => ?_)
    rw [e8, mI_uI, if_pos rfl]
    by_cases c : j = i
    · rw [if_pos c]
    · rw [if_neg c]; exact hz j (by omega)
end SHELF
