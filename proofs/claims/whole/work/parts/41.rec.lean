/-! THE REFERENCE KEEPS A STATE: the shift, and both together -/
theorem rec10L {k : Nat} (hk : k = 5) : ∀ (d i m : Nat) (τ : gM), i + d = 540 → d < m → τ 124 2 = nI k → ∃ τ', fX9_records_10 124 m τ (nI i) = fX9_records_51 124 gF τ' 0 ∧ (∀ c, c ≠ 124 → c ≠ 126 → τ' c = τ c) ∧ τ' 124 2 = nI 4 ∧ (∀ j, j ≠ 2 → τ' 124 j = τ 124 j) ∧ (∀ y, i ≤ y → y < 540 → τ' 126 y = τ 126 (y + 135)) ∧ (∀ y, y < i → τ' 126 y = τ 126 y) := by
  intro d
  induction d with
  | zero =>
    intro i m τ hi hm z
    obtain ⟨m, rfl⟩ : ∃ q, m = q + 1 := ⟨m - 1, by omega⟩
    obtain rfl : i = 540 := by omega
    refine ⟨gset τ 124 (upd (τ 124) 2 (nI 4)), ?_, fun c h1 h2 => gset_ne h1, ?_, fun j hj => ?_, fun x h1 h2 => by omega, fun y _ => ?_⟩
    · rw [fX9_records_10, if_pos (show (540 : Int32) ≤ nI 540 by decide), gl_e, z, hk, show nI 5 - 1 = nI 4 from nI_pred 4]
    · rw [gset_at, pk_us]
    · rw [gset_at, pk_un hj]
    · rw [gset_ne (by decide)]
  | succ d ih =>
    intro i m τ hi hm z
    obtain ⟨m, rfl⟩ : ∃ q, m = q + 1 := ⟨m - 1, by omega⟩
    obtain ⟨τ', p, a, b, c, e, g⟩ := ih (i + 1) m (gset τ 126 (upd (τ 126) i (τ 126 (i + 135)))) (by omega) (by omega) (by rw [gset_ne (by decide)]; exact z)
    refine ⟨τ', ?_, fun x h1 h2 => (a x h1 h2).trans (gset_ne h2), b, fun j hj => (c j hj).trans (congrFun (gset_ne (by decide)) j), fun y h1 h2 => ?_, fun y hy => ?_⟩
    · rw [fX9_records_10, if_neg (show ¬ (540 : Int32) ≤ nI i from nI_ge (b := 540) (by omega) (by decide)), show nI i + 135 = nI (i + 135) from nIa i 135, if_pos (c126 (by omega)), if_pos (c126 (by omega)), gl_e, gl_e, nI_cl (n := i) (by omega), nI_cl (n := i + 135) (by omega), nIa1]
      exact p
    · by_cases ci : y = i
      · subst ci
        rw [g y (by omega), gset_at, pk_us]
      · rw [e y (by omega) h2, gset_at, pk_un (by omega)]
    · rw [g y (by omega), gset_at, pk_un (by omega)]
theorem rec9 {τ : gM} {k : Nat} (hk : k ≤ 5) (z : τ 124 2 = nI k) : ∃ τ', fX9_records τ 124 = some τ' ∧ (∀ c, c ≠ 124 → c ≠ 126 → τ' c = τ c) ∧ τ' 124 2 = nI (kN k) ∧ (∀ j, j ≠ 2 → τ' 124 j = τ 124 j) ∧ ∀ i x, i < kN k → x < 135 → τ' 126 (135 * i + x) = kG k (fun i x => τ 126 (135 * i + x)) (τ 125) i x := by
  unfold fX9_records kN
  by_cases c5 : k < 5
  · obtain ⟨τ', p, a, b, c, e, g⟩ := rec51L c5 135 0 gF τ rfl (gF_lt (by decide)) z
    refine ⟨τ', ?_, a, ?_, c, fun i x hi hx => ?_⟩
    · rw [z, if_neg (show ¬ nI k = 5 from fun q => by have := (nI_eq (b := 5) (by omega) (by decide)).mp q; omega)]
      exact p
    · rw [if_pos c5]
      exact b
    · rw [if_pos c5] at hi
      unfold kG
      rw [if_pos c5]
      by_cases ci : i < k
      · rw [if_pos ci]
        exact g _ (by omega)
      · obtain rfl : i = k := by omega
        rw [if_neg ci]
        exact e x (by omega) hx
  · obtain rfl : k = 5 := by omega
    obtain ⟨τ1, p1, a1, b1, c1, e1, g1⟩ := rec10L rfl 540 0 gF τ rfl (gF_lt (by decide)) z
    obtain ⟨τ', p, a, b, c, e, g⟩ := rec51L (k := 4) (by decide) 135 0 gF τ1 rfl (gF_lt (by decide)) b1
    refine ⟨τ', ?_, fun x h1 h2 => (a x h1 h2).trans (a1 x h1 h2), b, fun j hj => (c j hj).trans (c1 j hj), fun i x hi hx => ?_⟩
    · rw [z, if_pos (show nI 5 = 5 from rfl)]
      exact p1.trans p
    · have hi : i < 5 := hi
      show τ' 126 (135 * i + x) = (if i < 4 then (fun i x => τ 126 (135 * i + x)) (i + 1) else τ 125) x
      by_cases ci : i < 4
      · rw [if_pos ci, g _ (by omega), e1 _ (by omega) (by omega)]
        show τ 126 (135 * i + x + 135) = τ 126 (135 * (i + 1) + x)
        rw [show 135 * i + x + 135 = 135 * (i + 1) + x by omega]
      · obtain rfl : i = 4 := by omega
        rw [if_neg ci, e x (by omega) hx, a1 125 (by decide) (by decide)]
