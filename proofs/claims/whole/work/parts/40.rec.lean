/-! THE REFERENCE KEEPS A STATE -/
theorem c126 {k : Nat} (h : k < 675) : ¬ (nI k < 0 ∨ gln (124 + 2) ≤ (nI k).toNatClampNeg) := nI_in (show k < 675 from h) (by decide)
theorem ix135 (k i : Nat) : (135 * nI k) + nI i = nI (135 * k + i) := by
  rw [show (135 : Int32) = nI 135 from rfl, pk_mul, nIa]
theorem rec51L {k : Nat} (hk : k < 5) : ∀ (d i m : Nat) (τ : gM), i + d = 135 → d < m → τ 124 2 = nI k → ∃ τ', fX9_records_51 124 m τ (nI i) = some τ' ∧ (∀ c, c ≠ 124 → c ≠ 126 → τ' c = τ c) ∧ τ' 124 2 = nI (k + 1) ∧ (∀ j, j ≠ 2 → τ' 124 j = τ 124 j) ∧ (∀ x, i ≤ x → x < 135 → τ' 126 (135 * k + x) = τ 125 x) ∧ (∀ y, (y < 135 * k + i ∨ 135 * k + 135 ≤ y) → τ' 126 y = τ 126 y) := by
  intro d
  induction d with
  | zero =>
    intro i m τ hi hm z
    obtain ⟨m, rfl⟩ : ∃ q, m = q + 1 := ⟨m - 1, by omega⟩
    obtain rfl : i = 135 := by omega
    refine ⟨gset τ 124 (upd (τ 124) 2 (nI (k + 1))), ?_, fun c h1 h2 => gset_ne h1, ?_, fun j hj => ?_, fun x h1 h2 => by omega, fun y _ => ?_⟩
    · rw [fX9_records_51, if_pos (show (135 : Int32) ≤ nI 135 by decide), gl_e, z, nIa1]
    · rw [gset_at, pk_us]
    · rw [gset_at, pk_un hj]
    · rw [gset_ne (by decide)]
  | succ d ih =>
    intro i m τ hi hm z
    obtain ⟨m, rfl⟩ : ∃ q, m = q + 1 := ⟨m - 1, by omega⟩
    obtain ⟨τ', p, a, b, c, e, g⟩ := ih (i + 1) m (gset τ 126 (upd (τ 126) (135 * k + i) (τ 125 i))) (by omega) (by omega) (by rw [gset_ne (by decide)]; exact z)
    refine ⟨τ', ?_, fun x h1 h2 => (a x h1 h2).trans (gset_ne h2), b, fun j hj => (c j hj).trans (congrFun (gset_ne (by decide)) j), fun x h1 h2 => ?_, fun y hy => ?_⟩
    · rw [fX9_records_51, if_neg (show ¬ (135 : Int32) ≤ nI i from nI_ge (b := 135) (by omega) (by decide)), if_pos (c125 (by omega)), z, ix135, if_pos (c126 (by omega)), gl_e, gl_e, nI_cl (n := i) (by omega), nI_cl (n := 135 * k + i) (by omega), nIa1]
      exact p
    · by_cases ci : x = i
      · subst ci
        rw [g (135 * k + x) (by omega), gset_at, pk_us]
      · rw [e x (by omega) h2, gset_ne (by decide)]
    · rw [g y (by omega), gset_at, pk_un (by omega)]
