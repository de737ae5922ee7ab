/-! THE BEST PLACE ON THE REFERENCE'S SIDE -/
theorem bst9L {τ0 : gM} {w h n s k : Nat} (O : OKf (τ0 125) w h n) (hs : s < n) (hk : k < w * h) (hv : sc (τ0 125) n k = none) (K : gM → Int32 → Int32 → Int32 → Option (Int32 × gM)) : ∀ (d i m : Nat) (p : Int32 × Int32) (τ : gM), i + d = 8 → d < m → Off2 τ0 τ → ∃ τ', Off2 τ0 τ' ∧ fX9_best_19 K 124 (nI s) m τ p.1 p.2 (nI k) (nI i) = K τ' (up2 (hB (τ0 125) w h n s k) d i p).1 (up2 (hB (τ0 125) w h n s k) d i p).2 (nI (k + 1)) := by
  have n12 := O.2.1.2.2.2.2
  intro d
  induction d with
  | zero =>
    intro i m p τ hi hm F
    obtain ⟨m, rfl⟩ : ∃ q, m = q + 1 := ⟨m - 1, by omega⟩
    obtain rfl : i = 8 := by omega
    refine ⟨τ, F, ?_⟩
    rw [fX9_best_19, if_pos i8e, gl_e, nIa1]
    rfl
  | succ d ih =>
    intro i m p τ hi hm F
    obtain ⟨m, rfl⟩ : ∃ q, m = q + 1 := ⟨m - 1, by omega⟩
    have e1 : τ 125 = τ0 125 := F 125 (by decide) (by decide)
    have O1 : OKf (τ 125) w h n := by rw [e1]; exact O
    obtain ⟨τ1, p1, o1⟩ := cli9 (τ := τ) (s := s) (k := k) (o := i) O1 hs hk (by omega)
    have e2 : τ1 125 = τ0 125 := (F.tr o1) 125 (by decide) (by decide)
    rw [e1] at p1
    rw [fX9_best_19, if_neg (i8 (by omega)), sca9 O1.1.2.2 n12, Option.bind_some, e1, hv, if_pos oI_n, sea9 O1 hs hk, Option.bind_some, e1, p1, bp]
    show ∃ τ', Off2 τ0 τ' ∧ _ = K τ' (up2 (hB (τ0 125) w h n s k) d (i + 1) (hB (τ0 125) w h n s k i p)).1 (up2 (hB (τ0 125) w h n s k) d (i + 1) (hB (τ0 125) w h n s k i p)).2 (nI (k + 1))
    by_cases c : nI (nSm (τ0 125) w h n s k) ≤ p.2
    · rw [if_pos c, gl_e, nIa1, show hB (τ0 125) w h n s k i p = p from if_pos c]
      exact ih (i + 1) m p τ (by omega) (by omega) F
    · rw [if_neg c, show hB (τ0 125) w h n s k i p = if nFlt (τ0 125) w h n s k i = 0 then (nI (10 * k + i), nI (nSm (τ0 125) w h n s k)) else p from if_neg c]
      by_cases c2 : nFlt (τ0 125) w h n s k i = 0
      · rw [if_pos c2, if_pos c2, if_neg n10, gl_e, sea9 (τ := τ1) (by rw [e2]; exact O) hs hk, Option.bind_some, gl_e, nIa1, e2, show (10 : Int32) = nI 10 from rfl, pk_mul, nIa]
        exact ih (i + 1) m (nI (10 * k + i), nI (nSm (τ0 125) w h n s k)) τ1 (by omega) (by omega) (F.tr o1)
      · rw [if_neg c2, if_neg c2, if_pos rfl, gl_e, nIa1]
        exact ih (i + 1) m p τ1 (by omega) (by omega) (F.tr o1)
