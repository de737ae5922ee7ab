/-! THE BEST PLACE: the reference, and the call -/
theorem bso9L {τ0 : gM} {w h n s : Nat} (O : OKf (τ0 125) w h n) (hs : s < n) : ∀ (d i m : Nat) (p : Int32 × Int32) (τ : gM), i + d = w * h → d < m → Off2 τ0 τ → ∃ τ', Off2 τ0 τ' ∧ fX9_best_7 124 (nI s) m τ p.1 p.2 (nI i) = some ((up2 (hP (τ0 125) w h n s) d i p).1, τ') := by
  obtain ⟨w1, w6, h1, h6, n12⟩ := O.2.1
  have hwh := wh_le w6 h6
  intro d
  induction d with
  | zero =>
    intro i m p τ hi hm F
    obtain ⟨m, rfl⟩ : ∃ q, m = q + 1 := ⟨m - 1, by omega⟩
    have e1 : τ 125 = τ0 125 := F 125 (by decide) (by decide)
    refine ⟨τ, F, ?_⟩
    rw [fX9_best_7, pls9 (by rw [e1]; exact O), Option.bind_some, if_pos (nI_le (by omega) (by omega))]
    rfl
  | succ d ih =>
    intro i m p τ hi hm F
    obtain ⟨m, rfl⟩ : ∃ q, m = q + 1 := ⟨m - 1, by omega⟩
    have e1 : τ 125 = τ0 125 := F 125 (by decide) (by decide)
    have O1 : OKf (τ 125) w h n := by rw [e1]; exact O
    rw [fX9_best_7, pls9 O1, Option.bind_some, if_neg (nI_ge (by omega) (by omega))]
    show ∃ τ', Off2 τ0 τ' ∧ _ = some ((up2 (hP (τ0 125) w h n s) d (i + 1) (hP (τ0 125) w h n s i p)).1, τ')
    cases hv : sc (τ0 125) n i with
    | none =>
      have e : hP (τ0 125) w h n s i p = up2 (hB (τ0 125) w h n s i) 8 0 p := if_pos hv
      obtain ⟨τ1, F1, q1⟩ := bst9L O hs (k := i) (by omega) hv (fun σ2 y2 y3 y4 => fX9_best_7 124 (nI s) m σ2 y2 y3 y4) 8 0 gF p τ rfl (gF_lt (by decide)) F
      obtain ⟨τ2, F2, q2⟩ := ih (i + 1) m (up2 (hB (τ0 125) w h n s i) 8 0 p) τ1 (by omega) (by omega) F1
      rw [e]
      exact ⟨τ2, F2, q1.trans q2⟩
    | some v =>
      have hvn := (sc_lt hv).1
      have e : hP (τ0 125) w h n s i p = p := if_neg (fun q => by rw [hv] at q; cases q)
      obtain ⟨g, hg⟩ := gF4
      rw [hg, fX9_best_19, if_neg (show ¬ (8 : Int32) ≤ 0 by decide), sca9 O1.1.2.2 n12, Option.bind_some, e1, hv, oI_s, if_neg (m1_ne (by omega)), gl_e, nIa1, e]
      exact ih (i + 1) m p τ (by omega) (by omega) F
theorem bsp9 {τ : gM} {w h n s : Nat} (O : OKf (τ 125) w h n) (hs : s < n) : ∃ τ', Off2 τ τ' ∧ fX9_best τ 124 (nI s) = some (bsP (τ 125) w h n s, τ') := by
  obtain ⟨w1, w6, h1, h6, n12⟩ := O.2.1
  have hwh := wh_le w6 h6
  exact bso9L O hs (w * h) 0 gF (-1, -1) τ (by omega) (gF_lt (by omega)) Off2.rf
theorem step_bestFor : gs_bestFor RR := by
  intro σ τ a1 R
  obtain ⟨w, h, n, D⟩ := R.1
  have O := D.2.1
  obtain ⟨w1, w6, h1, h6, n12⟩ := O.2.1
  unfold fX8_bestFor fX9_bestFor
  rw [isc8 D, isc9 O, Option.bind_some, Option.bind_some]
  rcases inN a1 (n := n) (by omega) with c | ⟨s, hs, rfl, c⟩
  · rw [c, if_pos rfl, if_pos rfl]
    exact ⟨_, _, rfl, rfl, R⟩
  · obtain ⟨τ', F, q⟩ := bsp9 (τ := τ) O hs
    rw [c, if_neg n10, if_neg n10, show fX4_lies σ (0 + 1 + 8) (nI s) = _ from lie8 D hs, on9 O hs, Option.bind_some, Option.bind_some, show fX0_bestPlace σ (0 + 1) (nI s) = _ from bsp8 D hs, q, bp, Option.bind_some]
    by_cases c : τ 125 (123 + s) = -1
    · rw [if_pos c, if_pos rfl, if_pos rfl]
      by_cases c2 : bsP (τ 125) w h n s = -1
      · rw [if_pos c2, if_pos c2]
        exact ⟨_, _, rfl, rfl, R.off F⟩
      · rw [if_neg c2, if_neg c2]
        exact ⟨_, _, rfl, rfl, R.off F⟩
    · rw [if_neg c, if_neg n10, if_neg n10]
      exact ⟨_, _, rfl, rfl, R⟩
