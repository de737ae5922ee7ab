/-! TYPING -/
theorem DDo.mv {σ σ' : gM} {d w h n : Nat} {f : Nat → Int32} (D : DDo σ d f w h n) (A : ∀ k, d + 1 ≤ k → k ≤ d + 14 → σ' k = σ k) : DDo σ' d f w h n := by
  unfold DDo DDc
  rw [A (d + 1) (by omega) (by omega), A (d + 8) (by omega) (by omega), A (d + 3) (by omega) (by omega), A (d + 5) (by omega) (by omega), A (d + 7) (by omega) (by omega), A (d + 10) (by omega) (by omega), A (d + 12) (by omega) (by omega), A (d + 14) (by omega) (by omega)]
  exact D
/-- the text on both sides -/
def TT (σ τ : gM) : Prop := ∃ L, L ≤ 60 ∧ σ 111 2 = nI L ∧ τ 124 4 = nI L ∧ ∀ j, j < L → ∃ c, 32 ≤ c ∧ c ≤ 126 ∧ σ 113 j = nI c ∧ τ 127 j = nI c
theorem RR.txt {σ σ' τ τ' : gM} (R : RR σ τ) (A : ∀ k, k ≤ 107 → σ' k = σ k) (e5 : τ' 125 = τ 125) (e6 : τ' 126 = τ 126) (e2 : τ' 124 2 = τ 124 2) (T : TT σ' τ') : RR σ' τ' := by
  obtain ⟨⟨w, hh, n, D⟩, ⟨k, o, hk, ho, r1, r2, r3, H⟩, -⟩ := R
  refine ⟨⟨w, hh, n, ?_⟩, ⟨k, o, hk, ho, by rw [A 31 (by decide)]; exact r1, by rw [e2]; exact r2, by rw [A 31 (by decide)]; exact r3, fun i hi => ?_⟩, T⟩
  · rw [e5]
    exact D.mv (fun k _ h => A k (by omega))
  · obtain ⟨w, hh, n, D⟩ := H i hi
    refine ⟨w, hh, n, ?_⟩
    rw [e6]
    exact D.mv (fun k _ h => A k (by omega))
theorem RR.cls {σ σ' τ : gM} (R : RR σ τ) (h : ∀ k, k ≤ 107 → σ' k = σ k) (h2 : σ' 111 2 = σ 111 2) (h3 : σ' 113 = σ 113) : RR σ' τ := by
  refine R.txt h rfl rfl rfl ?_
  unfold TT
  rw [h2, h3]
  exact R.2.2
theorem inC (x : Int32) : inI x 32 126 = 0 ∨ ∃ c, 32 ≤ c ∧ c ≤ 126 ∧ x = nI c ∧ inI x 32 126 = 1 := by
  unfold inI
  by_cases c1 : x < 32
  · exact Or.inl (if_pos c1)
  · by_cases c2 : 126 < x
    · rw [if_neg c1, if_pos c2]; exact Or.inl rfl
    · have e1 : ¬ x.toInt < 32 := fun q => c1 (Int32.lt_iff_toInt_lt.mpr q)
      have e2 : ¬ 126 < x.toInt := fun q => c2 (Int32.lt_iff_toInt_lt.mpr q)
      obtain ⟨j, hj, rfl⟩ := nI_of (x := x) (fun q => by have : x.toInt < 0 := Int32.lt_iff_toInt_lt.mp q; omega)
      rw [nI_toInt hj] at e1 e2
      rw [if_neg c1, if_neg c2]
      exact Or.inr ⟨j, by omega, by omega, rfl, rfl⟩
theorem step_clearText : gs_clearText RR := by
  intro σ τ R
  obtain ⟨L, hL, t1, t2, T⟩ := R.2.2
  refine ⟨nI L, gset σ 111 (upd (σ 111) 2 0), gset τ 124 (upd (τ 124) 4 0), ?_, ?_, ?_⟩
  · show some (σ 111 2, _) = _
    rw [t1]
  · show some (τ 124 4, _) = _
    rw [t2]
  · exact R.txt (fun k hk => gset_ne (by omega)) rfl rfl rfl ⟨0, by omega, rfl, rfl, fun j hj => by omega⟩
theorem step_type : gs_type RR := by
  intro σ τ a1 R
  obtain ⟨L, hL, t1, t2, T⟩ := R.2.2
  unfold fX8_type fX9_type
  rw [in8e, in9e, Option.bind_some, Option.bind_some]
  rcases inC a1 with c | ⟨c, hc1, hc2, rfl, ci⟩
  · rw [c, if_pos rfl, if_pos rfl]
    exact ⟨_, _, _, rfl, rfl, R⟩
  · rw [ci, if_neg n10, if_neg n10, show fX7_length σ (0 + 111) = some (nI L) from congrArg some t1, Option.bind_some, t2]
    by_cases c60 : L = 60
    · subst c60
      rw [if_neg (show ¬ nI 60 < 60 by decide), if_pos (show nI 60 = 60 from rfl)]
      exact ⟨_, _, _, rfl, rfl, R⟩
    · have h60 : nI L < 60 := nI_lt (b := 60) (by omega) (by decide)
      rw [if_pos h60, if_neg (show ¬ nI L = 60 from fun q => c60 ((nI_eq (b := 60) (by omega) (by decide)).mp q))]
      refine ⟨nI (L + 1), gset (gset σ 113 (upd (σ 113) L (nI c))) 111 (upd (σ 111) 2 (nI (L + 1))), gset (gset τ 127 (upd (τ 127) L (nI c))) 124 (upd (τ 124) 4 (nI (L + 1))), ?_, ?_, ?_⟩
      · unfold fX7_append
        rw [show σ (0 + 111) 2 = nI L from t1, if_neg (show ¬ (60 : Int32) ≤ nI L from nI_ge (b := 60) (by omega) (by decide)), set_in (show L < gln (0 + 111 + 1 + 1) by show L < 60; omega), Option.bind_some, gl_e, show gset σ (0 + 111 + 1 + 1) (upd (σ (0 + 111 + 1 + 1)) L (nI c)) (0 + 111) 2 = nI L from t1, nIa1]
        rfl
      · rw [if_pos (nI_in (N := gln (124 + 3)) (show L < 60 by omega) (by decide)), nI_cl (by omega), pk_vc, pk_char, pk_tn (by omega), Nat.mod_eq_of_lt (by omega), gl_e, gl_e, show gset τ (124 + 3) (upd (τ (124 + 3)) L (nI c)) 124 4 = nI L from t2, nIa1]
        rfl
      · refine R.txt (fun k hk => ?_) rfl rfl rfl ⟨L + 1, by omega, rfl, rfl, fun j hj => ?_⟩
        · rw [gset_ne (by omega), gset_ne (by omega)]
        · by_cases cj : j = L
          · exact ⟨c, hc1, hc2, by rw [cj]; exact if_pos rfl, by rw [cj]; exact if_pos rfl⟩
          · obtain ⟨c', h1, h2, h3, h4⟩ := T j (by omega)
            exact ⟨c', h1, h2, (if_neg cj).trans h3, (if_neg cj).trans h4⟩
