/-! THE CLASS KEEPS A STATE -/
/-- the history of the class: k states, g i the i-th -/
def HH (σ : gM) (k : Nat) (g : Nat → Nat → Int32) : Prop := ∃ o, k ≤ 5 ∧ o < 5 ∧ σ 31 2 = nI k ∧ σ 31 1 = nI o ∧ ∀ i, i < k → ∃ w h n, DDo σ (33 + 15 * ((o + i) % 5)) (g i) w h n
/-- what is kept behind a change: the last is new; of five the first goes -/
def kN (k : Nat) : Nat := if k < 5 then k + 1 else 5
def kG (k : Nat) (g : Nat → Nat → Int32) (f : Nat → Int32) (i : Nat) : Nat → Int32 := if k < 5 then (if i < k then g i else f) else (if i < 4 then g (i + 1) else f)
theorem gD_s {o i : Nat} : gD (33 + 15 * ((o + i) % 5)) := gD_h (by omega)
theorem kee8 {σ : gM} {k : Nat} {g : Nat → Nat → Int32} {f : Nat → Int32} {w h n : Nat} (H : HH σ k g) (D : DDo σ 1 f w h n) : ∃ σ', fX3_keep σ 31 1 = some σ' ∧ (∀ c, (c < 31 ∨ 108 ≤ c) → σ' c = σ c) ∧ HH σ' (kN k) (kG k g f) := by
  obtain ⟨o, hk, ho, z2, z1, Z⟩ := H
  by_cases c5 : k < 5
  · obtain ⟨σ1, a1, b1, d1⟩ := dcp (σ := σ) (t := 33 + 15 * ((o + k) % 5)) (o := 1) gD_s gD_1 (by omega)
    have e31 : σ1 31 = σ 31 := b1 31 (by omega)
    refine ⟨gset σ1 31 (upd (σ1 31) 2 (nI (k + 1))), ?_, ?_, ?_⟩
    · unfold fX3_keep
      rw [z2, if_pos (show nI k < 5 from nI_lt (b := 5) c5 (by decide)), sta8 z1 ho (by omega), Option.bind_some]
      show (fX0_copy σ (33 + 15 * ((o + k) % 5)) 1).bind _ = _
      rw [a1, Option.bind_some, gl_e, e31, z2, nIa1]
    · intro c hc
      rw [gset_ne (by omega), b1 c (by omega)]
    · have M : ∀ {d : Nat} {f : Nat → Int32} {w h n : Nat}, 31 < d + 1 → DDo σ1 d f w h n → DDo (gset σ1 31 (upd (σ1 31) 2 (nI (k + 1)))) d f w h n := fun hd D => D.mv (fun c h1 h2 => gset_ne (by omega))
      refine ⟨o, by unfold kN; rw [if_pos c5]; omega, ho, ?_, ?_, ?_⟩
      · unfold kN
        rw [if_pos c5, gset_at, pk_us]
      · rw [gset_at, pk_un (by decide), e31, z1]
      · intro i hi
        unfold kN at hi
        rw [if_pos c5] at hi
        unfold kG
        rw [if_pos c5]
        by_cases ci : i < k
        · obtain ⟨w', h', n', D'⟩ := Z i ci
          rw [if_pos ci]
          exact ⟨w', h', n', M (by omega) (D'.mv (fun c h1 h2 => b1 c (by omega)))⟩
        · obtain rfl : i = k := by omega
          rw [if_neg ci]
          exact ⟨w, h, n, M (by omega) (d1 D)⟩
  · obtain rfl : k = 5 := by omega
    have q1 : ∀ c, c ≠ 31 → gset (gset σ 31 (upd (σ 31) 1 (nI ((o + 1) % 5)))) 31 (upd (gset σ 31 (upd (σ 31) 1 (nI ((o + 1) % 5))) 31) 2 (nI 4)) c = σ c := fun c hc => by rw [gset_ne hc, gset_ne hc]
    have q2 : gset (gset σ 31 (upd (σ 31) 1 (nI ((o + 1) % 5)))) 31 (upd (gset σ 31 (upd (σ 31) 1 (nI ((o + 1) % 5))) 31) 2 (nI 4)) 31 1 = nI ((o + 1) % 5) := rfl
    have q3 : gset (gset σ 31 (upd (σ 31) 1 (nI ((o + 1) % 5)))) 31 (upd (gset σ 31 (upd (σ 31) 1 (nI ((o + 1) % 5))) 31) 2 (nI 4)) 31 2 = nI 4 := rfl
    generalize hs8 : gset (gset σ 31 (upd (σ 31) 1 (nI ((o + 1) % 5)))) 31 (upd (gset σ 31 (upd (σ 31) 1 (nI ((o + 1) % 5))) 31) 2 (nI 4)) = s8 at q1 q2 q3
    have D8 : DDo s8 1 f w h n := D.mv (fun c h1 h2 => q1 c (by omega))
    obtain ⟨σ1, a1, b1, d1⟩ := dcp (σ := s8) (t := 33 + 15 * (((o + 1) % 5 + 4) % 5)) (o := 1) gD_s gD_1 (by omega)
    have e31 : σ1 31 = s8 31 := b1 31 (by omega)
    refine ⟨gset σ1 31 (upd (σ1 31) 2 (nI 5)), ?_, ?_, ?_⟩
    · unfold fX3_keep
      rw [z2, if_neg (show ¬ nI 5 < 5 by decide), z1, nIa1, show (5 : Int32) = nI 5 from rfl, pk_rem (by omega) (by omega) (by omega), gl_e, gl_e, show gset σ 31 (upd (σ 31) 1 (nI ((o + 1) % 5))) 31 2 - 1 = nI 4 from (congrArg (fun x => x - 1) z2).trans (nI_pred 4), hs8, q3, sta8 q2 (by omega) (by decide), Option.bind_some]
      show (fX0_copy s8 (33 + 15 * (((o + 1) % 5 + 4) % 5)) 1).bind _ = _
      rw [a1, Option.bind_some, gl_e, e31, q3]
      rfl
    · intro c hc
      rw [gset_ne (by omega), b1 c (by omega), q1 c (by omega)]
    · have M : ∀ {d : Nat} {f : Nat → Int32} {w h n : Nat}, 31 < d + 1 → DDo σ1 d f w h n → DDo (gset σ1 31 (upd (σ1 31) 2 (nI 5))) d f w h n := fun hd D => D.mv (fun c h1 h2 => gset_ne (by omega))
      refine ⟨(o + 1) % 5, by decide, by omega, ?_, ?_, ?_⟩
      · show gset σ1 31 (upd (σ1 31) 2 (nI 5)) 31 2 = nI 5
        rw [gset_at, pk_us]
      · rw [gset_at, pk_un (by decide), e31, q2]
      · intro i hi
        have hi : i < 5 := hi
        show ∃ w h n, DDo _ _ (if i < 4 then g (i + 1) else f) w h n
        by_cases ci : i < 4
        · obtain ⟨w', h', n', D'⟩ := Z (i + 1) (by omega)
          rw [if_pos ci, show ((o + 1) % 5 + i) % 5 = (o + (i + 1)) % 5 by omega]
          exact ⟨w', h', n', M (by omega) (D'.mv (fun c h1 h2 => by rw [b1 c (by omega), q1 c (by omega)]))⟩
        · obtain rfl : i = 4 := by omega
          rw [if_neg ci]
          exact ⟨w, h, n, M (by omega) (d1 D8)⟩
