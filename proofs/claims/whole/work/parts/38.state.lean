/-! THE HISTORY: which desk holds a state -/
theorem sta8 {σ : gM} {o i : Nat} (h1 : σ 31 1 = nI o) (ho : o < 5) (hi : i < 6) : fX3_state σ 31 (nI i) = some (some (33 + 15 * ((o + i) % 5))) := by
  unfold fX3_state
  rw [h1, nIa, show (5 : Int32) = nI 5 from rfl, pk_rem (by omega) (by omega) (by omega), gl_e, if_neg (nI_pos (by omega)), if_neg (nI_pos (by omega)), if_neg (show ¬ nI (gln (31 + 1)) ≤ nI ((o + i) % 5) from nI_ge (b := 5) (by omega) (by decide)), if_pos (nI_in (N := gln (31 + 1)) (show (o + i) % 5 < 5 by omega) (by decide)), nI_cl (by omega)]
  rw [show 31 + 1 + (1 + 15 * ((o + i) % 5)) = 33 + 15 * ((o + i) % 5) by omega]
