/-! p25: HOLDS: THE PLACES, THE SCRAPS -/
variable {σ : gM} {w h n : Nat} {f : Nat → Int32}
theorem gF_s : ∃ q, gF = q + 1 := ⟨999999999999999999, rfl⟩
theorem sO_n : sO none = -1004 := rfl
theorem sO_s (v : Nat) : sO (some v) = nI v := rfl
theorem neg4 : ¬ (0 : Int32) ≤ -1004 := by decide
theorem lt4 : (-1004 : Int32) < 0 := by decide
theorem nI_0le {v : Nat} (h : v < 2 ^ 31) : (0 : Int32) ≤ nI v := nI_pos' h
section PLACE
variable {K : gM → Int32 → Int32 → Int32 → Int32 → Int32 → Int32 → Option (Int32 × gM)} {x3 x4 x5 : Int32} {i : Nat}
theorem h259 {x1 x2 : Int32} : fL_holds_259 K 0 gF σ x1 x2 x3 x4 x5 (nI i) = K σ x1 x2 x3 x4 x5 (nI (i + 1)) := by
  obtain ⟨q, e⟩ := gF_s
  rw [e, fL_holds_259, gl_e, nIa1]
theorem h196 (D : DDo σ 1 f w h n) (hi : i < w * h) : fL_holds_196 K 0 gF σ (nI w) (nI h) x3 x4 x5 (nI i) (sO (sc f n i)) = K σ (nI w) (nI h) x3 x4 x5 (nI (i + 1)) := by
  obtain ⟨q, e⟩ := gF_s
  obtain ⟨w1, w6, h1, h6, n12⟩ := D.2.1.2.1
  have hwh := wh_le w6 h6
  rw [e, fL_holds_196]
  cases hs : sc f n i with
  | none => rw [sO_n, if_pos lt4]; exact h259
  | some s =>
    have hsn := (sc_lt hs).1
    rw [sO_s, if_neg (nI_pos (by omega)), pk_mul, nIa]
    by_cases c : i + w < w * h
    · have hb : bh w h i 2 = some (i + w) := by rw [bh_2, if_pos c]
      rw [if_neg (nI_ge c (by omega)), show fX8_reason σ 0 (nI i) 2 = _ from rea_p D (e := 2) hi (by decide) hs, Option.bind_some, at_p D c, Option.bind_some]
      cases hv : sc f n (i + w) with
      | none =>
        have hr : rs f w h n s i (ovN f s) 2 = -1 := by
          unfold rs
          rw [hb, rsP_s, hv]
          rfl
        rw [sO_n, if_neg neg4, if_pos hr, if_pos rfl]
        exact h259
      | some v =>
        have hvn := (sc_lt hv).1
        have hsv : v ≠ s := fun q => by
          have h1 := (sc_lt hs).2
          have h2 := (sc_lt hv).2
          rw [q] at h2
          have := (nI_eq (by omega) (by omega)).mp (h1.symm.trans h2)
          omega
        obtain ⟨r1, r2⟩ := rs_symm D.2.1 hi (by decide) hb hs hv hsv
        have r1 : rs f w h n s i (ovN f s) 2 = rs f w h n v (i + w) (ovN f v) 0 := r1
        rw [sO_s, if_pos (nI_0le (by omega)), show fX8_reason σ 0 (nI (i + w)) 0 = _ from rea_p D (e := 0) c (by decide) hv, Option.bind_some, r1, if_pos rfl]
        exact h259
    · rw [if_pos (nI_le (by omega) (by omega))]
      exact h259
theorem h133 (D : DDo σ 1 f w h n) (hi : i < w * h) : fL_holds_133 K 0 gF σ (nI w) (nI h) x3 x4 x5 (nI i) (sO (sc f n i)) = K σ (nI w) (nI h) x3 x4 x5 (nI (i + 1)) := by
  obtain ⟨q, e⟩ := gF_s
  obtain ⟨w1, w6, h1, h6, n12⟩ := D.2.1.2.1
  have hwh := wh_le w6 h6
  have z196 := h196 (K := K) (x3 := x3) (x4 := x4) (x5 := x5) D hi
  rw [e, fL_holds_133]
  cases hs : sc f n i with
  | none =>
    rw [hs, sO_n] at z196
    rw [sO_n, if_pos lt4]
    exact z196
  | some s =>
    have hsn := (sc_lt hs).1
    rw [hs, sO_s] at z196
    rw [sO_s, if_neg (nI_pos (by omega)), if_pos (nI_ne0 w1 (by omega)), nIs1 w1, pk_rem (by omega) w1 (by omega)]
    by_cases c : i % w + 1 < w
    · have hb : bh w h i 1 = some (i + 1) := by rw [bh_1, if_pos c]
      have hi1 : i + 1 < w * h := bh_lt w1 hi hb
      rw [if_neg (nI_ge (by omega) (by omega)), show fX8_reason σ 0 (nI i) 1 = _ from rea_p D (e := 1) hi (by decide) hs, Option.bind_some, nIa1, at_p D hi1, Option.bind_some]
      cases hv : sc f n (i + 1) with
      | none =>
        have hr : rs f w h n s i (ovN f s) 1 = -1 := by
          unfold rs
          rw [hb, rsP_s, hv]
          rfl
        rw [sO_n, if_neg neg4, if_pos hr, if_pos rfl]
        exact z196
      | some v =>
        have hvn := (sc_lt hv).1
        have hsv : v ≠ s := fun q => by
          have h1 := (sc_lt hs).2
          have h2 := (sc_lt hv).2
          rw [q] at h2
          have := (nI_eq (by omega) (by omega)).mp (h1.symm.trans h2)
          omega
        obtain ⟨r1, r2⟩ := rs_symm D.2.1 hi (by decide) hb hs hv hsv
        have r1 : rs f w h n s i (ovN f s) 1 = rs f w h n v (i + 1) (ovN f v) 3 := r1
        rw [sO_s, if_pos (nI_0le (by omega)), show fX8_reason σ 0 (nI (i + 1)) 3 = _ from rea_p D (e := 3) hi1 (by decide) hv, Option.bind_some, r1, if_pos rfl]
        exact z196
    · rw [if_pos (nI_le (by omega) (by have := Nat.mod_lt i w1; omega))]
      exact z196
theorem h109 (D : DDo σ 1 f w h n) (hi : i < w * h) : fL_holds_109 K 0 gF σ (nI w) (nI h) x3 x4 x5 (nI i) (sO (sc f n i)) = K σ (nI w) (nI h) x3 x4 x5 (nI (i + 1)) := by
  obtain ⟨q, e⟩ := gF_s
  obtain ⟨w1, w6, h1, h6, n12⟩ := D.2.1.2.1
  have hwh := wh_le w6 h6
  have z133 := h133 (K := K) (x3 := x3) (x4 := x4) (x5 := x5) D hi
  rw [e, fL_holds_109]
  cases hs : sc f n i with
  | none =>
    rw [hs, sO_n] at z133
    rw [sO_n, if_pos lt4]
    exact z133
  | some s =>
    have hsn := sc_lt hs
    rw [hs, sO_s] at z133
    rw [sO_s, if_neg (nI_pos (by omega)), scr_2 D hsn.1 (by rw [hsn.2]; exact m1_ne (by omega)), bp, if_pos hsn.2]
    exact z133
end PLACE
def gOn (f : Nat → Int32) (n i a : Nat) : Nat := a + if sc f n i = none then 0 else 1
theorem h75 (D : DDo σ 1 f w h n) {x4 x5 : Int32} : ∀ (d i m a : Nat), i + d = w * h → d < m → fL_holds_75 0 m σ (nI w) (nI h) (nI a) x4 x5 (nI i) = fL_holds_271 0 gF σ (nI (up (gOn f n) d i a)) x4 x5 0 0 := by
  obtain ⟨w1, w6, h1, h6, n12⟩ := D.2.1.2.1
  have hwh := wh_le w6 h6
  intro d
  induction d with
  | zero =>
    intro i m a hi hm
    obtain ⟨m, rfl⟩ : ∃ q, m = q + 1 := ⟨m - 1, by omega⟩
    rw [fL_holds_75, pk_mul, if_pos (nI_le (by omega) (by omega)), up_0]
  | succ d ih =>
    intro i m a hi hm
    obtain ⟨m, rfl⟩ : ∃ q, m = q + 1 := ⟨m - 1, by omega⟩
    have hi' : i < w * h := by omega
    have e : (nI a) + (if 0 ≤ sO (sc f n i) then (1 : Int32) else (0 : Int32)) = nI (gOn f n i a) := by
      unfold gOn
      cases hs : sc f n i with
      | none => rw [sO_n, if_neg neg4, if_pos rfl]; exact nIa a 0
      | some s =>
        have := (sc_lt hs).1
        rw [sO_s, if_pos (nI_0le (by omega)), if_neg (by simp)]
        exact nIa a 1
    rw [fL_holds_75, pk_mul, if_neg (nI_ge hi' (by omega)), at_p D hi', Option.bind_some, gl_e, gl_e, e, h109 D hi']
    exact ih (i + 1) m _ (by omega) (by omega)
/-! the scraps -/
section SCRAP
variable {K : gM → Int32 → Int32 → Int32 → Int32 → Int32 → Option (Int32 × gM)} {x3 x4 x7 : Int32} {i b : Nat}
theorem h338 {x5 : Int32} : fL_holds_338 K 0 gF σ x3 x4 x5 x7 (nI i) = K σ x3 x4 x5 x7 (nI (i + 1)) := by
  obtain ⟨q, e⟩ := gF_s
  rw [e, fL_holds_338, gl_e, nIa1]
theorem h312 (D : DDo σ 1 f w h n) (hi : i < n) : fL_holds_312 K 0 gF σ x3 x4 (nI b) x7 (nI i) = K σ x3 x4 (nI (b + tFlt f w h n i)) x7 (nI (i + 1)) := by
  obtain ⟨q, e⟩ := gF_s
  obtain ⟨w1, w6, h1, h6, n12⟩ := D.2.1.2.1
  have hwh := wh_le w6 h6
  rw [e, fL_holds_312]
  rcases D.2.1.pn hi with c | ⟨hp, c⟩
  · rw [scr_no D hi c (Or.inl rfl), bp, if_neg neg4, gl_e]
    have e0 : tFlt f w h n i = 0 := if_pos c
    rw [e0, show nI b + 0 = nI (b + 0) from nIa b 0]
    exact h338
  · have c0 : f (123 + i) ≠ -1 := by rw [c]; exact m1_ne (by omega)
    have e0 : tFlt f w h n i = nFlt f w h n i (pN f i) (ovN f i) := if_neg c0
    rw [scr_2 D hi c0, bp, c, if_pos (nI_0le (by omega)), scr_5 D hi hp c, bp, gl_e, nIa, e0]
    exact h338
end SCRAP
theorem h271 (D : DDo σ 1 f w h n) {x3 x7 : Int32} : ∀ (d i m a b : Nat), i + d = n → d < m → fL_holds_271 0 m σ x3 (nI a) (nI b) x7 (nI i) = fL_holds_347 0 gF σ x3 (nI (up (fun s a => a + tFit f w h n s) d i a)) (nI (up (fun s a => a + tFlt f w h n s) d i b)) x7 0 := by
  obtain ⟨w1, w6, h1, h6, n12⟩ := D.2.1.2.1
  have hwh := wh_le w6 h6
  intro d
  induction d with
  | zero =>
    intro i m a b hi hm
    obtain ⟨m, rfl⟩ : ∃ q, m = q + 1 := ⟨m - 1, by omega⟩
    rw [fL_holds_271, cnt_0 D, bp, if_pos (nI_le (by omega) (by omega)), up_0, up_0]
  | succ d ih =>
    intro i m a b hi hm
    obtain ⟨m, rfl⟩ : ∃ q, m = q + 1 := ⟨m - 1, by omega⟩
    have hi' : i < n := by omega
    rw [fL_holds_271, cnt_0 D, bp, if_neg (nI_ge hi' (by omega)), up_s, up_s]
    rcases D.2.1.pn hi' with c | ⟨hp, c⟩
    · have e0 : tFit f w h n i = 0 := if_pos c
      rw [scr_no D hi' c (Or.inl rfl), bp, if_neg neg4, gl_e, show nI a + 0 = nI (a + 0) from nIa a 0, h312 D hi', e0]
      exact ih (i + 1) m _ _ (by omega) (by omega)
    · have c0 : f (123 + i) ≠ -1 := by rw [c]; exact m1_ne (by omega)
      have e0 : tFit f w h n i = nFit f w h n i (pN f i) (ovN f i) := if_neg c0
      rw [scr_2 D hi' c0, bp, c, if_pos (nI_0le (by omega)), scr_4 D hi' hp c, bp, gl_e, nIa, h312 D hi', e0]
      exact ih (i + 1) m _ _ (by omega) (by omega)
