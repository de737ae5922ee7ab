/-! p25: THE TURNS -/
variable {σ : gM} {w h n s : Nat} {f : Nat → Int32}
theorem bac_L (x : Int32) : fL_back σ x = some (rv9 x) := by
  rfl
theorem tP_pv (O : OKf f w h n) (hs : s < n) (o e : Nat) : pv (tP f s o e) := by
  have hp : pv (f (3 + 4 * s + og o e)) := O.pv hs (og_lt o e)
  unfold tP
  split
  · rw [← R1 hp]
    rcases hp with c | ⟨v, hv, c⟩
    · rw [c]; exact Or.inl rfl
    · rw [c, rv9_n hv]
      exact Or.inr ⟨_, (rN_le v (by omega)).1, rfl⟩
  · exact hp
theorem tP_same {o e o' e' : Nat} (h1 : og o' e' = og o e) (h2 : rv o' e' = rv o e) : tP f s o' e' = tP f s o e := by
  unfold tP
  rw [h1, h2]
theorem tP_back (O : OKf f w h n) (hs : s < n) {o e o' e' : Nat} (h1 : og o' e' = og o e) (h2 : rv o' e' = !rv o e) : rv9 (tP f s o e) = tP f s o' e' := by
  have hp : pv (f (3 + 4 * s + og o e)) := O.pv hs (og_lt o e)
  unfold tP
  rw [h1, h2]
  cases rv o e
  · exact R1 hp
  · show rv9 (rev _) = _
    rw [← R1 hp]
    exact R2 hp
theorem tq : ∀ k, k < 8 → (og (k / 4 * 4 + (k + 1) % 4) 1 = og k 0 ∧ rv (k / 4 * 4 + (k + 1) % 4) 1 = rv k 0) ∧ (og (k / 4 * 4 + (k + 1) % 4) 3 = og k 2 ∧ rv (k / 4 * 4 + (k + 1) % 4) 3 = rv k 2) ∧ (og (k / 4 * 4 + (k + 1) % 4) 0 = og k 3 ∧ rv (k / 4 * 4 + (k + 1) % 4) 0 = !rv k 3) ∧ (og (k / 4 * 4 + (k + 1) % 4) 2 = og k 1 ∧ rv (k / 4 * 4 + (k + 1) % 4) 2 = !rv k 1) := by decide +kernel
theorem tl : ∀ k, k < 8 → ∀ e, e < 4 → og (k / 4 * 4 + (k + 1) % 4) ((e + 1) % 4) = og k e ∧ (4 ≤ k / 4 * 4 + (k + 1) % 4 ↔ 4 ≤ k) := by decide +kernel
theorem tL_q {k e : Nat} (hk : k < 8) (he : e < 4) : tL f s (k / 4 * 4 + (k + 1) % 4) ((e + 1) % 4) = tL f s k e := by
  obtain ⟨h1, h2⟩ := tl k hk e he
  unfold tL
  rw [h1]
  by_cases c : f (99 + s) = 0 ∧ 4 ≤ k
  · rw [if_pos c, if_pos ⟨c.1, h2.mpr c.2⟩]
  · rw [if_neg c, if_neg (fun q => c ⟨q.1, h2.mp q.2⟩)]
theorem tu_l (D : DDo σ 1 f w h n) (hs : s < n) {k : Nat} (hk : k < 8) (K : gM → Int32 → Option (Int32 × gM)) : ∀ (d i m : Nat), i + d = 4 → d < m → fL_turns_122 K 0 (nI s) m σ (nI k) (nI (k / 4 * 4 + (k + 1) % 4)) (nI i) = K σ (nI (k + 1)) := by
  intro d
  induction d with
  | zero =>
    intro i m hi hm
    obtain ⟨m, rfl⟩ : ∃ q, m = q + 1 := ⟨m - 1, by omega⟩
    obtain rfl : i = 4 := by omega
    rw [fL_turns_122, if_pos (show (4 : Int32) ≤ nI 4 by decide), gl_e, nIa1]
  | succ d ih =>
    intro i m hi hm
    obtain ⟨m, rfl⟩ : ∃ q, m = q + 1 := ⟨m - 1, by omega⟩
    have e1 : (nI i + 1) - (nI i + 1) / 4 * 4 = nI ((i + 1) % 4) := by
      rw [nIa1, show (4 : Int32) = nI 4 from rfl, pk_rem (by omega) (by omega) (by omega)]
    rw [fL_turns_122, if_neg (i4 (by omega)), e1, edg_1 D hs (by omega) (by omega), Option.bind_some, edg_1 D hs hk (by omega), Option.bind_some, if_pos (tL_q hk (by omega)), scr_0 D hs, bp]
    by_cases c1 : f (99 + s) = 1
    · rw [if_pos c1, gl_e, nIa1]
      exact ih (i + 1) m (by omega) (by omega)
    · rw [if_neg c1]
      by_cases c2 : k < 4
      · rw [if_pos (show nI k < 4 from nI_lt (b := 4) c2 (by decide)), gl_e, nIa1]
        exact ih (i + 1) m (by omega) (by omega)
      · have c0 : f (99 + s) = 0 := (D.2.1.2.2.1 s hs).resolve_right c1
        have e0 : tL f s k i = 0 := if_pos ⟨c0, by omega⟩
        rw [if_neg (show ¬ nI k < 4 from nI_nlt (b := 4) (by omega) (by omega)), edg_1 D hs hk (by omega), Option.bind_some, if_pos e0, gl_e, nIa1]
        exact ih (i + 1) m (by omega) (by omega)
theorem tu_k (D : DDo σ 1 f w h n) (hs : s < n) : ∀ (d i m : Nat), i + d = 8 → d < m → fL_turns_4 0 (nI s) m σ (nI i) = some (1, σ) := by
  intro d
  have O := D.2.1
  induction d with
  | zero =>
    intro i m hi hm
    obtain ⟨m, rfl⟩ : ∃ q, m = q + 1 := ⟨m - 1, by omega⟩
    obtain rfl : i = 8 := by omega
    have b1 : rv9 (tP f s 0 0) = tP f s 4 0 := tP_back O hs (by decide) (by decide)
    have b2 : rv9 (tP f s 0 2) = tP f s 4 2 := tP_back O hs (by decide) (by decide)
    have b3 : tP f s 4 1 = tP f s 0 3 := tP_same (by decide) (by decide)
    rw [fL_turns_4, if_pos i8e, show fX8_edge σ 0 (nI s) 4 0 0 = _ from edg_0 D hs (o := 4) (e := 0) (by decide) (by decide), Option.bind_some, show fX8_edge σ 0 (nI s) 0 0 0 = _ from edg_0 D hs (o := 0) (e := 0) (by decide) (by decide), Option.bind_some, bac_L, Option.bind_some, if_pos b1.symm, show fX8_edge σ 0 (nI s) 4 1 0 = _ from edg_0 D hs (o := 4) (e := 1) (by decide) (by decide), Option.bind_some, show fX8_edge σ 0 (nI s) 0 3 0 = _ from edg_0 D hs (o := 0) (e := 3) (by decide) (by decide), Option.bind_some, if_pos b3, show fX8_edge σ 0 (nI s) 4 2 0 = _ from edg_0 D hs (o := 4) (e := 2) (by decide) (by decide), Option.bind_some, show fX8_edge σ 0 (nI s) 0 2 0 = _ from edg_0 D hs (o := 0) (e := 2) (by decide) (by decide), Option.bind_some, bac_L, Option.bind_some, if_pos b2.symm]
  | succ d ih =>
    intro i m hi hm
    obtain ⟨m, rfl⟩ : ∃ q, m = q + 1 := ⟨m - 1, by omega⟩
    have hi8 : i < 8 := by omega
    have eq : ((nI i / 4) * 4) + ((nI i + 1) - (nI i + 1) / 4 * 4) = nI (i / 4 * 4 + (i + 1) % 4) := by
      rw [nIa1, show (4 : Int32) = nI 4 from rfl, pk_rem (by omega) (by omega) (by omega), pk_div (by omega) (by omega) (by omega), pk_mul, nIa]
    have hq : i / 4 * 4 + (i + 1) % 4 < 8 := by omega
    obtain ⟨⟨x1, x2⟩, ⟨x3, x4⟩, ⟨x5, x6⟩, ⟨x7, x8⟩⟩ := tq i hi8
    rw [fL_turns_4, if_neg (i8 hi8), eq, gl_e]
    rw [show fX8_edge σ 0 (nI s) (nI (i / 4 * 4 + (i + 1) % 4)) 1 0 = _ from edg_0 D hs (e := 1) hq (by decide), Option.bind_some, show fX8_edge σ 0 (nI s) (nI i) 0 0 = _ from edg_0 D hs (e := 0) hi8 (by decide), Option.bind_some, if_pos (tP_same x1 x2)]
    rw [show fX8_edge σ 0 (nI s) (nI (i / 4 * 4 + (i + 1) % 4)) 3 0 = _ from edg_0 D hs (e := 3) hq (by decide), Option.bind_some, show fX8_edge σ 0 (nI s) (nI i) 2 0 = _ from edg_0 D hs (e := 2) hi8 (by decide), Option.bind_some, if_pos (tP_same x3 x4)]
    rw [show fX8_edge σ 0 (nI s) (nI (i / 4 * 4 + (i + 1) % 4)) 0 0 = _ from edg_0 D hs (e := 0) hq (by decide), Option.bind_some, show fX8_edge σ 0 (nI s) (nI i) 3 0 = _ from edg_0 D hs (e := 3) hi8 (by decide), Option.bind_some, bac_L, Option.bind_some, if_pos (tP_back O hs x5 x6).symm]
    rw [show fX8_edge σ 0 (nI s) (nI (i / 4 * 4 + (i + 1) % 4)) 2 0 = _ from edg_0 D hs (e := 2) hq (by decide), Option.bind_some, show fX8_edge σ 0 (nI s) (nI i) 1 0 = _ from edg_0 D hs (e := 1) hi8 (by decide), Option.bind_some, bac_L, Option.bind_some, if_pos (tP_back O hs x7 x8).symm]
    exact (tu_l D hs hi8 _ 4 0 gF rfl (gF_lt (by decide))).trans (ih (i + 1) m (by omega) (by omega))
theorem turns_ok (D : DDo σ 1 f w h n) (hs : s < n) : fL_turns σ 0 (nI s) = some (1, σ) := tu_k D hs 8 0 gF rfl (gF_lt (by decide))
