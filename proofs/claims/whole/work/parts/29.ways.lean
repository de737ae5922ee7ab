/-! WAYS -/
def gWay (f : Nat → Int32) (w h n s k o a : Nat) : Nat := if nFlt f w h n s k o = 0 then a + 1 else a
def nWay (f : Nat → Int32) (w h n s k : Nat) : Nat := up (gWay f w h n s k) 8 0 0
theorem i8 {i : Nat} (h : i < 8) : ¬ (8 : Int32) ≤ nI i := nI_ge h (by decide)
theorem i8e : (8 : Int32) ≤ nI 8 := by decide
theorem way9L {τ0 : gM} {w h n s k : Nat} (O : OKf (τ0 125) w h n) (hs : s < n) (hk : k < w * h) : ∀ (d i m a : Nat) (τ : gM), i + d = 8 → d < m → Off2 τ0 τ → ∃ τ', fX9_ways_46 124 (nI s) (nI k) m τ (nI a) (nI i) = some (nI (up (gWay (τ0 125) w h n s k) d i a), τ') ∧ Off2 τ0 τ' := by
  intro d
  induction d with
  | zero =>
    intro i m a τ hi hm F
    obtain ⟨m, rfl⟩ : ∃ q, m = q + 1 := ⟨m - 1, by omega⟩
    obtain rfl : i = 8 := by omega
    refine ⟨τ, ?_, F⟩
    rw [fX9_ways_46, if_pos i8e, up_0]
  | succ d ih =>
    intro i m a τ hi hm F
    obtain ⟨m, rfl⟩ : ∃ q, m = q + 1 := ⟨m - 1, by omega⟩
    have e1 : τ 125 = τ0 125 := F 125 (by decide) (by decide)
    obtain ⟨τ1, p1, o1⟩ := cli9 (τ := τ) (s := s) (k := k) (o := i) (by rw [e1]; exact O) hs hk (by omega)
    rw [e1] at p1
    rw [fX9_ways_46, if_neg (i8 (by omega)), p1, bp, up_s]
    simp only [gl_e, Int32.add_zero, nIa1]
    unfold gWay
    by_cases c : nFlt (τ0 125) w h n s k i = 0
    · rw [if_pos c, if_pos c, if_neg n10]
      exact ih (i + 1) m (a + 1) τ1 (by omega) (by omega) (F.tr o1)
    · rw [if_neg c, if_neg c, if_pos rfl]
      exact ih (i + 1) m a τ1 (by omega) (by omega) (F.tr o1)
theorem way8L {σ : gM} {t w h n s k : Nat} {f : Nat → Int32} (D : DDo σ t f w h n) (hs : s < n) (hk : k < w * h) : ∀ (d i m a : Nat), i + d = 8 → d < m → fX0_countWays_5 σ t (nI s) (nI k) m (nI a) (nI i) = some (nI (up (gWay f w h n s k) d i a)) := by
  intro d
  induction d with
  | zero =>
    intro i m a hi hm
    obtain ⟨m, rfl⟩ : ∃ q, m = q + 1 := ⟨m - 1, by omega⟩
    obtain rfl : i = 8 := by omega
    rw [fX0_countWays_5, if_pos i8e, up_0]
  | succ d ih =>
    intro i m a hi hm
    obtain ⟨m, rfl⟩ : ∃ q, m = q + 1 := ⟨m - 1, by omega⟩
    rw [fX0_countWays_5, if_neg (i8 (by omega)), clie8 D hs hk (by omega), Option.bind_some, up_s]
    simp only [gl_e, nIa1]
    unfold gWay
    by_cases c : nFlt f w h n s k i = 0
    · rw [if_pos c, if_pos c, if_neg n10]
      exact ih (i + 1) m (a + 1) (by omega) (by omega)
    · rw [if_neg c, if_neg c, if_pos rfl]
      exact ih (i + 1) m a (by omega) (by omega)
theorem step_ways : gs_ways RR := by
  intro σ τ a1 a2 R
  obtain ⟨w, h, n, D⟩ := R.1
  have O := D.2.1
  obtain ⟨w1, w6, h1, h6, n12⟩ := O.2.1
  have hwh := wh_le w6 h6
  unfold fX8_ways fX9_ways
  rw [isc8 D, isc9 O, Option.bind_some, Option.bind_some]
  rcases inN a1 (n := n) (by omega) with c | ⟨s, hs, rfl, c⟩
  · rw [c, if_pos rfl, if_pos rfl]
    exact ⟨_, _, rfl, rfl, R⟩
  · rw [c, if_neg n10, if_neg n10, ipl8 D, ipl9 O, Option.bind_some, Option.bind_some]
    rcases inN a2 (n := w * h) (by omega) with c | ⟨k, hk, rfl, c⟩
    · rw [c, if_pos rfl, if_pos rfl]
      exact ⟨_, _, rfl, rfl, R⟩
    · obtain ⟨τ', p, F⟩ := way9L (τ0 := τ) O hs hk 8 0 gF 0 τ rfl (gF_lt (by decide)) Off2.rf
      have q : fX0_countWays σ (0 + 1) (nI s) (nI k) = _ := way8L D hs hk 8 0 gF 0 rfl (gF_lt (by decide))
      rw [c, if_neg n10, if_neg n10, show fX4_scrapAt σ (0 + 1 + 8) (nI k) = some (oI (sc (τ 125) n k)) from sca8s D (by omega), sca9 O.1.2.2 n12, Option.bind_some, Option.bind_some, q, Option.bind_some]
      cases hv : sc (τ 125) n k with
      | none =>
        rw [if_pos oI_n, if_pos oI_n]
        exact ⟨_, _, rfl, p, R.off F⟩
      | some v =>
        have hvn := (sc_lt hv).1
        rw [oI_s, if_neg (m1_ne (by omega)), if_neg (m1_ne (by omega))]
        by_cases c : nI v = nI s
        · rw [if_pos c, if_pos c]
          exact ⟨_, _, rfl, p, R.off F⟩
        · rw [if_neg c, if_neg c]
          exact ⟨_, _, rfl, rfl, R⟩
