/-! SEAMS AT A PLACE -/
def gSm (f : Nat → Int32) (w h n s k e a : Nat) : Nat := if nb f w h n s k e = none then a else a + 1
def nSm (f : Nat → Int32) (w h n s k : Nat) : Nat := up (gSm f w h n s k) 4 0 0
theorem gSm_le (f : Nat → Int32) (w h n s k : Nat) : ∀ i a, gSm f w h n s k i a ≤ a + 1 := by
  intro i a
  unfold gSm
  split <;> omega
theorem nSm_le (f : Nat → Int32) (w h n s k : Nat) : nSm f w h n s k ≤ 4 := by
  have := up_le (gSm_le f w h n s k) 4 0 0
  unfold nSm
  omega
theorem nb_lt {f : Nat → Int32} {w h n s k e v : Nat} (hv : nb f w h n s k e = some v) : v < n ∧ v ≠ s := by
  unfold nb at hv
  cases hb : bh w h k e with
  | none => rw [hb] at hv; cases hv
  | some q =>
    rw [hb, scO_s] at hv
    cases hc : sc f n q with
    | none => rw [hc] at hv; cases hv
    | some z =>
      rw [hc, nbQ_s] at hv
      split at hv
      · cases hv
      · cases hv
        exact ⟨(sc_lt hc).1, by assumption⟩
theorem sea8L {σ : gM} {t w h n s k : Nat} {f : Nat → Int32} (D : DDo σ t f w h n) (hs : s < n) (hk : k < w * h) : ∀ (d i m a : Nat), i + d = 4 → d < m → fX0_seamsAt_5 σ t (nI s) (nI k) m (nI a) (nI i) = some (nI (up (gSm f w h n s k) d i a)) := by
  have n12 := D.2.1.2.1.2.2.2.2
  intro d
  induction d with
  | zero =>
    intro i m a hi hm
    obtain ⟨m, rfl⟩ : ∃ q, m = q + 1 := ⟨m - 1, by omega⟩
    obtain rfl : i = 4 := by omega
    rw [fX0_seamsAt_5, if_pos i4e, up_0]
  | succ d ih =>
    intro i m a hi hm
    obtain ⟨m, rfl⟩ : ∃ q, m = q + 1 := ⟨m - 1, by omega⟩
    rw [fX0_seamsAt_5, if_neg (i4 (by omega)), nei8 D hs hk (by omega), Option.bind_some, up_s]
    simp only [gl_e, nIa1]
    unfold gSm
    cases hv : nb f w h n s k i with
    | none =>
      rw [if_pos oI_n, if_pos rfl]
      exact ih (i + 1) m a (by omega) (by omega)
    | some v =>
      have hvn := (nb_lt hv).1
      rw [oI_s, if_neg (m1_ne (by omega)), if_neg (fun q => by cases q)]
      exact ih (i + 1) m (a + 1) (by omega) (by omega)
theorem sea8 {σ : gM} {t w h n s k : Nat} {f : Nat → Int32} (D : DDo σ t f w h n) (hs : s < n) (hk : k < w * h) : fX0_seamsAt σ t (nI s) (nI k) = some (nI (nSm f w h n s k)) := sea8L D hs hk 4 0 gF 0 rfl (gF_lt (by decide))
theorem sea9L {τ : gM} {w h n s k : Nat} (O : OKf (τ 125) w h n) (hs : s < n) (hk : k < w * h) : ∀ (d i m a : Nat), i + d = 4 → d < m → fX9_seams_5 τ 124 (nI s) (nI k) m (nI a) (nI i) = some (nI (up (gSm (τ 125) w h n s k) d i a)) := by
  obtain ⟨⟨f0, f1, f2⟩, ⟨w1, w6, h1, h6, n12⟩, -⟩ := id O
  have hwh := wh_le w6 h6
  intro d
  induction d with
  | zero =>
    intro i m a hi hm
    obtain ⟨m, rfl⟩ : ∃ q, m = q + 1 := ⟨m - 1, by omega⟩
    obtain rfl : i = 4 := by omega
    rw [fX9_seams_5, if_pos i4e, up_0]
  | succ d ih =>
    intro i m a hi hm
    obtain ⟨m, rfl⟩ : ∃ q, m = q + 1 := ⟨m - 1, by omega⟩
    rw [fX9_seams_5, if_neg (i4 (by omega)), beh9 f0 f1 w1 w6 h1 h6 hk (by omega), Option.bind_some, up_s]
    simp only [gl_e, nIa1, Int32.add_zero]
    unfold gSm nb
    cases hb : bh w h k i with
    | none =>
      rw [if_pos oI_n, scO_n, nbQ_n, if_pos rfl]
      exact ih (i + 1) m a (by omega) (by omega)
    | some q =>
      have hq := bh_lt w1 hk hb
      rw [oI_s, if_neg (m1_ne (by omega)), sca9 f2 n12, Option.bind_some, scO_s]
      cases hv : sc (τ 125) n q with
      | none =>
        rw [if_pos oI_n, nbQ_n, if_pos rfl]
        exact ih (i + 1) m a (by omega) (by omega)
      | some v =>
        have hvn := (sc_lt hv).1
        rw [oI_s, if_neg (m1_ne (by omega)), nbQ_s]
        by_cases c : v = s
        · rw [if_pos (show nI v = nI s by rw [c]), if_pos c, if_pos rfl]
          exact ih (i + 1) m a (by omega) (by omega)
        · rw [if_neg (show ¬ nI v = nI s from fun q => c ((nI_eq (by omega) (by omega)).mp q)), if_neg c, if_neg (fun q => by cases q)]
          exact ih (i + 1) m (a + 1) (by omega) (by omega)
theorem sea9 {τ : gM} {w h n s k : Nat} (O : OKf (τ 125) w h n) (hs : s < n) (hk : k < w * h) : fX9_seams τ 124 (nI s) (nI k) = some (nI (nSm (τ 125) w h n s k)) := sea9L O hs hk 4 0 gF 0 rfl (gF_lt (by decide))
