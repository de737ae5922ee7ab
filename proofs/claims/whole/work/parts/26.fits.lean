/-! COUNTING EDGES, ON BOTH SIDES -/
/-- a loop forward -/
def up (g : Nat → Nat → Nat) : Nat → Nat → Nat → Nat
  | 0, _, a => a
  | d + 1, i, a => up g d (i + 1) (g i a)
theorem up_0 {g : Nat → Nat → Nat} {i a : Nat} : up g 0 i a = a := rfl
theorem up_s {g : Nat → Nat → Nat} {d i a : Nat} : up g (d + 1) i a = up g d (i + 1) (g i a) := rfl
theorem vd_in (f : Nat → Int32) (s o e v : Nat) : vd f s o e v = 0 ∨ vd f s o e v = 1 ∨ vd f s o e v = 2 ∨ vd f s o e v = 3 := by
  unfold vd
  repeat' split
  all_goals simp
theorem rs_in (f : Nat → Int32) (w h n s k o e : Nat) : rs f w h n s k o e = -1 ∨ rs f w h n s k o e = 0 ∨ rs f w h n s k o e = 1 ∨ rs f w h n s k o e = 2 ∨ rs f w h n s k o e = 3 ∨ rs f w h n s k o e = 4 := by
  unfold rs
  cases bh w h k e with
  | none => rw [rsP_n]; split <;> simp
  | some q =>
    rw [rsP_s]
    cases sc f n q with
    | none => exact Or.inl rfl
    | some v =>
      rw [rsQ_s]
      split
      · exact Or.inl rfl
      · rcases vd_in f s o e v with h | h | h | h <;> rw [h] <;> simp
def gFit (f : Nat → Int32) (w h n s k o e a : Nat) : Nat := if rs f w h n s k o e = -1 then a else if rs f w h n s k o e = 0 then a + 1 else a
def gFlt (f : Nat → Int32) (w h n s k o e a : Nat) : Nat := if rs f w h n s k o e = -1 then a else if rs f w h n s k o e = 0 then a else a + 1
def nFit (f : Nat → Int32) (w h n s k o : Nat) : Nat := up (gFit f w h n s k o) 4 0 0
def nFlt (f : Nat → Int32) (w h n s k o : Nat) : Nat := up (gFlt f w h n s k o) 4 0 0
theorem i4 {i : Nat} (h : i < 4) : ¬ (4 : Int32) ≤ nI i := nI_ge h (by decide)
theorem i4e : (4 : Int32) ≤ nI 4 := by decide
theorem fit9L {τ0 : gM} {w h n s k o : Nat} (O : OKf (τ0 125) w h n) (hs : s < n) (hk : k < w * h) (ho : o < 8) : ∀ (d i m a : Nat) (τ : gM), i + d = 4 → d < m → Off2 τ0 τ → ∃ τ', fX9_fits_6 124 (nI s) (nI k) (nI o) 1 m τ (nI a) (nI i) = some (nI (up (gFit (τ0 125) w h n s k o) d i a), τ') ∧ Off2 τ0 τ' := by
  intro d
  induction d with
  | zero =>
    intro i m a τ hi hm F
    obtain ⟨m, rfl⟩ : ∃ q, m = q + 1 := ⟨m - 1, by omega⟩
    obtain rfl : i = 4 := by omega
    refine ⟨τ, ?_, F⟩
    rw [fX9_fits_6, if_pos i4e, up_0]
  | succ d ih =>
    intro i m a τ hi hm F
    obtain ⟨m, rfl⟩ : ∃ q, m = q + 1 := ⟨m - 1, by omega⟩
    have e1 : τ 125 = τ0 125 := F 125 (by decide) (by decide)
    obtain ⟨τ1, p1, o1⟩ := rsn9 (τ := τ) (s := s) (k := k) (o := o) (e := i) (by rw [e1]; exact O) hs hk ho (by omega)
    rw [e1] at p1
    rw [fX9_fits_6, if_neg (i4 (by omega)), p1, bp, up_s]
    simp only [gl_e, Int32.add_zero, nIa1, if_true]
    unfold gFit
    by_cases c1 : rs (τ0 125) w h n s k o i = -1
    · rw [if_pos c1, if_pos c1]
      exact ih (i + 1) m a τ1 (by omega) (by omega) (F.tr o1)
    · rw [if_neg c1, if_neg c1]
      by_cases c2 : rs (τ0 125) w h n s k o i = 0
      · rw [if_pos c2, if_pos c2]
        exact ih (i + 1) m (a + 1) τ1 (by omega) (by omega) (F.tr o1)
      · rw [if_neg c2, if_neg c2, if_neg n01]
        exact ih (i + 1) m a τ1 (by omega) (by omega) (F.tr o1)
theorem flt9L {τ0 : gM} {w h n s k o : Nat} (O : OKf (τ0 125) w h n) (hs : s < n) (hk : k < w * h) (ho : o < 8) : ∀ (d i m a : Nat) (τ : gM), i + d = 4 → d < m → Off2 τ0 τ → ∃ τ', fX9_fits_6 124 (nI s) (nI k) (nI o) 0 m τ (nI a) (nI i) = some (nI (up (gFlt (τ0 125) w h n s k o) d i a), τ') ∧ Off2 τ0 τ' := by
  intro d
  induction d with
  | zero =>
    intro i m a τ hi hm F
    obtain ⟨m, rfl⟩ : ∃ q, m = q + 1 := ⟨m - 1, by omega⟩
    obtain rfl : i = 4 := by omega
    refine ⟨τ, ?_, F⟩
    rw [fX9_fits_6, if_pos i4e, up_0]
  | succ d ih =>
    intro i m a τ hi hm F
    obtain ⟨m, rfl⟩ : ∃ q, m = q + 1 := ⟨m - 1, by omega⟩
    have e1 : τ 125 = τ0 125 := F 125 (by decide) (by decide)
    obtain ⟨τ1, p1, o1⟩ := rsn9 (τ := τ) (s := s) (k := k) (o := o) (e := i) (by rw [e1]; exact O) hs hk ho (by omega)
    rw [e1] at p1
    rw [fX9_fits_6, if_neg (i4 (by omega)), p1, bp, up_s]
    simp only [gl_e, Int32.add_zero, nIa1, if_true]
    rw [if_neg n10]
    unfold gFlt
    by_cases c1 : rs (τ0 125) w h n s k o i = -1
    · rw [if_pos c1, if_pos c1]
      exact ih (i + 1) m a τ1 (by omega) (by omega) (F.tr o1)
    · rw [if_neg c1, if_neg c1]
      by_cases c2 : rs (τ0 125) w h n s k o i = 0
      · rw [if_pos c2, if_pos c2]
        exact ih (i + 1) m a τ1 (by omega) (by omega) (F.tr o1)
      · rw [if_neg c2, if_neg c2]
        exact ih (i + 1) m (a + 1) τ1 (by omega) (by omega) (F.tr o1)
theorem gF_lt {k : Nat} (h : k < 1000000) : k < gF := by unfold gF; omega
theorem fit9 {τ : gM} {w h n s k o : Nat} (O : OKf (τ 125) w h n) (hs : s < n) (hk : k < w * h) (ho : o < 8) : ∃ τ', fX9_fits τ 124 (nI s) (nI k) (nI o) 1 = some (nI (nFit (τ 125) w h n s k o), τ') ∧ Off2 τ τ' := fit9L O hs hk ho 4 0 gF 0 τ rfl (gF_lt (by decide)) Off2.rf
theorem flt9 {τ : gM} {w h n s k o : Nat} (O : OKf (τ 125) w h n) (hs : s < n) (hk : k < w * h) (ho : o < 8) : ∃ τ', fX9_fits τ 124 (nI s) (nI k) (nI o) 0 = some (nI (nFlt (τ 125) w h n s k o), τ') ∧ Off2 τ τ' := flt9L O hs hk ho 4 0 gF 0 τ rfl (gF_lt (by decide)) Off2.rf
variable {σ : gM} {d w h n : Nat} {f : Nat → Int32}
theorem rs_le {s k o e : Nat} : rs f w h n s k o e ≤ 0 ↔ (rs f w h n s k o e = -1 ∨ rs f w h n s k o e = 0) := by
  rcases rs_in f w h n s k o e with c | c | c | c | c | c <;> rw [c] <;> decide
theorem clie8L (D : DDo σ d f w h n) {s k o : Nat} (hs : s < n) (hk : k < w * h) (ho : o < 8) : ∀ (j i m a : Nat), i + j = 4 → j < m → fX0_canLie_3 σ d (nI s) (nI k) (nI o) m (nI i) = some (if up (gFlt f w h n s k o) j i a = a then 1 else 0) ∧ a ≤ up (gFlt f w h n s k o) j i a := by
  intro j
  induction j with
  | zero =>
    intro i m a hi hm
    obtain ⟨m, rfl⟩ : ∃ q, m = q + 1 := ⟨m - 1, by omega⟩
    obtain rfl : i = 4 := by omega
    rw [fX0_canLie_3, if_pos i4e, up_0, if_pos rfl]
    exact ⟨rfl, Nat.le_refl _⟩
  | succ j ih =>
    intro i m a hi hm
    obtain ⟨m, rfl⟩ : ∃ q, m = q + 1 := ⟨m - 1, by omega⟩
    rw [fX0_canLie_3, if_neg (i4 (by omega)), ver8 D hs hk ho (by omega), Option.bind_some, gl_e, nIa1, up_s]
    by_cases c : rs f w h n s k o i ≤ 0
    · have e : gFlt f w h n s k o i a = a := by
        unfold gFlt
        rcases rs_le.mp c with q | q
        · rw [if_pos q]
        · rw [if_neg (by rw [q]; decide), if_pos q]
      rw [if_pos c, e]
      exact ih (i + 1) m a (by omega) (by omega)
    · have e : gFlt f w h n s k o i a = a + 1 := by
        unfold gFlt
        rw [if_neg (fun q => c (rs_le.mpr (Or.inl q))), if_neg (fun q => c (rs_le.mpr (Or.inr q)))]
      have := (ih (i + 1) m (a + 1) (by omega) (by omega)).2
      rw [if_neg c, e, if_neg (by omega)]
      exact ⟨rfl, by omega⟩
theorem clie8 (D : DDo σ d f w h n) {s k o : Nat} (hs : s < n) (hk : k < w * h) (ho : o < 8) : fX0_canLie σ d (nI s) (nI k) (nI o) = some (if nFlt f w h n s k o = 0 then 1 else 0) := (clie8L D hs hk ho 4 0 gF 0 rfl (gF_lt (by decide))).1
