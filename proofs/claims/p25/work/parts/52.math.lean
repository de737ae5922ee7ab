section
/-! SCRAP, MEMBER -/
theorem in5 (x : Int32) : inI x 0 5 = 0 ∨ ∃ s, s < 6 ∧ x = nI s ∧ inI x 0 5 = 1 := inN x (n := 6) (by decide)
def mO : Option Nat → Int32
  | none => -1004
  | some v => nI v
end

section
/-! COUNTS -/
def dS (f : Nat → Int32) (w h n s e : Nat) : Nat := if f (123 + s) = -1 then 0 else if e = 1 ∨ e = 2 then (if nb f w h n s (pN f s) e = none then 0 else 1) else 0
def dF (f : Nat → Int32) (w h n s e : Nat) : Nat := if e = 1 ∨ e = 2 then (if jn f w h n s e = none then 0 else 1) else 0
def dA (f : Nat → Int32) (w h n s e : Nat) : Nat := if f (123 + s) = -1 then 0 else if bh w h (pN f s) e = none then (if rs f w h n s (pN f s) (ovN f s) e = 0 then 1 else 0) else 0
def dB (f : Nat → Int32) (w h n s e : Nat) : Nat := if f (123 + s) = -1 then 0 else if bh w h (pN f s) e = none then (if rs f w h n s (pN f s) (ovN f s) e = 0 then 0 else 1) else 0
def aE (g : Nat → Nat → Nat) (s e a : Nat) : Nat := a + g s e
def u4 (g : Nat → Nat → Nat) (s a : Nat) : Nat := up (aE g s) 4 0 a
theorem u4_0 {g : Nat → Nat → Nat} {s a : Nat} (H : ∀ e, g s e = 0) : u4 g s a = a := by
  show a + g s 0 + g s 1 + g s 2 + g s 3 = a
  rw [H, H, H, H]
  rfl
theorem u4_2 {g : Nat → Nat → Nat} {s a : Nat} (h0 : g s 0 = 0) (h3 : g s 3 = 0) : u4 g s a = up (aE g s) 2 1 a := by
  show a + g s 0 + g s 1 + g s 2 + g s 3 = a + g s 1 + g s 2
  rw [h0, h3]
  rfl
theorem jn_off {f : Nat → Int32} {w h n s e : Nat} (c : f (123 + s) = -1) : jn f w h n s e = none := if_pos c
theorem dS_off {f : Nat → Int32} {w h n s : Nat} (c : f (123 + s) = -1) : ∀ e, dS f w h n s e = 0 := fun e => if_pos c
theorem dA_off {f : Nat → Int32} {w h n s : Nat} (c : f (123 + s) = -1) : ∀ e, dA f w h n s e = 0 := fun e => if_pos c
theorem dB_off {f : Nat → Int32} {w h n s : Nat} (c : f (123 + s) = -1) : ∀ e, dB f w h n s e = 0 := fun e => if_pos c
theorem dF_off {f : Nat → Int32} {w h n s : Nat} (c : f (123 + s) = -1) : ∀ e, dF f w h n s e = 0 := fun e => by
  unfold dF
  rw [jn_off c, if_pos rfl, ite_self]
theorem dS_0 {f : Nat → Int32} {w h n s : Nat} : dS f w h n s 0 = 0 := by
  unfold dS
  rw [if_neg (show ¬ ((0 : Nat) = 1 ∨ (0 : Nat) = 2) by decide), ite_self]
theorem dS_3 {f : Nat → Int32} {w h n s : Nat} : dS f w h n s 3 = 0 := by
  unfold dS
  rw [if_neg (show ¬ ((3 : Nat) = 1 ∨ (3 : Nat) = 2) by decide), ite_self]
theorem dF_0 {f : Nat → Int32} {w h n s : Nat} : dF f w h n s 0 = 0 := by
  unfold dF
  rw [if_neg (show ¬ ((0 : Nat) = 1 ∨ (0 : Nat) = 2) by decide)]
theorem dF_3 {f : Nat → Int32} {w h n s : Nat} : dF f w h n s 3 = 0 := by
  unfold dF
  rw [if_neg (show ¬ ((3 : Nat) = 1 ∨ (3 : Nat) = 2) by decide)]
variable {σ : gM} {t w h n : Nat} {f : Nat → Int32}
theorem cs17 (D : DDo σ t f w h n) {s : Nat} (hs : s < n) (K : Int32 → Int32 → Option Int32) : ∀ (d i m a : Nat), i + d = 3 → 1 ≤ i → d < m → fX0_countSeams_17 K σ t m (nI a) (nI s) (nI i) = K (nI (up (aE (dS f w h n) s) d i a)) (nI (s + 1)) := by
  have n12 := D.2.1.2.1.2.2.2.2
  intro d
  induction d with
  | zero =>
    intro i m a hi h1 hm
    obtain ⟨m, rfl⟩ : ∃ q, m = q + 1 := ⟨m - 1, by omega⟩
    obtain rfl : i = 3 := by omega
    rw [fX0_countSeams_17, if_pos (show (2 : Int32) < nI 3 by decide), gl_e, nIa1, up_0]
  | succ d ih =>
    intro i m a hi h1 hm
    obtain ⟨m, rfl⟩ : ∃ q, m = q + 1 := ⟨m - 1, by omega⟩
    rw [fX0_countSeams_17, if_neg (show ¬ (2 : Int32) < nI i from nI_nlt (show i ≤ 2 by omega) (by decide)), nop8 D hs (by omega), Option.bind_some, up_s, show aE (dS f w h n) s i a = a + dS f w h n s i from rfl, show dS f w h n s i = if f (123 + s) = -1 then 0 else if i = 1 ∨ i = 2 then (if nb f w h n s (pN f s) i = none then 0 else 1) else 0 from rfl]
    by_cases c : f (123 + s) = -1
    · rw [if_pos c, if_pos rfl, if_pos c, gl_e, nIa1]
      exact ih (i + 1) m a (by omega) (by omega) (by omega)
    · rw [if_neg c, if_neg c, if_pos (show i = 1 ∨ i = 2 by omega)]
      cases hv : nb f w h n s (pN f s) i with
      | none =>
        rw [if_pos oI_n, if_pos rfl, gl_e, nIa1]
        exact ih (i + 1) m a (by omega) (by omega) (by omega)
      | some v =>
        have := (nb_lt hv).1
        rw [oI_s, if_neg (m1_ne (by omega)), if_neg (fun q => by cases q), gl_e, gl_e, nIa1, nIa1]
        exact ih (i + 1) m (a + 1) (by omega) (by omega) (by omega)
theorem cs4 (D : DDo σ t f w h n) : ∀ (d i m a : Nat), i + d = n → d < m → fX0_countSeams_4 σ t m (nI a) (nI i) = some (nI (up (u4 (dS f w h n)) d i a)) := by
  have n12 := D.2.1.2.1.2.2.2.2
  intro d
  induction d with
  | zero =>
    intro i m a hi hm
    obtain ⟨m, rfl⟩ : ∃ q, m = q + 1 := ⟨m - 1, by omega⟩
    rw [fX0_countSeams_4, siz8 D, Option.bind_some, if_pos (nI_le (by omega) (by omega)), up_0]
  | succ d ih =>
    intro i m a hi hm
    obtain ⟨m, rfl⟩ : ∃ q, m = q + 1 := ⟨m - 1, by omega⟩
    rw [fX0_countSeams_4, siz8 D, Option.bind_some, if_neg (nI_ge (by omega) (by omega)), up_s, u4_2 dS_0 dS_3, show fX0_countSeams_17 (fun y1 y2 => fX0_countSeams_4 σ t m y1 y2) σ t gF (nI a) (nI i) 1 = _ from cs17 D (by omega) _ 2 1 gF a rfl (by decide) (gF_lt (by decide))]
    exact ih (i + 1) m _ (by omega) (by omega)
theorem cf17 (D : DDo σ t f w h n) {s : Nat} (hs : s < n) (K : Int32 → Int32 → Option Int32) : ∀ (d i m a : Nat), i + d = 3 → 1 ≤ i → d < m → fX0_countFittingSeams_17 K σ t m (nI a) (nI s) (nI i) = K (nI (up (aE (dF f w h n) s) d i a)) (nI (s + 1)) := by
  have n12 := D.2.1.2.1.2.2.2.2
  intro d
  induction d with
  | zero =>
    intro i m a hi h1 hm
    obtain ⟨m, rfl⟩ : ∃ q, m = q + 1 := ⟨m - 1, by omega⟩
    obtain rfl : i = 3 := by omega
    rw [fX0_countFittingSeams_17, if_pos (show (2 : Int32) < nI 3 by decide), gl_e, nIa1, up_0]
  | succ d ih =>
    intro i m a hi h1 hm
    obtain ⟨m, rfl⟩ : ∃ q, m = q + 1 := ⟨m - 1, by omega⟩
    rw [fX0_countFittingSeams_17, if_neg (show ¬ (2 : Int32) < nI i from nI_nlt (show i ≤ 2 by omega) (by decide)), joi8 D hs (by omega), Option.bind_some, up_s, show aE (dF f w h n) s i a = a + dF f w h n s i from rfl, show dF f w h n s i = if i = 1 ∨ i = 2 then (if jn f w h n s i = none then 0 else 1) else 0 from rfl, if_pos (show i = 1 ∨ i = 2 by omega)]
    cases hv : jn f w h n s i with
    | none =>
      rw [if_pos rfl, if_pos rfl, if_pos rfl, gl_e, nIa1]
      exact ih (i + 1) m a (by omega) (by omega) (by omega)
    | some v =>
      have e : ¬ (some v : Option Nat) = none := fun q => by cases q
      rw [if_neg e, if_neg n10, if_neg e, gl_e, gl_e, nIa1, nIa1]
      exact ih (i + 1) m (a + 1) (by omega) (by omega) (by omega)
theorem cf4 (D : DDo σ t f w h n) : ∀ (d i m a : Nat), i + d = n → d < m → fX0_countFittingSeams_4 σ t m (nI a) (nI i) = some (nI (up (u4 (dF f w h n)) d i a)) := by
  have n12 := D.2.1.2.1.2.2.2.2
  intro d
  induction d with
  | zero =>
    intro i m a hi hm
    obtain ⟨m, rfl⟩ : ∃ q, m = q + 1 := ⟨m - 1, by omega⟩
    rw [fX0_countFittingSeams_4, siz8 D, Option.bind_some, if_pos (nI_le (by omega) (by omega)), up_0]
  | succ d ih =>
    intro i m a hi hm
    obtain ⟨m, rfl⟩ : ∃ q, m = q + 1 := ⟨m - 1, by omega⟩
    rw [fX0_countFittingSeams_4, siz8 D, Option.bind_some, if_neg (nI_ge (by omega) (by omega)), up_s, u4_2 dF_0 dF_3, show fX0_countFittingSeams_17 (fun y1 y2 => fX0_countFittingSeams_4 σ t m y1 y2) σ t gF (nI a) (nI i) 1 = _ from cf17 D (by omega) _ 2 1 gF a rfl (by decide) (gF_lt (by decide))]
    exact ih (i + 1) m _ (by omega) (by omega)
theorem iab (D : DDo σ t f w h n) {s e : Nat} (hs : s < n) (he : e < 4) : fX0_isAtBorder σ t (nI s) (nI e) = some (if f (123 + s) = -1 then 0 else if bh w h (pN f s) e = none then 1 else 0) := by
  obtain ⟨w1, w6, h1, h6, n12⟩ := D.2.1.2.1
  have hwh := wh_le w6 h6
  unfold fX0_isAtBorder
  rw [lie8 D hs, Option.bind_some]
  rcases D.2.1.pn hs with c | ⟨hk, c⟩
  · rw [if_pos c, if_pos rfl, if_pos c]
  · have c' : ¬ f (123 + s) = -1 := by rw [c]; exact m1_ne (by omega)
    rw [if_neg c', if_neg n10, if_neg c', plc8 D hs, Option.bind_some]
    rw [show fX4_behind σ (t + 8) (f (123 + s)) (nI e) = fX4_behind σ (t + 8) (nI (pN f s)) (nI e) by rw [← c], beh8d D (by omega) he, Option.bind_some]
    cases hb : bh w h (pN f s) e with
    | none => rw [if_pos oI_n, if_pos rfl]
    | some q =>
      have := bh_lt w1 hk hb
      rw [oI_s, if_neg (m1_ne (by omega)), if_neg (fun q => by cases q)]
theorem rs_b {s k o e : Nat} (hb : bh w h k e = none) : rs f w h n s k o e = 0 ∨ rs f w h n s k o e = 4 := by
  unfold rs
  rw [hb, rsP_n]
  split
  · exact Or.inl rfl
  · exact Or.inr rfl
theorem cb18 (D : DDo σ t f w h n) {s : Nat} (hs : s < n) (K : Int32 → Int32 → Option Int32) {v0 : Int32} {g : Nat → Nat → Nat} (hg : (v0 = 0 ∧ g = dA f w h n) ∨ (v0 = 4 ∧ g = dB f w h n)) : ∀ (d i m a : Nat), i + d = 4 → d < m → fX0_countBorderEdges_18 K σ t v0 m (nI a) (nI s) (nI i) = K (nI (up (aE g s) d i a)) (nI (s + 1)) := by
  have n12 := D.2.1.2.1.2.2.2.2
  intro d
  induction d with
  | zero =>
    intro i m a hi hm
    obtain ⟨m, rfl⟩ : ∃ q, m = q + 1 := ⟨m - 1, by omega⟩
    obtain rfl : i = 4 := by omega
    rw [fX0_countBorderEdges_18, if_pos i4e, gl_e, nIa1, up_0]
  | succ d ih =>
    intro i m a hi hm
    obtain ⟨m, rfl⟩ : ∃ q, m = q + 1 := ⟨m - 1, by omega⟩
    have key : ∀ b, b = a + g s i → K (nI (up (aE g s) d (i + 1) b)) (nI (s + 1)) = K (nI (up (aE g s) d (i + 1) (aE g s i a))) (nI (s + 1)) := fun b hb => by rw [hb]; rfl
    rw [fX0_countBorderEdges_18, if_neg (i4 (by omega)), iab D hs (by omega), Option.bind_some, up_s]
    rcases D.2.1.pn hs with c | ⟨hk, c⟩
    · have g0 : g s i = 0 := by
        rcases hg with ⟨-, rfl⟩ | ⟨-, rfl⟩
        · exact dA_off c i
        · exact dB_off c i
      rw [if_pos c, if_pos rfl, gl_e, nIa1]
      exact (ih (i + 1) m a (by omega) (by omega)).trans (key a (by rw [g0]; rfl))
    · have c' : ¬ f (123 + s) = -1 := by
        obtain ⟨w1, w6, h1, h6, n12⟩ := D.2.1.2.1
        have hwh := wh_le w6 h6
        rw [c]; exact m1_ne (by omega)
      rw [if_neg c']
      cases hb : bh w h (pN f s) i with
      | some q =>
        have g0 : g s i = 0 := by
          have e : ¬ (some q : Option Nat) = none := fun q => by cases q
          rcases hg with ⟨-, rfl⟩ | ⟨-, rfl⟩
          · unfold dA; rw [if_neg c', hb, if_neg e]
          · unfold dB; rw [if_neg c', hb, if_neg e]
        rw [if_neg (show ¬ (some q : Option Nat) = none from fun q => by cases q), if_pos rfl, gl_e, nIa1]
        exact (ih (i + 1) m a (by omega) (by omega)).trans (key a (by rw [g0]; rfl))
      | none =>
        rw [if_pos rfl, if_neg n10, vop8 D hs hk c (by omega), Option.bind_some]
        rcases hg with ⟨rfl, rfl⟩ | ⟨rfl, rfl⟩
        · have e1 : dA f w h n s i = if rs f w h n s (pN f s) (ovN f s) i = 0 then 1 else 0 := by unfold dA; rw [if_neg c', hb, if_pos rfl]
          by_cases c2 : rs f w h n s (pN f s) (ovN f s) i = 0
          · rw [if_pos c2, gl_e, gl_e, nIa1, nIa1]
            exact (ih (i + 1) m (a + 1) (by omega) (by omega)).trans (key _ (by rw [e1, if_pos c2]))
          · rw [if_neg c2, gl_e, nIa1]
            exact (ih (i + 1) m a (by omega) (by omega)).trans (key _ (by rw [e1, if_neg c2]; rfl))
        · have e1 : dB f w h n s i = if rs f w h n s (pN f s) (ovN f s) i = 0 then 0 else 1 := by unfold dB; rw [if_neg c', hb, if_pos rfl]
          rcases rs_b (f := f) (n := n) (s := s) (o := ovN f s) hb with c2 | c2
          · rw [if_neg (show ¬ rs f w h n s (pN f s) (ovN f s) i = 4 by rw [c2]; decide), gl_e, nIa1]
            exact (ih (i + 1) m a (by omega) (by omega)).trans (key _ (by rw [e1, if_pos c2]; rfl))
          · rw [if_pos c2, gl_e, gl_e, nIa1, nIa1]
            exact (ih (i + 1) m (a + 1) (by omega) (by omega)).trans (key _ (by rw [e1, if_neg (by rw [c2]; decide)]))
theorem cb4 (D : DDo σ t f w h n) {v0 : Int32} {g : Nat → Nat → Nat} (hg : (v0 = 0 ∧ g = dA f w h n) ∨ (v0 = 4 ∧ g = dB f w h n)) : ∀ (d i m a : Nat), i + d = n → d < m → fX0_countBorderEdges_4 σ t v0 m (nI a) (nI i) = some (nI (up (u4 g) d i a)) := by
  have n12 := D.2.1.2.1.2.2.2.2
  intro d
  induction d with
  | zero =>
    intro i m a hi hm
    obtain ⟨m, rfl⟩ : ∃ q, m = q + 1 := ⟨m - 1, by omega⟩
    rw [fX0_countBorderEdges_4, siz8 D, Option.bind_some, if_pos (nI_le (by omega) (by omega)), up_0]
  | succ d ih =>
    intro i m a hi hm
    obtain ⟨m, rfl⟩ : ∃ q, m = q + 1 := ⟨m - 1, by omega⟩
    rw [fX0_countBorderEdges_4, siz8 D, Option.bind_some, if_neg (nI_ge (by omega) (by omega)), up_s, show fX0_countBorderEdges_18 (fun y2 y3 => fX0_countBorderEdges_4 σ t v0 m y2 y3) σ t v0 gF (nI a) (nI i) 0 = _ from cb18 D (by omega) _ hg 4 0 gF a rfl (gF_lt (by decide))]
    exact ih (i + 1) m _ (by omega) (by omega)
end

section
/-! COUNTS, THE REFERENCE'S; COUNT -/
theorem d_b {f : Nat → Int32} {w h n s e : Nat} (c : f (123 + s) ≠ -1) (hb : bh w h (pN f s) e = none) : dS f w h n s e = 0 ∧ dF f w h n s e = 0 ∧ dA f w h n s e = (if rs f w h n s (pN f s) (ovN f s) e = 0 then 1 else 0) ∧ dB f w h n s e = (if rs f w h n s (pN f s) (ovN f s) e = 0 then 0 else 1) := by
  have e1 : nb f w h n s (pN f s) e = none := by unfold nb; rw [hb]; rfl
  refine ⟨?_, ?_, ?_, ?_⟩
  · unfold dS
    rw [if_neg c, e1, if_pos rfl, ite_self]
  · unfold dF jn
    rw [if_neg c, e1, ite_self, if_pos rfl, ite_self]
  · unfold dA
    rw [if_neg c, hb, if_pos rfl]
  · unfold dB
    rw [if_neg c, hb, if_pos rfl]
theorem d_i {f : Nat → Int32} {w h n s e q : Nat} (c : f (123 + s) ≠ -1) (hb : bh w h (pN f s) e = some q) : dA f w h n s e = 0 ∧ dB f w h n s e = 0 ∧ ((rs f w h n s (pN f s) (ovN f s) e = -1 ∧ dS f w h n s e = 0 ∧ dF f w h n s e = 0) ∨ (rs f w h n s (pN f s) (ovN f s) e ≠ -1 ∧ dS f w h n s e = (if e = 1 ∨ e = 2 then 1 else 0) ∧ dF f w h n s e = (if e = 1 ∨ e = 2 then (if rs f w h n s (pN f s) (ovN f s) e = 0 then 1 else 0) else 0))) := by
  have e0 : ¬ (some q : Option Nat) = none := fun q => by cases q
  refine ⟨by unfold dA; rw [if_neg c, hb, if_neg e0], by unfold dB; rw [if_neg c, hb, if_neg e0], ?_⟩
  cases hv : nb f w h n s (pN f s) e with
  | none =>
    refine Or.inl ⟨?_, ?_, ?_⟩
    · unfold nb at hv
      rw [hb, scO_s] at hv
      unfold rs
      rw [hb, rsP_s]
      cases hc : sc f n q with
      | none => rfl
      | some v =>
        rw [hc, nbQ_s] at hv
        by_cases cv : v = s
        · rw [rsQ_s, if_pos cv]
        · rw [if_neg cv] at hv; cases hv
    · unfold dS
      rw [if_neg c, hv, if_pos rfl, ite_self]
    · unfold dF jn
      rw [if_neg c, hv, ite_self, if_pos rfl, ite_self]
  | some v =>
    have e1 : ¬ (some v : Option Nat) = none := fun q => by cases q
    obtain ⟨q', h1, h2, h3⟩ := nb_in hv
    refine Or.inr ⟨?_, ?_, ?_⟩
    · rw [rs_mk h1 h2 h3]
      rcases vd_in f s (ovN f s) e v with z | z | z | z <;> rw [z] <;> decide
    · unfold dS
      rw [if_neg c, hv, if_neg e1]
    · unfold dF jn
      rw [if_neg c, hv]
      by_cases c2 : rs f w h n s (pN f s) (ovN f s) e = 0
      · rw [if_pos c2, if_pos c2, if_neg e1]
      · rw [if_neg c2, if_neg c2, if_pos rfl]
theorem in11 (x : Int32) : inI x 0 11 = 0 ∨ ∃ s, s < 12 ∧ x = nI s ∧ inI x 0 11 = 1 := inN x (n := 12) (by decide)
end

section
/-! FILL -/
def bOK (f : Nat → Int32) (w h n : Nat) (x : Int32) : Prop := x = -1 ∨ ∃ k o, k < w * h ∧ o < 8 ∧ sc f n k = none ∧ x = nI (10 * k + o)
theorem hB_ok {f : Nat → Int32} {w h n s k : Nat} (hk : k < w * h) (hc : sc f n k = none) : ∀ d i (p : Int32 × Int32), i + d = 8 → bOK f w h n p.1 → bOK f w h n (up2 (hB f w h n s k) d i p).1 := by
  intro d
  induction d with
  | zero => intro i p _ hp; exact hp
  | succ d ih =>
    intro i p hi hp
    refine ih (i + 1) (hB f w h n s k i p) (by omega) ?_
    unfold hB
    split
    · exact hp
    · split
      · exact Or.inr ⟨k, i, hk, by omega, hc, rfl⟩
      · exact hp
theorem bsP_ok {f : Nat → Int32} {w h n s : Nat} : bOK f w h n (bsP f w h n s) := by
  have : ∀ d i (p : Int32 × Int32), i + d = w * h → bOK f w h n p.1 → bOK f w h n (up2 (hP f w h n s) d i p).1 := by
    intro d
    induction d with
    | zero => intro i p _ hp; exact hp
    | succ d ih =>
      intro i p hi hp
      refine ih (i + 1) (hP f w h n s i p) (by omega) ?_
      unfold hP
      split
      · exact hB_ok (by omega) (by assumption) 8 0 p rfl hp
      · exact hp
  exact this (w * h) 0 (-1, -1) (by omega) (Or.inl rfl)
theorem pF_pl {f : Nat → Int32} {s : Nat} {p o : Int32} (hs : s < 12) : (fun t => pF f s p o (123 + t)) = upd (fun t => f (123 + t)) s p := by
  funext t
  by_cases c : t = s
  · subst c
    rw [pk_us, pF_p]
  · rw [pk_un c, pF_ne (by omega) (by omega)]
end
