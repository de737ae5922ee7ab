/-! FILL -/
def bOK (f : Nat → Int32) (w h n : Nat) (x : Int32) : Prop := x = -1 ∨ ∃ k o, k < w * h ∧ o < 8 ∧ sc f n k = none ∧ x = nI (10 * k + o)
theorem hB_ok {f : Nat → Int32} {w h n s k : Nat} (hk : k < w * h) (hc : sc f n k = none) : ∀ d i (p : Int32 × Int32), i + d = 8 → bOK f w h n p.1 → bOK f w h n (up2 (hB f w h n s k) d i p).1 := by
  intro d
  induction d with
  | zero => intro i p _ hp; exact hp
  | succ d ih =>
    intro i p hi hp
    refine ih (i + 1) (hB f w h n s k i p) (by omega) ?_
    unfold hB
    split
    · exact hp
    · split
      · exact Or.inr ⟨k, i, hk, by omega, hc, rfl⟩
      · exact hp
theorem bsP_ok {f : Nat → Int32} {w h n s : Nat} : bOK f w h n (bsP f w h n s) := by
  have : ∀ d i (p : Int32 × Int32), i + d = w * h → bOK f w h n p.1 → bOK f w h n (up2 (hP f w h n s) d i p).1 := by
    intro d
    induction d with
    | zero => intro i p _ hp; exact hp
    | succ d ih =>
      intro i p hi hp
      refine ih (i + 1) (hP f w h n s i p) (by omega) ?_
      unfold hP
      split
      · exact hB_ok (by omega) (by assumption) 8 0 p rfl hp
      · exact hp
  exact this (w * h) 0 (-1, -1) (by omega) (Or.inl rfl)
theorem scan {w h n : Nat} : ∀ (d i m m' : Nat) (x : Int32) (σ τ : gM), DDo σ 1 (τ 125) w h n → i + d = n → d < m → d < m' → (∃ τ', fX0_layNext_2 1 m σ (nI i) = some (0, σ) ∧ fX9_fill_8 124 m' τ x (nI i) = some (x, τ') ∧ Off2 τ τ') ∨ (∃ s k o τ', s < n ∧ τ 125 (123 + s) = -1 ∧ k < w * h ∧ o < 8 ∧ sc (τ 125) n k = none ∧ Off2 τ τ' ∧ (fX0_layNext_2 1 m σ (nI i) = (fX4_put σ (1 + 8) (nI s) (nI k) (nI o)).bind fun σ9 => some (1, σ9)) ∧ ∃ q, m' ≤ q + d ∧ fX9_fill_8 124 m' τ x (nI i) = fX9_fill_8 124 q (gset τ' 125 (pF (τ 125) s (nI k) (nI o))) (x + 1) 0) := by
  intro d
  induction d with
  | zero =>
    intro i m m' x σ τ D hi hm hm'
    have n12 := D.2.1.2.1.2.2.2.2
    obtain ⟨m, rfl⟩ : ∃ q, m = q + 1 := ⟨m - 1, by omega⟩
    obtain ⟨m', rfl⟩ : ∃ q, m' = q + 1 := ⟨m' - 1, by omega⟩
    refine Or.inl ⟨τ, ?_, ?_, Off2.rf⟩
    · rw [fX0_layNext_2, siz8 D, Option.bind_some, if_pos (nI_le (by omega) (by omega))]
    · rw [fX9_fill_8, if_pos k12, show τ (124 + 1) (2 : Int32).toNatClampNeg = nI n by rw [cl_2]; exact D.2.1.1.2.2, if_pos (nI_le (by omega) (by omega))]
  | succ d ih =>
    intro i m m' x σ τ D hi hm hm'
    have O := D.2.1
    obtain ⟨w1, w6, h1, h6, n12⟩ := O.2.1
    have hwh := wh_le w6 h6
    obtain ⟨m, rfl⟩ : ∃ q, m = q + 1 := ⟨m - 1, by omega⟩
    obtain ⟨m', rfl⟩ : ∃ q, m' = q + 1 := ⟨m' - 1, by omega⟩
    rw [fX0_layNext_2, siz8 D, Option.bind_some, if_neg (nI_ge (by omega) (by omega)), lie8 D (by omega), Option.bind_some, fX9_fill_8, if_pos k12, show τ (124 + 1) (2 : Int32).toNatClampNeg = nI n by rw [cl_2]; exact O.1.2.2, if_neg (nI_ge (by omega) (by omega)), on9 O (by omega), Option.bind_some]
    by_cases c0 : τ 125 (123 + i) = -1
    · obtain ⟨τ1, F1, q1⟩ := bsp9 (τ := τ) (s := i) O (by omega)
      have e1 : τ1 125 = τ 125 := F1 125 (by decide) (by decide)
      rw [if_pos c0, if_pos rfl, if_pos rfl, bsp8 D (by omega), Option.bind_some, q1, bp]
      rcases bsP_ok (f := τ 125) (w := w) (h := h) (n := n) (s := i) with c | ⟨k, o, hk, ho, hc, c⟩
      · rw [c, if_pos rfl, if_pos rfl, gl_e, gl_e, nIa1]
        rcases ih (i + 1) m m' x σ τ1 (by rw [e1]; exact D) (by omega) (by omega) (by omega) with ⟨τ', p8, p9, F⟩ | ⟨s, k, o, τ', a1, a2, a3, a4, a5, F, p8, q, b1, b2⟩
        · exact Or.inl ⟨τ', p8, p9, F1.tr F⟩
        · rw [e1] at a2 a5 b2
          exact Or.inr ⟨s, k, o, τ', a1, a2, a3, a4, a5, F1.tr F, p8, q, by omega, b2⟩
      · refine Or.inr ⟨i, k, o, τ1, by omega, c0, hk, ho, hc, F1, ?_, m', by omega, ?_⟩
        · rw [c, if_neg (m1_ne (by omega)), show (10 : Int32) = nI 10 from rfl, pk_rem (by omega) (by omega) (by omega), pk_div (by omega) (by omega) (by omega), show (10 * k + o) / 10 = k by omega, show (10 * k + o) % 10 = o by omega]
        · rw [c, if_neg (m1_ne (by omega)), show (10 : Int32) = nI 10 from rfl, pk_rem (by omega) (by omega) (by omega), pk_div (by omega) (by omega) (by omega), show (10 * k + o) / 10 = k by omega, show (10 * k + o) % 10 = o by omega, put9 (by omega), Option.bind_some, gl_e, e1]
    · rw [if_neg c0, if_neg n10, if_neg n10, gl_e, gl_e, nIa1]
      rcases ih (i + 1) m m' x σ τ D (by omega) (by omega) (by omega) with ⟨τ', p8, p9, F⟩ | ⟨s, k, o, τ', a1, a2, a3, a4, a5, F, p8, q, b1, b2⟩
      · exact Or.inl ⟨τ', p8, p9, F⟩
      · exact Or.inr ⟨s, k, o, τ', a1, a2, a3, a4, a5, F, p8, q, by omega, b2⟩
theorem pF_pl {f : Nat → Int32} {s : Nat} {p o : Int32} (hs : s < 12) : (fun t => pF f s p o (123 + t)) = upd (fun t => f (123 + t)) s p := by
  funext t
  by_cases c : t = s
  · subst c
    rw [pk_us, pF_p]
  · rw [pk_un c, pF_ne (by omega) (by omega)]
theorem filM {w h n : Nat} : ∀ (u m m' x : Nat) (σ τ : gM), DDo σ 1 (τ 125) w h n → cU (fun t => τ 125 (123 + t)) n ≤ u → u + x ≤ 12 → u < m → 20 * (u + 1) < m' → ∃ r σ' τ', fX8_fill_13 0 m σ (nI x) = some (r, σ') ∧ fX9_fill_8 124 m' τ (nI x) 0 = some (r, τ') ∧ (∀ c, c ≠ 11 → c ≠ 13 → c ≠ 15 → σ' c = σ c) ∧ (∀ c, c ≠ 125 → c ≠ 128 → c ≠ 129 → τ' c = τ c) ∧ DDo σ' 1 (τ' 125) w h n := by
  intro u
  induction u with
  | zero =>
    intro m m' x σ τ D hc hx hm hm'
    have n12 := D.2.1.2.1.2.2.2.2
    obtain ⟨m, rfl⟩ : ∃ q, m = q + 1 := ⟨m - 1, by omega⟩
    rcases scan n 0 gF m' (nI x) σ τ D (by omega) (gF_lt (by omega)) (by omega) with ⟨τ', p8, p9, F⟩ | ⟨s, k, o, τ', a1, a2, -⟩
    · refine ⟨nI x, σ, τ', ?_, p9, fun _ _ _ _ => rfl, fun c _ h2 h3 => F c h2 h3, by rw [F 125 (by decide) (by decide)]; exact D⟩
      rw [fX8_fill_13]
      by_cases c : (12 : Int32) ≤ nI x
      · rw [if_pos c]
      · unfold fX0_layNext
        rw [if_neg c, show fX0_layNext_2 (0 + 1) gF σ 0 = _ from p8, bp, if_pos rfl]
    · have := cU_dn (g := fun t => τ 125 (123 + t)) (v := s) (x := 0) a2 (by decide) n a1
      omega
  | succ u ih =>
    intro m m' x σ τ D hc hx hm hm'
    have n12 := D.2.1.2.1.2.2.2.2
    obtain ⟨w1, w6, h1, h6, -⟩ := D.2.1.2.1
    have hwh := wh_le w6 h6
    obtain ⟨m, rfl⟩ : ∃ q, m = q + 1 := ⟨m - 1, by omega⟩
    have x12 : ¬ (12 : Int32) ≤ nI x := nI_ge (b := 12) (by omega) (by decide)
    rcases scan n 0 gF m' (nI x) σ τ D (by omega) (gF_lt (by omega)) (by omega) with ⟨τ', p8, p9, F⟩ | ⟨s, k, o, τ', a1, a2, a3, a4, a5, F, p8, q, b1, b2⟩
    · refine ⟨nI x, σ, τ', ?_, p9, fun _ _ _ _ => rfl, fun c _ h2 h3 => F c h2 h3, by rw [F 125 (by decide) (by decide)]; exact D⟩
      unfold fX8_fill_13 fX0_layNext
      rw [if_neg x12, show fX0_layNext_2 (0 + 1) gF σ 0 = _ from p8, bp, if_pos rfl]
    · obtain ⟨σ1, s1, A1, D1⟩ := put8 D a1 a3 a4 (fun t ht hq => absurd hq (sc_none a5 ht)) (Or.inl a2)
      have dn := cU_dn (g := fun t => τ 125 (123 + t)) (v := s) (x := nI k) a2 (m1_ne (by omega)) n a1
      obtain ⟨r, σ2, τ2, r8, r9, B1, B2, D2⟩ := ih m q (x + 1) σ1 (gset τ' 125 (pF (τ 125) s (nI k) (nI o))) (by rw [gset_at]; exact D1) (by rw [gset_at, pF_pl (by omega)]; omega) (by omega) (by omega) (by omega)
      refine ⟨r, σ2, τ2, ?_, ?_, fun c h1 h2 h3 => (B1 c h1 h2 h3).trans (A1 c (by omega) (by omega) (by omega)), fun c h1 h2 h3 => (B2 c h1 h2 h3).trans ((gset_ne h1).trans (F c h2 h3)), D2⟩
      · unfold fX8_fill_13 fX0_layNext
        rw [if_neg x12, show fX0_layNext_2 (0 + 1) gF σ 0 = _ from p8, s1, Option.bind_some, bp, if_neg n10, gl_e, nIa1]
        exact r8
      · rw [show fX9_fill_8 124 m' τ (nI x) 0 = _ from b2, nIa1]
        exact r9
theorem step_fill : gs_fill RR := by
  intro σ τ R
  obtain ⟨w, h, n, D⟩ := R.1
  have n12 := D.2.1.2.1.2.2.2.2
  obtain ⟨σ1, τ1, q8, q9, K⟩ := R.kept
  obtain ⟨e5, D1⟩ := K.desk
  have D1 := D1 D
  have cl := cU_le (fun t => τ1 125 (123 + t)) n
  obtain ⟨r, σ2, τ2, p8, p9, A, B, D2⟩ := filM (w := w) (h := h) (n := n) 12 gF gF 0 σ1 τ1 D1 (by omega) (by decide) (gF_lt (by decide)) (gF_lt (by decide))
  refine ⟨r, σ2, τ2, ?_, ?_, R.new K (fun c hc => A c (by omega) (by omega) (by omega)) (fun c hc => B c (by omega) (by omega) (by omega)) D2⟩
  · unfold fX8_fill
    rw [show fX3_keep σ (0 + 31) (0 + 1) = _ from q8, Option.bind_some]
    exact p8
  · unfold fX9_fill
    rw [q9, Option.bind_some]
    exact p9
