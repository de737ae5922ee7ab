/-! A SCRAP IS REMOVED: the snapshot behind, the class's side, the call -/
def shf (s t : Nat) : Nat := if t < s then t else t + 1
/-- the snapshot behind a removal -/
def zF (f : Nat → Int32) (n s : Nat) : Nat → Int32 := zS (upd f 2 (nI (n - 1))) s (n - 1)
theorem zF_t {f : Nat → Int32} {n s t : Nat} (n12 : n ≤ 12) (ht : t < n - 1) : (∀ e, e < 4 → zF f n s (3 + 4 * t + e) = f (3 + 4 * shf s t + e) ∧ zF f n s (51 + 4 * t + e) = f (51 + 4 * shf s t + e)) ∧ zF f n s (99 + t) = f (99 + shf s t) ∧ zF f n s (111 + t) = f (111 + shf s t) ∧ zF f n s (123 + t) = f (123 + shf s t) := by
  unfold zF zS shf
  by_cases c : t < s
  · rw [if_pos c]
    refine ⟨fun e he => ⟨?_, ?_⟩, ?_, ?_, ?_⟩
    · rw [zG_f (by omega) (by omega) (by omega) (by omega) (by omega), pk_un (by omega)]
    · rw [zG_f (by omega) (by omega) (by omega) (by omega) (by omega), pk_un (by omega)]
    · rw [zG_f (by omega) (by omega) (by omega) (by omega) (by omega), pk_un (by omega)]
    · rw [zG_f (by omega) (by omega) (by omega) (by omega) (by omega), pk_un (by omega)]
    · rw [zG_f (by omega) (by omega) (by omega) (by omega) (by omega), pk_un (by omega)]
  · rw [if_neg c]
    unfold zG
    refine ⟨fun e he => ⟨?_, ?_⟩, ?_, ?_, ?_⟩
    · rw [if_pos (by omega), pk_un (by omega)]
      exact congrArg f (by omega)
    · rw [if_neg (by omega), if_pos (by omega), pk_un (by omega)]
      exact congrArg f (by omega)
    · rw [if_neg (by omega), if_neg (by omega), if_pos (by omega), pk_un (by omega)]
      exact congrArg f (by omega)
    · rw [if_neg (by omega), if_neg (by omega), if_neg (by omega), if_pos (by omega), pk_un (by omega)]
      exact congrArg f (by omega)
    · rw [if_neg (by omega), if_neg (by omega), if_neg (by omega), if_neg (by omega), if_pos (by omega), pk_un (by omega)]
      exact congrArg f (by omega)
theorem zF_0 {f : Nat → Int32} {n s : Nat} : zF f n s 0 = f 0 ∧ zF f n s 1 = f 1 ∧ zF f n s 2 = nI (n - 1) := by
  unfold zF zS
  refine ⟨?_, ?_, ?_⟩
  · rw [zG_f (by omega) (by omega) (by omega) (by omega) (by omega), pk_un (by omega)]
  · rw [zG_f (by omega) (by omega) (by omega) (by omega) (by omega), pk_un (by omega)]
  · rw [zG_f (by omega) (by omega) (by omega) (by omega) (by omega), pk_us]
theorem shf_lt {n s t : Nat} (hs : s < n) (ht : t < n - 1) : shf s t < n := by
  unfold shf
  split <;> omega
theorem shf_in {s t t' : Nat} (h : shf s t = shf s t') : t = t' := by
  unfold shf at h
  split at h <;> split at h <;> omega
theorem okf_rem {f : Nat → Int32} {w h n s : Nat} (O : OKf f w h n) (hs : s < n) : OKf (zF f n s) w h (n - 1) := by
  obtain ⟨⟨f0, f1, f2⟩, ⟨w1, w6, h1, h6, n12⟩, a, b, c, d, e, u⟩ := O
  obtain ⟨z0, z1, z2⟩ := zF_0 (f := f) (n := n) (s := s)
  refine ⟨⟨z0.trans f0, z1.trans f1, z2⟩, ⟨w1, w6, h1, h6, by omega⟩, ?_, ?_, ?_, ?_, ?_, ?_⟩
  · intro t ht
    rw [(zF_t n12 ht).2.1]
    exact a _ (shf_lt hs ht)
  · intro t x ht hx
    rw [((zF_t n12 ht).1 x hx).1]
    exact b _ x (shf_lt hs ht) hx
  · intro t ht
    rw [(zF_t n12 ht).2.2.2]
    exact c _ (shf_lt hs ht)
  · intro t ht
    rw [(zF_t n12 ht).2.2.1]
    exact d _ (shf_lt hs ht)
  · intro t ht
    rw [(zF_t n12 ht).2.2.1, (zF_t n12 ht).2.2.2]
    exact e _ (shf_lt hs ht)
  · intro t t' k ht ht' hk
    rw [(zF_t n12 ht).2.2.2, (zF_t n12 ht').2.2.2]
    intro e1 e2
    exact shf_in (u _ _ k (shf_lt hs ht) (shf_lt hs ht') hk e1 e2)
theorem ctL {σ : gM} {t N a b : Nat} (hN : gln (t + 1) = N) (h : a + b ≤ N) : ∃ σ', fX5_cut σ t (nI a) (nI b) = some σ' ∧ (∀ c, c ≠ t + 1 → σ' c = σ c) ∧ ∀ j, σ' (t + 1) j = if a ≤ j ∧ j + b < N then σ (t + 1) (j + b) else σ (t + 1) j := by
  have hb := gln_lt (t + 1)
  refine ⟨gset σ (t + 1) (va_cpy (σ (t + 1)) (σ (t + 1)) (a + b) a (N - b - a)), ?_, fun c hc => gset_ne hc, fun j => ?_⟩
  · unfold fX5_cut
    rw [hN, pk_sub (by omega), pk_sub (by omega), gl_e, if_neg (nI_pos (by omega)), if_neg (nI_pos (by omega)), if_neg (nI_pos (by omega)), nIa, nI_cl (n := a + b) (by omega), nI_cl (n := a) (by omega), nI_cl (n := N - b - a) (by omega), if_pos ⟨nI_pos (by omega), nI_pos (by omega), nI_pos (by omega), by omega, by omega⟩, gl_e]
  · rw [gset_at]
    by_cases c : a ≤ j ∧ j + b < N
    · rw [if_pos c, pk_cpy_in (by omega) (by omega), show a + b + (j - a) = j + b by omega]
    · rw [if_neg c, pk_cpy_out (by omega)]
theorem scF_e {f : Nat → Int32} {k : Nat} : ∀ (d i : Nat), (∀ q, scF f k d i = some q → scF f k (d + 1) i = some q) ∧ (scF f k d i = none → scF f k (d + 1) i = if f (123 + (i + d)) = nI k then some (i + d) else none) := by
  intro d
  induction d with
  | zero => exact fun i => ⟨(fun q h => by cases h), fun _ => rfl⟩
  | succ d ih =>
    intro i
    obtain ⟨h1, h2⟩ := ih (i + 1)
    have s1 : scF f k (d + 1) i = if f (123 + i) = nI k then some i else scF f k d (i + 1) := rfl
    have s2 : scF f k (d + 1 + 1) i = if f (123 + i) = nI k then some i else scF f k (d + 1) (i + 1) := rfl
    rw [s1, s2]
    by_cases c : f (123 + i) = nI k
    · rw [if_pos c, if_pos c]
      exact ⟨fun q h => h, fun h => by cases h⟩
    · rw [if_neg c, if_neg c, show i + (d + 1) = i + 1 + d by omega]
      exact ⟨h1, h2⟩
theorem sc_e {g : Nat → Int32} {k i : Nat} : (g (123 + i) ≠ nI k → sc g (i + 1) k = sc g i k) ∧ (sc g i k = none → g (123 + i) = nI k → sc g (i + 1) k = some i) := by
  obtain ⟨h1, h2⟩ := scF_e (f := g) (k := k) i 0
  rw [Nat.zero_add] at h2
  refine ⟨fun c => ?_, fun h c => (h2 h).trans (if_pos c)⟩
  cases hs : sc g i k with
  | some q => exact h1 q hs
  | none => exact (h2 hs).trans (if_neg c)
theorem sc_more {g : Nat → Int32} {k n' : Nat} : ∀ d, (∀ t, n' ≤ t → t < n' + d → g (123 + t) ≠ nI k) → sc g (n' + d) k = sc g n' k := by
  intro d
  induction d with
  | zero => exact fun _ => rfl
  | succ d ih => exact fun H => (sc_e.1 (H (n' + d) (by omega) (by omega))).trans (ih (fun t h1 h2 => H t h1 (by omega)))
theorem rm48 {d : Nat} {a1 : Int32} {g : Nat → Int32} (G : gD d) (P : ∀ t, t < 12 → g (123 + t) = -1 ∨ ∃ k, k < 36 ∧ g (123 + t) = nI k) (U : ∀ t t' k, t < 12 → t' < 12 → k < 36 → g (123 + t) = nI k → g (123 + t') = nI k → t = t') : ∀ (j i m : Nat) (σ : gM), i + j = 12 → j < m → (∀ t, t < 12 → σ (d + 10) t = g (123 + t)) → (∀ k, k < 36 → σ (d + 14) k = oI (sc g i k)) → ∃ σ', fX4_remove_48 (d + 8) a1 m σ (nI i) = some σ' ∧ (∀ c, c ≠ d + 14 → σ' c = σ c) ∧ ∀ k, k < 36 → σ' (d + 14) k = oI (sc g 12 k) := by
  intro j
  induction j with
  | zero =>
    intro i m σ hi hm hp hl
    obtain ⟨m, rfl⟩ : ∃ q, m = q + 1 := ⟨m - 1, by omega⟩
    obtain rfl : i = 12 := by omega
    refine ⟨σ, ?_, fun _ _ => rfl, hl⟩
    rw [fX4_remove_48, if_pos (show (12 : Int32) ≤ nI 12 by decide)]
  | succ j ih =>
    intro i m σ hi hm hp hl
    obtain ⟨m, rfl⟩ : ∃ q, m = q + 1 := ⟨m - 1, by omega⟩
    rw [fX4_remove_48, if_neg (show ¬ (12 : Int32) ≤ nI i from nI_ge (b := 12) (by omega) (by decide)), get_in (show i < gln (d + 10) by rw [G.2.2.2.1]; omega), Option.bind_some, show σ (d + 8 + 1 + 1) i = g (123 + i) from hp i (by omega)]
    rcases P i (by omega) with c | ⟨k0, hk0, c⟩
    · rw [c, set_m1, Option.bind_some, gl_e, nIa1]
      exact ih (i + 1) m σ (by omega) (by omega) hp (fun k hk => by rw [sc_e.1 (by rw [c]; exact m1_ne' (by omega))]; exact hl k hk)
    · rw [c, set_in (show k0 < gln (d + 14) by rw [G.2.2.2.2.2]; exact hk0), Option.bind_some, gl_e, nIa1]
      obtain ⟨σ', p, a, b⟩ := ih (i + 1) m (gset σ (d + 14) (upd (σ (d + 14)) k0 (nI i))) (by omega) (by omega) (fun t ht => by rw [gset_ne (by omega)]; exact hp t ht) (fun k hk => by
        rw [gset_at]
        by_cases ck : k = k0
        · subst ck
          rw [pk_us, sc_e.2 (by
            cases hq : sc g i k with
            | none => rfl
            | some q =>
              have h1 := sc_lt hq
              have := U q i k (by omega) (by omega) hk h1.2 c
              omega) c]
          rfl
        · rw [pk_un ck, sc_e.1 (by rw [c]; exact fun q => ck ((nI_eq (by omega) (by omega)).mp q).symm)]
          exact hl k hk)
      exact ⟨σ', p, fun x hx => (a x hx).trans (gset_ne hx), b⟩
theorem rem8 {σ : gM} {d w h n s : Nat} {f : Nat → Int32} (D : DDo σ d f w h n) (hs : s < n) : ∃ σ', fX0_remove σ d (nI s) = some σ' ∧ (∀ c, (c ≤ d ∨ d + 15 ≤ c) → σ' c = σ c) ∧ DDo σ' d (zF f n s) w h (n - 1) := by
  have n12 := D.2.1.2.1.2.2.2.2
  have O' := okf_rem D.2.1 hs
  obtain ⟨w1, w6, h1, h6, -⟩ := D.2.1.2.1
  have hwh := wh_le w6 h6
  obtain ⟨G, O, ⟨z1, z2, z3⟩, y1, y2, y3, y4, y5⟩ := D
  obtain ⟨s1, p1, a1, b1⟩ := ctL (σ := σ) (t := d + 1 + 1) (a := s) (b := 1) G.1 (by omega)
  obtain ⟨s2, p2, a2, b2⟩ := ctL (σ := s1) (t := d + 1 + 3) (a := s * 32) (b := 32) G.2.1 (by omega)
  obtain ⟨s3, p3, a3, b3⟩ := ctL (σ := s2) (t := d + 1 + 5) (a := s * 32) (b := 32) G.2.2.1 (by omega)
  have a4 : ∀ c, c ≠ d + 1 → gset s3 (d + 1) (upd (s3 (d + 1)) 3 (s3 (d + 1) 3 - 1)) c = s3 c := fun c hc => gset_ne hc
  have b4 : gset s3 (d + 1) (upd (s3 (d + 1)) 3 (s3 (d + 1) 3 - 1)) (d + 1) 3 = nI (n - 1) := by
    rw [gset_at, pk_us, a3 _ (by omega), a2 _ (by omega), a1 _ (by omega), z1, nIs1 (by omega)]
  generalize hs4 : gset s3 (d + 1) (upd (s3 (d + 1)) 3 (s3 (d + 1) 3 - 1)) = s4 at a4 b4
  obtain ⟨s5, p5, a5, b5⟩ := ctL (σ := s4) (t := d + 8 + 1) (a := s) (b := 1) G.2.2.2.1 (by omega)
  have a6 : ∀ c, c ≠ d + 10 → gset s5 (d + 10) (upd (s5 (d + 10)) 11 (-1)) c = s5 c := fun c hc => gset_ne hc
  have b6 : gset s5 (d + 10) (upd (s5 (d + 10)) 11 (-1)) (d + 10) = upd (s5 (d + 10)) 11 (-1) := gset_at
  generalize hs6 : gset s5 (d + 10) (upd (s5 (d + 10)) 11 (-1)) = s6 at a6 b6
  obtain ⟨s7, p7, a7, b7⟩ := ctL (σ := s6) (t := d + 8 + 3) (a := s) (b := 1) G.2.2.2.2.1 (by omega)
  have a8 : ∀ c, c ≠ d + 12 → gset s7 (d + 12) (upd (s7 (d + 12)) 11 0) c = s7 c := fun c hc => gset_ne hc
  have b8 : gset s7 (d + 12) (upd (s7 (d + 12)) 11 0) (d + 12) = upd (s7 (d + 12)) 11 0 := gset_at
  generalize hs8 : gset s7 (d + 12) (upd (s7 (d + 12)) 11 0) = s8 at a8 b8
  obtain ⟨s9, p9, a9, b9⟩ := stA (σ := s8) (t := d + 8 + 5) (v := -1) G.2.2.2.2.2
  have e10 : s9 (d + 10) = upd (s5 (d + 10)) 11 (-1) := by rw [a9 _ (by omega), a8 _ (by omega), a7 _ (by omega), b6]
  have e12 : s9 (d + 12) = upd (s7 (d + 12)) 11 0 := by rw [a9 _ (by omega), b8]
  have o10 : s4 (d + 10) = σ (d + 10) := by rw [a4 _ (by omega), a3 _ (by omega), a2 _ (by omega), a1 _ (by omega)]
  have o12 : s6 (d + 12) = σ (d + 12) := by rw [a6 _ (by omega), a5 _ (by omega), a4 _ (by omega), a3 _ (by omega), a2 _ (by omega), a1 _ (by omega)]
  have place : ∀ t, t < 12 → s9 (d + 10) t = if t < n - 1 then zF f n s (123 + t) else -1 := by
    intro t ht
    rw [e10]
    by_cases c1 : t = 11
    · rw [c1, pk_us, if_neg (by omega)]
    · rw [pk_un c1, show s5 (d + 10) t = _ from b5 t, show s4 (d + 8 + 1 + 1) = _ from o10]
      by_cases c2 : t < n - 1
      · rw [if_pos c2, (zF_t n12 c2).2.2.2]
        unfold shf
        by_cases c3 : t < s
        · rw [if_neg (by omega), if_pos c3, y3 t ht, if_pos (by omega)]
        · rw [if_pos (by omega), if_neg c3, y3 (t + 1) (by omega), if_pos (by omega)]
      · rw [if_neg c2, if_pos (by omega), y3 (t + 1) (by omega), if_neg (by omega)]
  have orient : ∀ t, t < 12 → s9 (d + 12) t = if t < n - 1 then zF f n s (111 + t) else 0 := by
    intro t ht
    rw [e12]
    by_cases c1 : t = 11
    · rw [c1, pk_us, if_neg (by omega)]
    · rw [pk_un c1, show s7 (d + 12) t = _ from b7 t, show s6 (d + 8 + 3 + 1) = _ from o12]
      by_cases c2 : t < n - 1
      · rw [if_pos c2, (zF_t n12 c2).2.2.1]
        unfold shf
        by_cases c3 : t < s
        · rw [if_neg (by omega), if_pos c3, y4 t ht, if_pos (by omega)]
        · rw [if_pos (by omega), if_neg c3, y4 (t + 1) (by omega), if_pos (by omega)]
      · rw [if_neg c2, if_pos (by omega), y4 (t + 1) (by omega), if_neg (by omega)]
  have gv : ∀ t, s9 (d + 10) (123 + t - 123) = s9 (d + 10) t := fun t => congrArg (s9 (d + 10)) (by omega)
  have gP : ∀ t, t < 12 → s9 (d + 10) t = -1 ∨ ∃ k, k < 36 ∧ s9 (d + 10) t = nI k := by
    intro t ht
    rw [place t ht]
    by_cases c : t < n - 1
    · rw [if_pos c]
      rcases O'.pl c with q | ⟨k, hk, q⟩
      · exact Or.inl q
      · exact Or.inr ⟨k, by omega, q⟩
    · rw [if_neg c]
      exact Or.inl rfl
  have gU : ∀ t t' k, t < 12 → t' < 12 → k < 36 → s9 (d + 10) t = nI k → s9 (d + 10) t' = nI k → t = t' := by
    intro t t' k ht ht' hk
    rw [place t ht, place t' ht']
    intro e1 e2
    by_cases c : t < n - 1
    · by_cases c' : t' < n - 1
      · rw [if_pos c] at e1
        rw [if_pos c'] at e2
        exact O'.2.2.2.2.2.2.2 t t' k c c' hk e1 e2
      · rw [if_neg c'] at e2
        exact absurd e2 (m1_ne' (by omega))
    · rw [if_neg c] at e1
      exact absurd e1 (m1_ne' (by omega))
  obtain ⟨s10, p10, a10, b10⟩ := rm48 (d := d) (a1 := nI s) (g := fun j => s9 (d + 10) (j - 123)) G (fun t ht => by rw [gv]; exact gP t ht) (fun t t' k ht ht' hk => by rw [gv, gv]; exact gU t t' k ht ht' hk) 12 0 gF s9 rfl (gF_lt (by decide)) (fun t ht => (gv t).symm) (fun k hk => b9 k hk)
  have far : ∀ c, (c ≤ d ∨ d + 15 ≤ c) → s10 c = σ c := fun c hc => by rw [a10 c (by omega), a9 c (by omega), a8 c (by omega), a7 c (by omega), a6 c (by omega), a5 c (by omega), a4 c (by omega), a3 c (by omega), a2 c (by omega), a1 c (by omega)]
  have pg : s10 (d + 8) = σ (d + 8) := by rw [a10 _ (by omega), a9 _ (by omega), a8 _ (by omega), a7 _ (by omega), a6 _ (by omega), a5 _ (by omega), a4 _ (by omega), a3 _ (by omega), a2 _ (by omega), a1 _ (by omega)]
  refine ⟨s10, ?_, far, G, O', ⟨?_, ?_, ?_⟩, ?_, ?_, ?_, ?_, ?_⟩
  · unfold fX0_remove fX6_remove fX4_remove
    rw [if_neg (nI_pos (by omega)), z1, if_pos (nI_lt hs (by omega)), show fX5_cut σ (d + 1 + 1) (nI s) 1 = _ from p1, Option.bind_some, show (32 : Int32) = nI 32 from rfl, pk_mul, p2, Option.bind_some, p3, Option.bind_some, gl_e, hs4, Option.bind_some, show fX5_cut s4 (d + 8 + 1) (nI s) 1 = _ from p5, Option.bind_some, show fX5_set s5 (d + 8 + 1) 11 (-1) = some s6 from (set_in (t := d + 8 + 1) (k := 11) (by rw [show gln (d + 8 + 1 + 1) = 12 from G.2.2.2.1]; decide)).trans (congrArg some hs6), Option.bind_some, show fX5_cut s6 (d + 8 + 3) (nI s) 1 = _ from p7, Option.bind_some, show fX5_set s7 (d + 8 + 3) 11 0 = some s8 from (set_in (t := d + 8 + 3) (k := 11) (by rw [show gln (d + 8 + 3 + 1) = 12 from G.2.2.2.2.1]; decide)).trans (congrArg some hs8), Option.bind_some, p9, Option.bind_some, show fX4_remove_48 (d + 8) (nI s) gF s9 0 = _ from p10, Option.bind_some]
  · rw [a10 _ (by omega), a9 _ (by omega), a8 _ (by omega), a7 _ (by omega), a6 _ (by omega), a5 _ (by omega)]
    exact b4
  · rw [pg]
    exact z2
  · rw [pg]
    exact z3
  · intro t ht
    rw [a10 _ (by omega), a9 _ (by omega), a8 _ (by omega), a7 _ (by omega), a6 _ (by omega), a5 _ (by omega), a4 _ (by omega), a3 _ (by omega), a2 _ (by omega), show s1 (d + 3) t = _ from b1 t, (zF_t n12 ht).2.1]
    unfold shf
    by_cases c3 : t < s
    · rw [if_neg (by omega), if_pos c3]
      exact y1 t (by omega)
    · rw [if_pos (by omega), if_neg c3]
      exact y1 (t + 1) (by omega)
  · intro t o e ht ho he
    have hg := og_lt o e
    have e5 : s10 (d + 5) = s2 (d + 5) := by rw [a10 _ (by omega), a9 _ (by omega), a8 _ (by omega), a7 _ (by omega), a6 _ (by omega), a5 _ (by omega), a4 _ (by omega), a3 _ (by omega)]
    have e7 : s10 (d + 7) = s3 (d + 7) := by rw [a10 _ (by omega), a9 _ (by omega), a8 _ (by omega), a7 _ (by omega), a6 _ (by omega), a5 _ (by omega), a4 _ (by omega)]
    have o5 : s1 (d + 5) = σ (d + 5) := a1 _ (by omega)
    have o7 : s2 (d + 7) = σ (d + 7) := by rw [a2 _ (by omega), a1 _ (by omega)]
    have hsh := shf_lt hs ht
    obtain ⟨q1, q2⟩ := y2 (shf s t) o e hsh ho he
    have tp : tP (zF f n s) t o e = tP f (shf s t) o e := by
      unfold tP
      rw [((zF_t n12 ht).1 _ hg).1]
    have tl : tL (zF f n s) t o e = tL f (shf s t) o e := by
      unfold tL
      rw [((zF_t n12 ht).1 _ hg).2, (zF_t n12 ht).2.1]
    rw [tp, tl, ← q1, ← q2, e5, e7, show s2 (d + 5) (t * 32 + o * 4 + e) = _ from b2 _, show s3 (d + 7) (t * 32 + o * 4 + e) = _ from b3 _, show s1 (d + 1 + 3 + 1) = _ from o5, show s2 (d + 1 + 5 + 1) = _ from o7]
    unfold shf
    by_cases c3 : t < s
    · rw [if_pos c3, if_neg (show ¬ (s * 32 ≤ t * 32 + o * 4 + e ∧ t * 32 + o * 4 + e + 32 < 384) by omega), if_neg (show ¬ (s * 32 ≤ t * 32 + o * 4 + e ∧ t * 32 + o * 4 + e + 32 < 384) by omega)]
      exact ⟨rfl, rfl⟩
    · rw [if_neg c3, if_pos (show s * 32 ≤ t * 32 + o * 4 + e ∧ t * 32 + o * 4 + e + 32 < 384 by omega), if_pos (show s * 32 ≤ t * 32 + o * 4 + e ∧ t * 32 + o * 4 + e + 32 < 384 by omega), show (t + 1) * 32 + o * 4 + e = t * 32 + o * 4 + e + 32 by omega]
      exact ⟨rfl, rfl⟩
  · intro t ht
    rw [a10 _ (by omega)]
    exact place t ht
  · intro t ht
    rw [a10 _ (by omega)]
    exact orient t ht
  · intro k hk
    rw [b10 k hk]
    refine congrArg oI ?_
    have := sc_more (g := fun j => s9 (d + 10) (j - 123)) (k := k) (n' := n - 1) (12 - (n - 1)) (fun t h1 h2 => by
      show s9 (d + 10) (123 + t - 123) ≠ nI k
      rw [gv, place t (by omega), if_neg (by omega)]
      exact m1_ne' (by omega))
    rw [show n - 1 + (12 - (n - 1)) = 12 by omega] at this
    rw [this]
    exact sc_cong (fun t ht => by
      show s9 (d + 10) (123 + t - 123) = _
      rw [gv, place t (by omega), if_pos ht]) k
theorem step_removeScrap : gs_removeScrap RR := by
  intro σ τ a1 R
  obtain ⟨w, h, n, D⟩ := R.1
  have O := D.2.1
  have n12 := O.2.1.2.2.2.2
  unfold fX8_removeScrap fX9_removeScrap
  rw [isc8 D, isc9 O, Option.bind_some, Option.bind_some]
  rcases inN a1 (n := n) (by omega) with c | ⟨s, hs, rfl, c⟩
  · rw [c, if_pos rfl, if_pos rfl]
    exact ⟨_, _, _, rfl, rfl, R⟩
  · obtain ⟨σ1, τ1, q8, q9, K⟩ := R.kept
    obtain ⟨e5, D1⟩ := K.desk
    have D1 := D1 D
    rw [e5] at D1
    obtain ⟨σ2, p8, a8, D2⟩ := rem8 D1 hs
    have p9 := rm28 (a1 := nI s) (f := upd (τ 125) 2 (nI (n - 1))) (s := s) n12 pk_us (n - 1 - s) s gF (gset τ1 125 (upd (τ 125) 2 (nI (n - 1)))) (by omega) (Nat.le_refl _) (gF_lt (by omega)) (by rw [gset_at, zS_0])
    rw [c, if_neg n10, if_neg n10, q9, Option.bind_some, if_pos k12, if_pos k12, gl_e, cl_2, show (124 + 1 : Nat) = 125 from rfl, e5, O.1.2.2, nIs1 (by omega), p9, gset2, show fX3_keep σ (0 + 31) (0 + 1) = _ from q8, Option.bind_some, show fX0_remove σ1 (0 + 1) (nI s) = _ from p8, Option.bind_some, show fX6_size σ2 (0 + 1 + 1) = _ from siz8 D2, Option.bind_some]
    refine ⟨_, _, _, rfl, rfl, R.new K (w := w) (h := h) (n := n - 1) (fun c hc => a8 c (by omega)) (fun c hc => gset_ne (by omega)) ?_⟩
    rw [gset_at]
    exact D2
