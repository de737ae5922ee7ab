/-! RESET -/
theorem gset2 {σ : gM} {a : Nat} {u v : Nat → Int32} : gset (gset σ a u) a v = gset σ a v := by
  funext c
  by_cases h : c = a
  · rw [h, gset_at, gset_at]
  · rw [gset_ne h, gset_ne h, gset_ne h]
theorem filL {o N : Nat} {v : Int32} (hN : gln o = N) : ∀ (d i m : Nat) (σ : gM), i + d = N → d < m → ∃ σ', fJ7_fill_53178_5 o v m σ (nI i) (nI N) = some σ' ∧ (∀ c, c ≠ o → σ' c = σ c) ∧ (∀ j, i ≤ j → j < N → σ' o j = v) ∧ (∀ j, j < i → σ' o j = σ o j) := by
  have hb := gln_lt o
  intro d
  induction d with
  | zero =>
    intro i m σ hi hm
    obtain ⟨m, rfl⟩ : ∃ q, m = q + 1 := ⟨m - 1, by omega⟩
    obtain rfl : i = N := by omega
    refine ⟨σ, ?_, fun c _ => rfl, fun j h1 h2 => by omega, fun j _ => rfl⟩
    rw [fJ7_fill_53178_5, if_pos (Int32.le_refl _)]
  | succ d ih =>
    intro i m σ hi hm
    obtain ⟨m, rfl⟩ : ∃ q, m = q + 1 := ⟨m - 1, by omega⟩
    obtain ⟨σ', p, a, b, c⟩ := ih (i + 1) m (gset σ o (upd (σ o) i v)) (by omega) (by omega)
    refine ⟨σ', ?_, fun x h => (a x h).trans (gset_ne h), fun j h1 h2 => ?_, fun j hj => ?_⟩
    · rw [fJ7_fill_53178_5, if_neg (nI_ge (by omega) (by omega)), if_pos (nI_in (by omega) (by omega)), gl_e, gl_e, nI_cl (by omega), nIa1]
      exact p
    · by_cases cj : j = i
      · subst cj
        rw [c j (by omega), gset_at, pk_us]
      · exact b j (by omega) h2
    · rw [c j (by omega), gset_at, pk_un (by omega)]
theorem stA {σ : gM} {t N : Nat} {v : Int32} (hN : gln (t + 1) = N) : ∃ σ', fX5_setAll σ t v = some σ' ∧ (∀ c, c ≠ t + 1 → σ' c = σ c) ∧ (∀ j, j < N → σ' (t + 1) j = v) := by
  have hb := gln_lt (t + 1)
  obtain ⟨σ', p, a, b, c⟩ := filL (v := v) hN N 0 gF σ (by omega) (gF_lt (by omega))
  refine ⟨σ', ?_, a, fun j hj => b j (by omega) hj⟩
  unfold fX5_setAll fJ7_fill_53178
  rw [gl_e, hN, show fJ7_fill_53178_5 (t + 1) v gF σ 0 (nI N) = _ from p, Option.bind_some]
def gLy (f : Nat → Int32) (i a : Nat) : Nat := if f (123 + i) = -1 then a else a + 1
def nLy (f : Nat → Int32) (n : Nat) : Nat := up (gLy f) n 0 0
theorem nLy_le (f : Nat → Int32) (n : Nat) : nLy f n ≤ n := by
  have := up_le (g := gLy f) (fun i a => by unfold gLy; split <;> omega) n 0 0
  unfold nLy
  omega
theorem cly8L {σ : gM} {t w h n : Nat} {f : Nat → Int32} (D : DDo σ t f w h n) : ∀ (d i m a : Nat), i + d = n → d < m → fX0_countLying_4 σ t m (nI a) (nI i) = some (nI (up (gLy f) d i a)) := by
  have n12 := D.2.1.2.1.2.2.2.2
  intro d
  induction d with
  | zero =>
    intro i m a hi hm
    obtain ⟨m, rfl⟩ : ∃ q, m = q + 1 := ⟨m - 1, by omega⟩
    rw [fX0_countLying_4, siz8 D, Option.bind_some, if_pos (nI_le (by omega) (by omega)), up_0]
  | succ d ih =>
    intro i m a hi hm
    obtain ⟨m, rfl⟩ : ∃ q, m = q + 1 := ⟨m - 1, by omega⟩
    rw [fX0_countLying_4, siz8 D, Option.bind_some, if_neg (nI_ge (by omega) (by omega)), lie8 D (by omega), Option.bind_some, up_s, gl_e, gl_e, gl_e, nIa1, nIa1]
    unfold gLy
    by_cases c : f (123 + i) = -1
    · rw [if_pos c, if_pos rfl, if_pos c]
      exact ih (i + 1) m a (by omega) (by omega)
    · rw [if_neg c, if_neg n10, if_neg c]
      exact ih (i + 1) m (a + 1) (by omega) (by omega)
theorem cly8 {σ : gM} {t w h n : Nat} {f : Nat → Int32} (D : DDo σ t f w h n) : fX0_countLying σ t = some (nI (nLy f n)) := cly8L D n 0 gF 0 (by omega) (gF_lt (by have := D.2.1.2.1.2.2.2.2; omega))
/-- the snapshot behind a reset -/
def rF (f : Nat → Int32) (w h n j : Nat) : Int32 := if j = 0 then nI w else if j = 1 then nI h else if 111 ≤ j ∧ j < 111 + n then 0 else if 123 ≤ j ∧ j < 123 + n then -1 else f j
theorem rF_mid {f : Nat → Int32} {w h n j : Nat} (h1 : 2 ≤ j) (h2 : j < 111) : rF f w h n j = f j := by
  unfold rF
  rw [if_neg (by omega), if_neg (by omega), if_neg (by omega), if_neg (by omega)]
theorem rF_o {f : Nat → Int32} {w h n s : Nat} (h1 : s < n) : rF f w h n (111 + s) = 0 := by
  unfold rF
  rw [if_neg (by omega), if_neg (by omega), if_pos (by omega)]
theorem rF_p {f : Nat → Int32} {w h n s : Nat} (h1 : s < n) (n12 : n ≤ 12) : rF f w h n (123 + s) = -1 := by
  unfold rF
  rw [if_neg (by omega), if_neg (by omega), if_neg (by omega), if_pos (by omega)]
theorem OKf.reset {f : Nat → Int32} {w h n w' h' : Nat} (O : OKf f w h n) (w1 : 1 ≤ w') (w6 : w' ≤ 6) (h1 : 1 ≤ h') (h6 : h' ≤ 6) : OKf (rF f w' h' n) w' h' n := by
  obtain ⟨⟨f0, f1, f2⟩, ⟨-, -, -, -, n12⟩, a, b, c, d, e, u⟩ := O
  refine ⟨⟨rfl, rfl, f2⟩, ⟨w1, w6, h1, h6, n12⟩, ?_, ?_, ?_, ?_, ?_, ?_⟩
  · intro s hs
    rw [rF_mid (by omega) (by omega)]
    exact a s hs
  · intro s x hs hx
    rw [rF_mid (by omega) (by omega)]
    exact b s x hs hx
  · intro s hs
    exact ⟨none, rF_p hs n12, fun k e => by cases e⟩
  · intro s hs
    exact ⟨0, by decide, rF_o hs⟩
  · intro s hs _
    exact rF_o hs
  · intro s t k hs ht hk e1
    rw [rF_p hs n12] at e1
    exact absurd e1 (m1_ne' (by omega))
theorem sc_reset {f : Nat → Int32} {w h n k : Nat} (n12 : n ≤ 12) (hk : k < 36) : sc (rF f w h n) n k = none := by
  cases hq : sc (rF f w h n) n k with
  | none => rfl
  | some q =>
    have h1 := sc_lt hq
    rw [rF_p h1.1 n12] at h1
    exact absurd h1.2 (m1_ne' (by omega))
theorem clr8 {σ : gM} {d w h n w' h' : Nat} {f : Nat → Int32} (D : DDo σ d f w h n) (w1 : 1 ≤ w') (w6 : w' ≤ 6) (h1 : 1 ≤ h') (h6 : h' ≤ 6) : ∃ σ', fX4_clear σ (d + 8) (nI w') (nI h') = some σ' ∧ (∀ c, (c ≤ d + 7 ∨ d + 15 ≤ c) → σ' c = σ c) ∧ DDo σ' d (rF f w' h' n) w' h' n := by
  have O' := D.2.1.reset w1 w6 h1 h6
  have n12 := D.2.1.2.1.2.2.2.2
  obtain ⟨G, O, ⟨z1, z2, z3⟩, y1, y2, y3, y4, y5⟩ := D
  have k2 : ∀ c, c ≠ d + 8 → gset (gset σ (d + 8) (upd (σ (d + 8)) 3 (nI w'))) (d + 8) (upd (gset σ (d + 8) (upd (σ (d + 8)) 3 (nI w')) (d + 8)) 4 (nI h')) c = σ c := fun c hc => by rw [gset_ne hc, gset_ne hc]
  have k3 : gset (gset σ (d + 8) (upd (σ (d + 8)) 3 (nI w'))) (d + 8) (upd (gset σ (d + 8) (upd (σ (d + 8)) 3 (nI w')) (d + 8)) 4 (nI h')) (d + 8) 3 = nI w' := by rw [gset_at, pk_un (by decide), gset_at, pk_us]
  have k4 : gset (gset σ (d + 8) (upd (σ (d + 8)) 3 (nI w'))) (d + 8) (upd (gset σ (d + 8) (upd (σ (d + 8)) 3 (nI w')) (d + 8)) 4 (nI h')) (d + 8) 4 = nI h' := by rw [gset_at, pk_us]
  generalize hs2 : gset (gset σ (d + 8) (upd (σ (d + 8)) 3 (nI w'))) (d + 8) (upd (gset σ (d + 8) (upd (σ (d + 8)) 3 (nI w')) (d + 8)) 4 (nI h')) = s2 at k2 k3 k4
  obtain ⟨s3, a3, b3, c3⟩ := stA (σ := s2) (t := d + 8 + 1) (v := -1) G.2.2.2.1
  obtain ⟨s4, a4, b4, c4⟩ := stA (σ := s3) (t := d + 8 + 3) (v := 0) G.2.2.2.2.1
  obtain ⟨s5, a5, b5, c5⟩ := stA (σ := s4) (t := d + 8 + 5) (v := -1) G.2.2.2.2.2
  have far : ∀ c, c ≠ d + 8 → c ≠ d + 10 → c ≠ d + 12 → c ≠ d + 14 → s5 c = σ c := fun c h1 h2 h3 h4 => by rw [b5 c (by omega), b4 c (by omega), b3 c (by omega), k2 c h1]
  have e8 : s5 (d + 8) = s2 (d + 8) := by rw [b5 _ (by omega), b4 _ (by omega), b3 _ (by omega)]
  refine ⟨s5, ?_, fun c hc => far c (by omega) (by omega) (by omega) (by omega), G, O', ⟨?_, ?_, ?_⟩, ?_, ?_, ?_, ?_, ?_⟩
  · unfold fX4_clear
    rw [gl_e, gl_e, hs2, a3, Option.bind_some, a4, Option.bind_some, a5, Option.bind_some]
  · rw [far _ (by omega) (by omega) (by omega) (by omega)]
    exact z1
  · rw [e8]
    exact k3
  · rw [e8]
    exact k4
  · intro s hs
    rw [far _ (by omega) (by omega) (by omega) (by omega), rF_mid (by omega) (by omega)]
    exact y1 s hs
  · intro s o e hs ho he
    have q1 := og_lt o e
    have e1 : tP (rF f w' h' n) s o e = tP f s o e := by
      unfold tP
      rw [rF_mid (by omega) (by omega)]
    have e2 : tL (rF f w' h' n) s o e = tL f s o e := by
      unfold tL
      rw [rF_mid (by omega) (by omega), rF_mid (by omega) (by omega)]
    rw [far _ (by omega) (by omega) (by omega) (by omega), far (d + 7) (by omega) (by omega) (by omega) (by omega), e1, e2]
    exact y2 s o e hs ho he
  · intro s hs
    rw [b5 _ (by omega), b4 _ (by omega)]
    refine (c3 s hs).trans ?_
    by_cases c : s < n
    · rw [if_pos c, rF_p c n12]
    · rw [if_neg c]
  · intro s hs
    rw [b5 _ (by omega)]
    refine (c4 s hs).trans ?_
    by_cases c : s < n
    · rw [if_pos c, rF_o c]
    · rw [if_neg c]
  · intro k hk
    rw [sc_reset n12 hk]
    exact c5 k hk
theorem on9' {τ : gM} {s : Nat} (hs : s < 12) : fX9_isOn τ 124 (nI s) = some (if τ 125 (123 + s) = -1 then 0 else 1) := by
  unfold fX9_isOn
  rw [ix123, if_pos (c125 (by omega)), nI_cl (by omega)]
  split <;> rfl
theorem res9L {n : Nat} {a1 a2 : Int32} {g : Nat → Int32} (n12 : n ≤ 12) : ∀ (d i m a : Nat) (τ : gM), i + d = n → d < m → τ 125 2 = nI n → (∀ j, 123 + i ≤ j → τ 125 j = g j) → ∃ τ', fX9_reset_33 124 a1 a2 m τ (nI a) (nI i) = some (nI (up (gLy g) d i a), τ') ∧ (∀ c, c ≠ 125 → τ' c = τ c) ∧ τ' 125 0 = a1 ∧ τ' 125 1 = a2 ∧ (∀ s, i ≤ s → s < n → τ' 125 (111 + s) = 0 ∧ τ' 125 (123 + s) = -1) ∧ (∀ j, 2 ≤ j → (∀ s, i ≤ s → s < n → j ≠ 111 + s ∧ j ≠ 123 + s) → τ' 125 j = τ 125 j) := by
  intro d
  induction d with
  | zero =>
    intro i m a τ hi hm z hg
    obtain ⟨m, rfl⟩ : ∃ q, m = q + 1 := ⟨m - 1, by omega⟩
    refine ⟨gset τ 125 (upd (upd (τ 125) 0 a1) 1 a2), ?_, fun c hc => gset_ne hc, ?_, ?_, fun s h1 h2 => by omega, fun j hj _ => ?_⟩
    · rw [fX9_reset_33, if_pos k12, show τ (124 + 1) (2 : Int32).toNatClampNeg = nI n from z, if_pos (nI_le (by omega) (by omega)), if_pos k10, gl_e, if_pos k11, gl_e, cl_0, cl_1, up_0]
      refine congrArg some (Prod.ext rfl ?_)
      show gset (gset τ 125 (upd (τ 125) 0 a1)) 125 (upd (gset τ 125 (upd (τ 125) 0 a1) 125) 1 a2) = _
      show _ = gset τ 125 (upd (upd (τ 125) 0 a1) 1 a2)
      rw [gset_at, gset2]
    · rw [gset_at, pk_un (by decide), pk_us]
    · rw [gset_at, pk_us]
    · rw [gset_at, pk_un (by omega), pk_un (by omega)]
  | succ d ih =>
    intro i m a τ hi hm z hg
    obtain ⟨m, rfl⟩ : ∃ q, m = q + 1 := ⟨m - 1, by omega⟩
    have q0 : ∀ c, c ≠ 125 → gset (gset τ 125 (upd (τ 125) (123 + i) (-1))) 125 (upd (gset τ 125 (upd (τ 125) (123 + i) (-1)) 125) (111 + i) 0) c = τ c := fun c hc => by rw [gset_ne hc, gset_ne hc]
    have q1 : gset (gset τ 125 (upd (τ 125) (123 + i) (-1))) 125 (upd (gset τ 125 (upd (τ 125) (123 + i) (-1)) 125) (111 + i) 0) 125 = upd (upd (τ 125) (123 + i) (-1)) (111 + i) 0 := by rw [gset_at, gset_at]
    generalize hs2 : gset (gset τ 125 (upd (τ 125) (123 + i) (-1))) 125 (upd (gset τ 125 (upd (τ 125) (123 + i) (-1)) 125) (111 + i) 0) = s2 at q0 q1
    obtain ⟨τ', p, b, c0, c1, c2, c3⟩ := ih (i + 1) m (if g (123 + i) = -1 then a else a + 1) s2 (by omega) (by omega) (by rw [q1, pk_un (by omega), pk_un (by omega)]; exact z) (fun j hj => by rw [q1, pk_un (by omega), pk_un (by omega)]; exact hg j (by omega))
    refine ⟨τ', ?_, fun c hc => (b c hc).trans (q0 c hc), c0, c1, fun s h1 h2 => ?_, fun j hj hn => ?_⟩
    · rw [fX9_reset_33, if_pos k12, show τ (124 + 1) (2 : Int32).toNatClampNeg = nI n from z, if_neg (nI_ge (by omega) (by omega)), on9' (by omega), Option.bind_some, ix123, ix111, hg (123 + i) (by omega), up_s]
      rw [show gLy g i a = if g (123 + i) = -1 then a else a + 1 from rfl]
      by_cases c : g (123 + i) = -1
      · rw [if_pos c] at p
        rw [if_pos c, if_pos rfl, if_pos c, gl_e, if_pos (c125 (by omega)), gl_e, if_pos (c125 (by omega)), gl_e, gl_e, nI_cl (n := 123 + i) (by omega), nI_cl (n := 111 + i) (by omega), show gset (gset τ (124 + 1) (upd (τ (124 + 1)) (123 + i) (-1))) (124 + 1) (upd (gset τ (124 + 1) (upd (τ (124 + 1)) (123 + i) (-1)) (124 + 1)) (111 + i) 0) = s2 from hs2, nIa1, Int32.add_zero]
        exact p
      · rw [if_neg c] at p
        rw [if_neg c, if_neg n10, if_neg c, gl_e, if_pos (c125 (by omega)), gl_e, if_pos (c125 (by omega)), gl_e, gl_e, nI_cl (n := 123 + i) (by omega), nI_cl (n := 111 + i) (by omega), show gset (gset τ (124 + 1) (upd (τ (124 + 1)) (123 + i) (-1))) (124 + 1) (upd (gset τ (124 + 1) (upd (τ (124 + 1)) (123 + i) (-1)) (124 + 1)) (111 + i) 0) = s2 from hs2, nIa1, nIa1]
        exact p
    · by_cases cs : s = i
      · subst cs
        refine ⟨?_, ?_⟩
        · rw [c3 _ (by omega) (fun t h1 h2 => ⟨by omega, by omega⟩), q1, pk_us]
        · rw [c3 _ (by omega) (fun t h1 h2 => ⟨by omega, by omega⟩), q1, pk_un (by omega), pk_us]
      · exact c2 s (by omega) h2
    · have h1 := hn i (by omega) (by omega)
      rw [c3 j hj (fun t h1 h2 => hn t (by omega) h2), q1, pk_un h1.1, pk_un h1.2]
theorem in6 (x : Int32) : inI x 1 6 = 0 ∨ ∃ w, 1 ≤ w ∧ w ≤ 6 ∧ x = nI w ∧ inI x 1 6 = 1 := by
  by_cases c : x < 1
  · exact Or.inl (if_pos c)
  · have c' : ¬ x.toInt < 1 := fun q => c (Int32.lt_iff_toInt_lt.mpr q)
    obtain ⟨j, hj, rfl⟩ := nI_of (x := x) (fun q => by have : x.toInt < 0 := Int32.lt_iff_toInt_lt.mp q; omega)
    rw [nI_toInt hj] at c'
    unfold inI
    rw [if_neg c]
    by_cases c2 : 6 < nI j
    · exact Or.inl (if_pos c2)
    · have : ¬ 6 < j := fun q => c2 (nI_lt (a := 6) q (by omega))
      exact Or.inr ⟨j, by omega, by omega, rfl, if_neg c2⟩
theorem step_reset : gs_reset RR := by
  intro σ τ a1 a2 R
  obtain ⟨w, h, n, D⟩ := R.1
  have O := D.2.1
  have n12 := O.2.1.2.2.2.2
  unfold fX8_reset fX9_reset
  rw [in8e, in9e, Option.bind_some, Option.bind_some]
  rcases in6 a1 with c | ⟨w', w1, w6, rfl, c⟩
  · rw [c, if_pos rfl, if_pos rfl]
    exact ⟨_, _, _, rfl, rfl, R⟩
  · rw [c, if_neg n10, if_neg n10, in8e, in9e, Option.bind_some, Option.bind_some]
    rcases in6 a2 with c | ⟨h', h1, h6, rfl, c⟩
    · rw [c, if_pos rfl, if_pos rfl]
      exact ⟨_, _, _, rfl, rfl, R⟩
    · obtain ⟨σ1, τ1, q8, q9, K⟩ := R.kept
      obtain ⟨e5, D1⟩ := K.desk
      have D1 := D1 D
      rw [e5] at D1
      obtain ⟨σ2, p8, a8, D2⟩ := clr8 D1 w1 w6 h1 h6
      obtain ⟨τ2, p9, b9, x0, x1, x2, x3⟩ := res9L (a1 := nI w') (a2 := nI h') (g := τ 125) n12 n 0 gF 0 τ1 (by omega) (gF_lt (by omega)) (by rw [e5]; exact O.1.2.2) (fun j _ => by rw [e5])
      rw [c, if_neg n10, if_neg n10, show fX0_countLying σ (0 + 1) = _ from cly8 D, Option.bind_some, show fX3_keep σ (0 + 31) (0 + 1) = _ from q8, Option.bind_some, show fX4_clear σ1 (0 + 1 + 8) (nI w') (nI h') = _ from p8, Option.bind_some, q9, Option.bind_some]
      refine ⟨_, _, _, rfl, p9, R.new K (w := w') (h := h') (n := n) (fun c hc => a8 c (by omega)) (fun c hc => b9 c (by omega)) (D2.cong (fun j hj => ?_))⟩
      unfold rF
      by_cases j0 : j = 0
      · rw [if_pos j0, j0, x0]
      · by_cases j1 : j = 1
        · rw [if_neg j0, if_pos j1, j1, x1]
        · rw [if_neg j0, if_neg j1]
          by_cases j2 : 111 ≤ j ∧ j < 111 + n
          · rw [if_pos j2, show j = 111 + (j - 111) by omega, (x2 (j - 111) (by omega) (by omega)).1]
          · rw [if_neg j2]
            by_cases j3 : 123 ≤ j ∧ j < 123 + n
            · rw [if_pos j3, show j = 123 + (j - 123) by omega, (x2 (j - 123) (by omega) (by omega)).2]
            · rw [if_neg j3, x3 j (by omega) (fun s _ hs => ⟨by omega, by omega⟩), e5]
