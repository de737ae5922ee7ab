/-! A SCRAP IS ADDED -/
/-- the first i edges of a draft are written -/
def qH (f : Nat → Int32) (n : Nat) (dr : Nat → Int32) (i j : Nat) : Int32 := if 3 + 4 * n ≤ j ∧ j < 3 + 4 * n + i then dr (j - (3 + 4 * n)) else if 51 + 4 * n ≤ j ∧ j < 51 + 4 * n + i then dr (4 + (j - (51 + 4 * n))) else f j
/-- the snapshot behind an adding -/
def qF (f : Nat → Int32) (n : Nat) (dr : Nat → Int32) (j : Nat) : Int32 := if j = 2 then nI (n + 1) else if j = 99 + n then dr 8 else if j = 111 + n then 0 else if j = 123 + n then -1 else qH f n dr 4 j
theorem c130 {k : Nat} (h : k < 9) : ¬ (nI k < 0 ∨ gln (124 + 6) ≤ (nI k).toNatClampNeg) := nI_in (show k < 9 from h) (by decide)
theorem k68 : ¬ ((8 : Int32) < 0 ∨ gln (124 + 6) ≤ (8 : Int32).toNatClampNeg) := by decide
theorem cl_8 : (8 : Int32).toNatClampNeg = 8 := by decide
theorem ix34 (n i : Nat) : ((3 : Int32) + (4 * nI n)) + nI i = nI (3 + 4 * n + i) := by
  rw [show (4 : Int32) = nI 4 from rfl, pk_mul, show (3 : Int32) = nI 3 from rfl, nIa, nIa]
theorem ix514 (n i : Nat) : ((51 : Int32) + (4 * nI n)) + nI i = nI (51 + 4 * n + i) := by
  rw [show (4 : Int32) = nI 4 from rfl, pk_mul, show (51 : Int32) = nI 51 from rfl, nIa, nIa]
theorem qH_s {f : Nat → Int32} {n i : Nat} {dr : Nat → Int32} (hn : n < 12) (hi : i < 4) : upd (upd (qH f n dr i) (3 + 4 * n + i) (dr i)) (51 + 4 * n + i) (dr (4 + i)) = qH f n dr (i + 1) := by
  funext j
  by_cases c1 : j = 51 + 4 * n + i
  · rw [c1, pk_us]
    unfold qH
    rw [if_neg (by omega), if_pos (by omega), show 51 + 4 * n + i - (51 + 4 * n) = i by omega]
  · rw [pk_un c1]
    by_cases c2 : j = 3 + 4 * n + i
    · rw [c2, pk_us]
      unfold qH
      rw [if_pos (by omega), show 3 + 4 * n + i - (3 + 4 * n) = i by omega]
    · rw [pk_un c2]
      unfold qH
      by_cases c3 : 3 + 4 * n ≤ j ∧ j < 3 + 4 * n + i
      · rw [if_pos c3, if_pos (by omega)]
      · rw [if_neg c3, if_neg (show ¬ (3 + 4 * n ≤ j ∧ j < 3 + 4 * n + (i + 1)) by omega)]
        by_cases c4 : 51 + 4 * n ≤ j ∧ j < 51 + 4 * n + i
        · rw [if_pos c4, if_pos (by omega)]
        · rw [if_neg c4, if_neg (by omega)]
theorem qH_0 {f : Nat → Int32} {n : Nat} {dr : Nat → Int32} : qH f n dr 0 = f := by
  funext j
  unfold qH
  rw [if_neg (by omega), if_neg (by omega)]
theorem ad28 {f dr : Nat → Int32} {n : Nat} (hn : n < 12) (z : f 2 = nI n) : ∀ (d i m : Nat) (τ : gM), i + d = 4 → d < m → τ 125 = qH f n dr i → τ 130 = dr → ∃ τ', fX9_adds_28 124 m τ (nI n) (nI i) = some (nI n, τ') ∧ (∀ c, c ≠ 125 → τ' c = τ c) ∧ τ' 125 = qF f n dr := by
  intro d
  induction d with
  | zero =>
    intro i m τ hi hm e5 e6
    obtain ⟨m, rfl⟩ : ∃ q, m = q + 1 := ⟨m - 1, by omega⟩
    obtain rfl : i = 4 := by omega
    have q2 : upd (upd (upd (qH f n dr 4) (99 + n) (dr 8)) (111 + n) 0) (123 + n) (-1) 2 = nI n := by
      rw [pk_un (by omega), pk_un (by omega), pk_un (by omega)]
      unfold qH
      rw [if_neg (by omega), if_neg (by omega)]
      exact z
    refine ⟨gset τ 125 (upd (upd (upd (upd (qH f n dr 4) (99 + n) (dr 8)) (111 + n) 0) (123 + n) (-1)) 2 (nI (n + 1))), ?_, fun c hc => gset_ne hc, ?_⟩
    · rw [fX9_adds_28, if_pos i4e, if_pos k68, ix99, ix111, ix123, if_pos (c125 (by omega)), gl_e, if_pos (c125 (by omega)), gl_e, if_pos (c125 (by omega)), gl_e, if_pos k12, if_pos k12, gl_e, nI_cl (n := 99 + n) (by omega), nI_cl (n := 111 + n) (by omega), nI_cl (n := 123 + n) (by omega), cl_8, cl_2, show τ (124 + 6) 8 = dr 8 from congrFun e6 8]
      rw [show (124 + 1 : Nat) = 125 from rfl, gset_at, gset2, gset_at, gset2, gset_at, gset2, e5, q2, nIa1]
    · rw [gset_at]
      funext j
      unfold qF
      by_cases c1 : j = 2
      · rw [c1, pk_us, if_pos rfl]
      · rw [pk_un c1, if_neg c1]
        by_cases c2 : j = 123 + n
        · rw [c2, pk_us, if_neg (by omega), if_neg (by omega), if_pos rfl]
        · rw [pk_un c2]
          by_cases c3 : j = 111 + n
          · rw [c3, pk_us, if_neg (by omega), if_pos rfl]
          · rw [pk_un c3, if_neg c3, if_neg c2]
            by_cases c4 : j = 99 + n
            · rw [c4, pk_us, if_pos rfl]
            · rw [pk_un c4, if_neg c4]
  | succ d ih =>
    intro i m τ hi hm e5 e6
    obtain ⟨m, rfl⟩ : ∃ q, m = q + 1 := ⟨m - 1, by omega⟩
    obtain ⟨τ', p, a, b⟩ := ih (i + 1) m (gset τ 125 (upd (upd (τ 125) (3 + 4 * n + i) (dr i)) (51 + 4 * n + i) (dr (4 + i)))) (by omega) (by omega) (by rw [gset_at, e5, qH_s hn (by omega)]) (by rw [gset_ne (by decide)]; exact e6)
    refine ⟨τ', ?_, fun c hc => (a c hc).trans (gset_ne hc), b⟩
    rw [fX9_adds_28, if_neg (i4 (by omega)), if_pos (c130 (by omega)), ix34, ix514, if_pos (c125 (by omega)), gl_e, show (4 : Int32) + nI i = nI (4 + i) from nIa 4 i, if_pos (c130 (by omega)), if_pos (c125 (by omega)), gl_e, gl_e, nI_cl (n := 3 + 4 * n + i) (by omega), nI_cl (n := 51 + 4 * n + i) (by omega), nI_cl (n := i) (by omega), nI_cl (n := 4 + i) (by omega), nIa1, show τ (124 + 6) i = dr i from congrFun e6 i]
    rw [show gset τ (124 + 1) (upd (τ (124 + 1)) (3 + 4 * n + i) (dr i)) (124 + 6) (4 + i) = dr (4 + i) from (congrFun (gset_ne (by decide)) _).trans (congrFun e6 _), show (124 + 1 : Nat) = 125 from rfl, gset_at, gset2]
    exact p
/-- a table's value, out of a draft -/
def PV (dr : Nat → Int32) (o e : Nat) : Int32 := if rv o e then rev (dr (og o e)) else dr (og o e)
def LV (dr : Nat → Int32) (o e : Nat) : Int32 := if dr 8 = 0 ∧ 4 ≤ o then 0 else dr (4 + og o e)
theorem unt {σ : gM} {o e : Nat} (ho : o < 8) (he : e < 4) : fX1_unturned σ (nI o) (nI e) = some (nI (un o e)) := by
  unfold fX1_unturned
  rcases (show o = 0 ∨ o = 1 ∨ o = 2 ∨ o = 3 ∨ o = 4 ∨ o = 5 ∨ o = 6 ∨ o = 7 by omega) with rfl | rfl | rfl | rfl | rfl | rfl | rfl | rfl <;> rcases (show e = 0 ∨ e = 1 ∨ e = 2 ∨ e = 3 by omega) with rfl | rfl | rfl | rfl <;> rfl
theorem ori1 {σ : gM} {o e : Nat} (ho : o < 8) (he : e < 4) : fX1_origin σ (nI o) (nI e) = some (nI (og o e)) := by
  unfold fX1_origin
  rw [unt ho he, Option.bind_some]
  rcases (show o = 0 ∨ o = 1 ∨ o = 2 ∨ o = 3 ∨ o = 4 ∨ o = 5 ∨ o = 6 ∨ o = 7 by omega) with rfl | rfl | rfl | rfl | rfl | rfl | rfl | rfl <;> rcases (show e = 0 ∨ e = 1 ∨ e = 2 ∨ e = 3 by omega) with rfl | rfl | rfl | rfl <;> rfl
theorem irv {σ : gM} {o e : Nat} (ho : o < 8) (he : e < 4) : fX1_isReversed σ (nI o) (nI e) = some (if rv o e then 1 else 0) := by
  unfold fX1_isReversed fX1_isToldClockwise
  rw [unt ho he, Option.bind_some]
  rcases (show o = 0 ∨ o = 1 ∨ o = 2 ∨ o = 3 ∨ o = 4 ∨ o = 5 ∨ o = 6 ∨ o = 7 by omega) with rfl | rfl | rfl | rfl | rfl | rfl | rfl | rfl <;> rcases (show e = 0 ∨ e = 1 ∨ e = 2 ∨ e = 3 by omega) with rfl | rfl | rfl | rfl <;> rfl
/-- a draft agrees with nine numbers -/
def DR (σ : gM) (o1 : Nat) (dr : Nat → Int32) : Prop := (∀ x, x < 4 → σ (o1 + 2) x = dr x) ∧ (∀ x, x < 4 → σ (o1 + 4) x = dr (4 + x)) ∧ σ o1 2 = dr 8
def gR (o1 : Nat) : Prop := gln (o1 + 2) = 4 ∧ gln (o1 + 4) = 4 ∧ 108 ≤ o1
theorem gR_1 : gR 114 := by unfold gR; decide
theorem gR_2 : gR 119 := by unfold gR; decide
theorem prf1 {σ : gM} {o1 o e : Nat} {dr : Nat → Int32} (G : gR o1) (A : DR σ o1 dr) (ho : o < 8) (he : e < 4) : fX1_profile σ o1 (nI o) (nI e) = some (PV dr o e) := by
  have hg := og_lt o e
  unfold fX1_profile
  rw [ori1 ho he, Option.bind_some, get_in (show og o e < gln (o1 + 1 + 1) by rw [show gln (o1 + 1 + 1) = 4 from G.1]; exact hg), Option.bind_some, irv ho he, Option.bind_some, show σ (o1 + 1 + 1) (og o e) = dr (og o e) from A.1 _ hg]
  unfold PV
  by_cases c : rv o e = true
  · rw [if_pos c, if_neg n10, if_pos c]
    unfold fX1_reverse rev
    split <;> rfl
  · rw [if_neg c, if_pos rfl, if_neg c]
theorem lne1 {σ : gM} {o1 o e : Nat} {dr : Nat → Int32} (G : gR o1) (A : DR σ o1 dr) (ho : o < 8) (he : e < 4) : fX1_line σ o1 (nI o) (nI e) = some (LV dr o e) := by
  have hg := og_lt o e
  have g : fX5_get σ (o1 + 3) (nI (og o e)) = some (dr (4 + og o e)) := by
    rw [get_in (show og o e < gln (o1 + 3 + 1) by rw [show gln (o1 + 3 + 1) = 4 from G.2.1]; exact hg), show σ (o1 + 3 + 1) (og o e) = _ from A.2.1 _ hg]
  unfold fX1_line LV
  rw [A.2.2]
  by_cases c : dr 8 = 0
  · rw [if_pos c]
    by_cases c4 : 4 ≤ o
    · rw [if_neg (show ¬ nI o < 4 from nI_nlt (b := 4) c4 (by omega)), if_pos ⟨c, c4⟩]
    · rw [if_pos (show nI o < 4 from nI_lt (b := 4) (by omega) (by decide)), ori1 ho he, Option.bind_some, g, Option.bind_some, if_neg (fun q => c4 q.2)]
  · rw [if_neg c, ori1 ho he, Option.bind_some, g, Option.bind_some, if_neg (fun q => c q.1)]
