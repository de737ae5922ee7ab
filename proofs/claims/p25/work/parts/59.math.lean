section
/-! A SCRAP IS ADDED -/
/-- the first i edges of a draft are written -/
def qH (f : Nat → Int32) (n : Nat) (dr : Nat → Int32) (i j : Nat) : Int32 := if 3 + 4 * n ≤ j ∧ j < 3 + 4 * n + i then dr (j - (3 + 4 * n)) else if 51 + 4 * n ≤ j ∧ j < 51 + 4 * n + i then dr (4 + (j - (51 + 4 * n))) else f j
/-- the snapshot behind an adding -/
def qF (f : Nat → Int32) (n : Nat) (dr : Nat → Int32) (j : Nat) : Int32 := if j = 2 then nI (n + 1) else if j = 99 + n then dr 8 else if j = 111 + n then 0 else if j = 123 + n then -1 else qH f n dr 4 j
theorem cl_8 : (8 : Int32).toNatClampNeg = 8 := by decide
theorem ix34 (n i : Nat) : ((3 : Int32) + (4 * nI n)) + nI i = nI (3 + 4 * n + i) := by
  rw [show (4 : Int32) = nI 4 from rfl, pk_mul, show (3 : Int32) = nI 3 from rfl, nIa, nIa]
theorem ix514 (n i : Nat) : ((51 : Int32) + (4 * nI n)) + nI i = nI (51 + 4 * n + i) := by
  rw [show (4 : Int32) = nI 4 from rfl, pk_mul, show (51 : Int32) = nI 51 from rfl, nIa, nIa]
theorem qH_s {f : Nat → Int32} {n i : Nat} {dr : Nat → Int32} (hn : n < 12) (hi : i < 4) : upd (upd (qH f n dr i) (3 + 4 * n + i) (dr i)) (51 + 4 * n + i) (dr (4 + i)) = qH f n dr (i + 1) := by
  funext j
  by_cases c1 : j = 51 + 4 * n + i
  · rw [c1, pk_us]
    unfold qH
    rw [if_neg (by omega), if_pos (by omega), show 51 + 4 * n + i - (51 + 4 * n) = i by omega]
  · rw [pk_un c1]
    by_cases c2 : j = 3 + 4 * n + i
    · rw [c2, pk_us]
      unfold qH
      rw [if_pos (by omega), show 3 + 4 * n + i - (3 + 4 * n) = i by omega]
    · rw [pk_un c2]
      unfold qH
      by_cases c3 : 3 + 4 * n ≤ j ∧ j < 3 + 4 * n + i
      · rw [if_pos c3, if_pos (by omega)]
      · rw [if_neg c3, if_neg (show ¬ (3 + 4 * n ≤ j ∧ j < 3 + 4 * n + (i + 1)) by omega)]
        by_cases c4 : 51 + 4 * n ≤ j ∧ j < 51 + 4 * n + i
        · rw [if_pos c4, if_pos (by omega)]
        · rw [if_neg c4, if_neg (by omega)]
theorem qH_0 {f : Nat → Int32} {n : Nat} {dr : Nat → Int32} : qH f n dr 0 = f := by
  funext j
  unfold qH
  rw [if_neg (by omega), if_neg (by omega)]
/-- a table's value, out of a draft -/
def PV (dr : Nat → Int32) (o e : Nat) : Int32 := if rv o e then rev (dr (og o e)) else dr (og o e)
def LV (dr : Nat → Int32) (o e : Nat) : Int32 := if dr 8 = 0 ∧ 4 ≤ o then 0 else dr (4 + og o e)
theorem unt {σ : gM} {o e : Nat} (ho : o < 8) (he : e < 4) : fX1_unturned σ (nI o) (nI e) = some (nI (un o e)) := by
  unfold fX1_unturned
  rcases (show o = 0 ∨ o = 1 ∨ o = 2 ∨ o = 3 ∨ o = 4 ∨ o = 5 ∨ o = 6 ∨ o = 7 by omega) with rfl | rfl | rfl | rfl | rfl | rfl | rfl | rfl <;> rcases (show e = 0 ∨ e = 1 ∨ e = 2 ∨ e = 3 by omega) with rfl | rfl | rfl | rfl <;> rfl
theorem ori1 {σ : gM} {o e : Nat} (ho : o < 8) (he : e < 4) : fX1_origin σ (nI o) (nI e) = some (nI (og o e)) := by
  unfold fX1_origin
  rw [unt ho he, Option.bind_some]
  rcases (show o = 0 ∨ o = 1 ∨ o = 2 ∨ o = 3 ∨ o = 4 ∨ o = 5 ∨ o = 6 ∨ o = 7 by omega) with rfl | rfl | rfl | rfl | rfl | rfl | rfl | rfl <;> rcases (show e = 0 ∨ e = 1 ∨ e = 2 ∨ e = 3 by omega) with rfl | rfl | rfl | rfl <;> rfl
theorem irv {σ : gM} {o e : Nat} (ho : o < 8) (he : e < 4) : fX1_isReversed σ (nI o) (nI e) = some (if rv o e then 1 else 0) := by
  unfold fX1_isReversed fX1_isToldClockwise
  rw [unt ho he, Option.bind_some]
  rcases (show o = 0 ∨ o = 1 ∨ o = 2 ∨ o = 3 ∨ o = 4 ∨ o = 5 ∨ o = 6 ∨ o = 7 by omega) with rfl | rfl | rfl | rfl | rfl | rfl | rfl | rfl <;> rcases (show e = 0 ∨ e = 1 ∨ e = 2 ∨ e = 3 by omega) with rfl | rfl | rfl | rfl <;> rfl
/-- a draft agrees with nine numbers -/
def DR (σ : gM) (o1 : Nat) (dr : Nat → Int32) : Prop := (∀ x, x < 4 → σ (o1 + 2) x = dr x) ∧ (∀ x, x < 4 → σ (o1 + 4) x = dr (4 + x)) ∧ σ o1 2 = dr 8
def gR (o1 : Nat) : Prop := gln (o1 + 2) = 4 ∧ gln (o1 + 4) = 4 ∧ 108 ≤ o1
theorem gR_1 : gR 114 := by unfold gR; decide
theorem gR_2 : gR 119 := by unfold gR; decide
theorem prf1 {σ : gM} {o1 o e : Nat} {dr : Nat → Int32} (G : gR o1) (A : DR σ o1 dr) (ho : o < 8) (he : e < 4) : fX1_profile σ o1 (nI o) (nI e) = some (PV dr o e) := by
  have hg := og_lt o e
  unfold fX1_profile
  rw [ori1 ho he, Option.bind_some, get_in (show og o e < gln (o1 + 1 + 1) by rw [show gln (o1 + 1 + 1) = 4 from G.1]; exact hg), Option.bind_some, irv ho he, Option.bind_some, show σ (o1 + 1 + 1) (og o e) = dr (og o e) from A.1 _ hg]
  unfold PV
  by_cases c : rv o e = true
  · rw [if_pos c, if_neg n10, if_pos c]
    unfold fX1_reverse rev
    split <;> rfl
  · rw [if_neg c, if_pos rfl, if_neg c]
theorem lne1 {σ : gM} {o1 o e : Nat} {dr : Nat → Int32} (G : gR o1) (A : DR σ o1 dr) (ho : o < 8) (he : e < 4) : fX1_line σ o1 (nI o) (nI e) = some (LV dr o e) := by
  have hg := og_lt o e
  have g : fX5_get σ (o1 + 3) (nI (og o e)) = some (dr (4 + og o e)) := by
    rw [get_in (show og o e < gln (o1 + 3 + 1) by rw [show gln (o1 + 3 + 1) = 4 from G.2.1]; exact hg), show σ (o1 + 3 + 1) (og o e) = _ from A.2.1 _ hg]
  unfold fX1_line LV
  rw [A.2.2]
  by_cases c : dr 8 = 0
  · rw [if_pos c]
    by_cases c4 : 4 ≤ o
    · rw [if_neg (show ¬ nI o < 4 from nI_nlt (b := 4) c4 (by omega)), if_pos ⟨c, c4⟩]
    · rw [if_pos (show nI o < 4 from nI_lt (b := 4) (by omega) (by decide)), ori1 ho he, Option.bind_some, g, Option.bind_some, if_neg (fun q => c4 q.2)]
  · rw [if_neg c, ori1 ho he, Option.bind_some, g, Option.bind_some, if_neg (fun q => c q.1)]
end

section
/-! A SCRAP IS ADDED: the class's tables; both sides -/
variable {n o1 : Nat} {dr : Nat → Int32}
theorem DR.mv {σ σ' : gM} (A : DR σ o1 dr) (h0 : σ' o1 = σ o1) (h2 : σ' (o1 + 2) = σ (o1 + 2)) (h4 : σ' (o1 + 4) = σ (o1 + 4)) : DR σ' o1 dr := by
  unfold DR
  rw [h0, h2, h4]
  exact A
theorem ap35 (G : gR o1) (hn : n < 12) {o : Nat} (ho : o < 8) (K : gM → Int32 → Option gM) : ∀ (d i m : Nat) (σ : gM), i + d = 4 → d < m → σ 2 3 = nI n → DR σ o1 dr → ∃ σ', fX6_append_35 K 2 o1 m σ (nI o) (nI i) = K σ' (nI (o + 1)) ∧ (∀ c, c ≠ 6 → c ≠ 8 → σ' c = σ c) ∧ (∀ e, i ≤ e → e < 4 → σ' 6 (n * 32 + o * 4 + e) = PV dr o e ∧ σ' 8 (n * 32 + o * 4 + e) = LV dr o e) ∧ ∀ x, (x < n * 32 + o * 4 + i ∨ n * 32 + o * 4 + 4 ≤ x) → σ' 6 x = σ 6 x ∧ σ' 8 x = σ 8 x := by
  intro d
  induction d with
  | zero =>
    intro i m σ hi hm z A
    obtain ⟨m, rfl⟩ : ∃ q, m = q + 1 := ⟨m - 1, by omega⟩
    obtain rfl : i = 4 := by omega
    refine ⟨σ, ?_, fun _ _ _ => rfl, fun e h1 h2 => by omega, fun _ _ => ⟨rfl, rfl⟩⟩
    rw [fX6_append_35, if_pos i4e, gl_e, nIa1]
  | succ d ih =>
    intro i m σ hi hm z A
    obtain ⟨m, rfl⟩ : ∃ q, m = q + 1 := ⟨m - 1, by omega⟩
    have g := G.2.2
    have A1 : DR (gset σ 6 (upd (σ 6) (n * 32 + o * 4 + i) (PV dr o i))) o1 dr := A.mv (gset_ne (by omega)) (gset_ne (by omega)) (gset_ne (by omega))
    obtain ⟨σ', p, a, b, c⟩ := ih (i + 1) m (gset (gset σ 6 (upd (σ 6) (n * 32 + o * 4 + i) (PV dr o i))) 8 (upd (σ 8) (n * 32 + o * 4 + i) (LV dr o i))) (by omega) (by omega) (by rw [gset_ne (by decide), gset_ne (by decide)]; exact z) (A1.mv (gset_ne (by omega)) (gset_ne (by omega)) (gset_ne (by omega)))
    refine ⟨σ', ?_, fun x h1 h2 => by rw [a x h1 h2, gset_ne h2, gset_ne h1], fun e h1 h2 => ?_, fun x hx => ?_⟩
    · rw [fX6_append_35, if_neg (i4 (by omega)), gl_e, z, ix32, prf1 G A ho (by omega), Option.bind_some, set_in (show n * 32 + o * 4 + i < gln (2 + 3 + 1) by rw [show gln (2 + 3 + 1) = 384 by decide]; omega), Option.bind_some, show gset σ (2 + 3 + 1) (upd (σ (2 + 3 + 1)) (n * 32 + o * 4 + i) (PV dr o i)) = gset σ 6 (upd (σ 6) (n * 32 + o * 4 + i) (PV dr o i)) from rfl, lne1 G A1 ho (by omega), Option.bind_some, set_in (show n * 32 + o * 4 + i < gln (2 + 5 + 1) by rw [show gln (2 + 5 + 1) = 384 by decide]; omega), Option.bind_some, gl_e, nIa1, show gset σ 6 (upd (σ 6) (n * 32 + o * 4 + i) (PV dr o i)) (2 + 5 + 1) = σ 8 from gset_ne (by decide)]
      exact p
    · by_cases ce : e = i
      · subst ce
        obtain ⟨c1, c2⟩ := c (n * 32 + o * 4 + e) (by omega)
        rw [c1, c2, gset_ne (by decide), gset_at, pk_us, gset_at, pk_us]
        exact ⟨rfl, rfl⟩
      · exact b e (by omega) h2
    · obtain ⟨c1, c2⟩ := c x (by omega)
      rw [c1, c2, gset_ne (by decide), gset_at, pk_un (by omega), gset_at, pk_un (by omega)]
      exact ⟨rfl, rfl⟩
theorem ap27 (G : gR o1) (hn : n < 12) : ∀ (d i m : Nat) (σ : gM), i + d = 8 → d < m → σ 2 3 = nI n → DR σ o1 dr → ∃ σ', fX6_append_27 2 o1 m σ (nI i) = some σ' ∧ (∀ c, c ≠ 2 → c ≠ 6 → c ≠ 8 → σ' c = σ c) ∧ σ' 2 3 = nI (n + 1) ∧ (∀ o e, i ≤ o → o < 8 → e < 4 → σ' 6 (n * 32 + o * 4 + e) = PV dr o e ∧ σ' 8 (n * 32 + o * 4 + e) = LV dr o e) ∧ ∀ x, x < n * 32 + i * 4 → σ' 6 x = σ 6 x ∧ σ' 8 x = σ 8 x := by
  intro d
  induction d with
  | zero =>
    intro i m σ hi hm z A
    obtain ⟨m, rfl⟩ : ∃ q, m = q + 1 := ⟨m - 1, by omega⟩
    obtain rfl : i = 8 := by omega
    refine ⟨gset σ 2 (upd (σ 2) 3 (nI (n + 1))), ?_, fun c h1 _ _ => gset_ne h1, by rw [gset_at, pk_us], fun o e h1 h2 => by omega, fun x _ => ⟨congrFun (gset_ne (by decide)) x, congrFun (gset_ne (by decide)) x⟩⟩
    rw [fX6_append_27, if_pos i8e, gl_e, z, nIa1]
  | succ d ih =>
    intro i m σ hi hm z A
    obtain ⟨m, rfl⟩ : ∃ q, m = q + 1 := ⟨m - 1, by omega⟩
    have g := G.2.2
    obtain ⟨σ1, p1, a1, b1, c1⟩ := ap35 G hn (o := i) (by omega) (fun σ2 y2 => fX6_append_27 2 o1 m σ2 y2) 4 0 gF σ rfl (gF_lt (by decide)) z A
    obtain ⟨σ', p, a, b, c, e⟩ := ih (i + 1) m σ1 (by omega) (by omega) (by rw [a1 2 (by decide) (by decide)]; exact z) (A.mv (a1 _ (by omega) (by omega)) (a1 _ (by omega) (by omega)) (a1 _ (by omega) (by omega)))
    refine ⟨σ', ?_, fun x h1 h2 h3 => (a x h1 h2 h3).trans (a1 x h2 h3), b, fun o e' h1 h2 h3 => ?_, fun x hx => ?_⟩
    · rw [fX6_append_27, if_neg (i8 (by omega)), show fX6_append_35 (fun σ2 y2 => fX6_append_27 2 o1 m σ2 y2) 2 o1 gF σ (nI i) 0 = _ from p1]
      exact p
    · by_cases co : o = i
      · subst co
        obtain ⟨e1, e2⟩ := e (n * 32 + o * 4 + e') (by omega)
        rw [e1, e2]
        exact b1 e' (Nat.zero_le _) h3
      · exact c o e' (by omega) h2 h3
    · obtain ⟨e1, e2⟩ := e x (by omega)
      rw [e1, e2]
      exact c1 x (by omega)
theorem qF_lo {f : Nat → Int32} {j : Nat} (hn : n < 12) (h1 : j ≠ 2) (h2 : ¬ (3 + 4 * n ≤ j ∧ j < 3 + 4 * n + 4)) (h3 : ¬ (51 + 4 * n ≤ j ∧ j < 51 + 4 * n + 4)) (h4 : j ≠ 99 + n) (h5 : j ≠ 111 + n) (h6 : j ≠ 123 + n) : qF f n dr j = f j := by
  unfold qF qH
  rw [if_neg h1, if_neg h4, if_neg h5, if_neg h6, if_neg h2, if_neg h3]
theorem qF_pl {f : Nat → Int32} (hn : n < 12) : qF f n dr (123 + n) = -1 := by
  unfold qF
  rw [if_neg (by omega), if_neg (by omega), if_neg (by omega), if_pos rfl]
theorem qF_or {f : Nat → Int32} (hn : n < 12) : qF f n dr (111 + n) = 0 := by
  unfold qF
  rw [if_neg (by omega), if_neg (by omega), if_pos rfl]
theorem qF_k {f : Nat → Int32} (hn : n < 12) : qF f n dr (99 + n) = dr 8 := by
  unfold qF
  rw [if_neg (by omega), if_pos rfl]
theorem qF_p {f : Nat → Int32} {x : Nat} (hn : n < 12) (hx : x < 4) : qF f n dr (3 + 4 * n + x) = dr x := by
  unfold qF qH
  rw [if_neg (by omega), if_neg (by omega), if_neg (by omega), if_neg (by omega), if_pos (by omega), show 3 + 4 * n + x - (3 + 4 * n) = x by omega]
theorem qF_l {f : Nat → Int32} {x : Nat} (hn : n < 12) (hx : x < 4) : qF f n dr (51 + 4 * n + x) = dr (4 + x) := by
  unfold qF qH
  rw [if_neg (by omega), if_neg (by omega), if_neg (by omega), if_neg (by omega), if_neg (by omega), if_pos (by omega), show 51 + 4 * n + x - (51 + 4 * n) = x by omega]
theorem okf_app {f : Nat → Int32} {w h : Nat} (O : OKf f w h n) (hn : n < 12) (hp : ∀ e, e < 4 → pv (dr e)) (hk : dr 8 = 0 ∨ dr 8 = 1) : OKf (qF f n dr) w h (n + 1) := by
  obtain ⟨⟨f0, f1, f2⟩, ⟨w1, w6, h1, h6, n12⟩, a, b, c, d, e, u⟩ := O
  have old : ∀ s, s < n → qF f n dr (99 + s) = f (99 + s) ∧ qF f n dr (111 + s) = f (111 + s) ∧ qF f n dr (123 + s) = f (123 + s) := fun s hs => ⟨qF_lo hn (by omega) (by omega) (by omega) (by omega) (by omega) (by omega), qF_lo hn (by omega) (by omega) (by omega) (by omega) (by omega) (by omega), qF_lo hn (by omega) (by omega) (by omega) (by omega) (by omega) (by omega)⟩
  refine ⟨⟨(qF_lo hn (by omega) (by omega) (by omega) (by omega) (by omega) (by omega)).trans f0, (qF_lo hn (by omega) (by omega) (by omega) (by omega) (by omega) (by omega)).trans f1, if_pos rfl⟩, ⟨w1, w6, h1, h6, hn⟩, ?_, ?_, ?_, ?_, ?_, ?_⟩
  · intro s hs
    by_cases cs : s = n
    · rw [cs, qF_k hn]
      exact hk
    · rw [(old s (by omega)).1]
      exact a s (by omega)
  · intro s x hs hx
    by_cases cs : s = n
    · rw [cs, qF_p hn hx]
      exact hp x hx
    · rw [qF_lo hn (by omega) (by omega) (by omega) (by omega) (by omega) (by omega)]
      exact b s x (by omega) hx
  · intro s hs
    by_cases cs : s = n
    · rw [cs, qF_pl hn]
      exact ⟨none, rfl, fun k q => by cases q⟩
    · rw [(old s (by omega)).2.2]
      exact c s (by omega)
  · intro s hs
    by_cases cs : s = n
    · rw [cs, qF_or hn]
      exact ⟨0, by decide, rfl⟩
    · rw [(old s (by omega)).2.1]
      exact d s (by omega)
  · intro s hs hm
    by_cases cs : s = n
    · rw [cs, qF_or hn]
    · rw [(old s (by omega)).2.2] at hm
      rw [(old s (by omega)).2.1]
      exact e s (by omega) hm
  · intro s t k hs ht hk' e1 e2
    by_cases cs : s = n
    · rw [cs, qF_pl hn] at e1
      exact absurd e1 (m1_ne' (by omega))
    · by_cases ct : t = n
      · rw [ct, qF_pl hn] at e2
        exact absurd e2 (m1_ne' (by omega))
      · rw [(old s (by omega)).2.2] at e1
        rw [(old t (by omega)).2.2] at e2
        exact u s t k (by omega) (by omega) hk' e1 e2
theorem sc_app {f : Nat → Int32} {w h k : Nat} (O' : OKf (qF f n dr) w h (n + 1)) (hn : n < 12) (hk : k < 36) : sc (qF f n dr) (n + 1) k = sc f n k := by
  have old : ∀ s, s < n → qF f n dr (123 + s) = f (123 + s) := fun s hs => qF_lo hn (by omega) (by omega) (by omega) (by omega) (by omega) (by omega)
  cases hs : sc f n k with
  | some q =>
    have h1 := sc_lt hs
    exact sc_at O' hk (by omega) (by rw [old q h1.1]; exact h1.2)
  | none =>
    cases hr : sc (qF f n dr) (n + 1) k with
    | none => rfl
    | some q =>
      have h1 := sc_lt hr
      by_cases cq : q = n
      · rw [cq, qF_pl hn] at h1
        exact absurd h1.2 (m1_ne' (by omega))
      · rw [old q (by omega)] at h1
        exact absurd h1.2 (sc_none hs (by omega))
end

section
/-! ADDSCRAP -/
theorem in999 (x : Int32) : inI x (-1) 999 = 0 ∨ (inI x (-1) 999 = 1 ∧ pv x) := by
  unfold inI
  by_cases c1 : x < -1
  · exact Or.inl (if_pos c1)
  · by_cases c2 : 999 < x
    · rw [if_neg c1, if_pos c2]
      exact Or.inl rfl
    · rw [if_neg c1, if_neg c2]
      refine Or.inr ⟨rfl, ?_⟩
      have e1 : ¬ x.toInt < -1 := fun q => c1 (Int32.lt_iff_toInt_lt.mpr q)
      have e2 : ¬ 999 < x.toInt := fun q => c2 (Int32.lt_iff_toInt_lt.mpr q)
      by_cases c3 : x < 0
      · have e3 : x.toInt < 0 := Int32.lt_iff_toInt_lt.mp c3
        refine Or.inl ?_
        have : x.toInt = (-1 : Int32).toInt := by
          show x.toInt = -1
          omega
        exact Int32.toInt_inj.mp this
      · obtain ⟨j, hj, rfl⟩ := nI_of (x := x) c3
        rw [nI_toInt hj] at e2
        exact Or.inr ⟨j, by omega, rfl⟩
theorem ipr8 {σ : gM} {x : Int32} : fX8_isProfile σ x = some (inI x (-1) 999) := by
  unfold fX8_isProfile
  rw [in8e, Option.bind_some, if_pos (inI_01 _ _ _)]
/-- the draft of addScrap -/
def dA5 (a1 a2 a3 a4 a5 : Int32) (j : Nat) : Int32 := if j = 0 then a1 else if j = 1 then a2 else if j = 2 then a3 else if j = 3 then a4 else if j = 8 then a5 else 0
theorem se1 {σ : gM} {e : Nat} {a b : Int32} (he : e < 4) : fX1_setEdge σ 119 (nI e) a b = some (gset (gset σ 121 (upd (σ 121) e a)) 123 (upd (σ 123) e b)) := by
  unfold fX1_setEdge
  rw [set_in (show e < gln (119 + 1 + 1) by rw [show gln (119 + 1 + 1) = 4 by decide]; exact he), Option.bind_some, set_in (show e < gln (119 + 3 + 1) by rw [show gln (119 + 3 + 1) = 4 by decide]; exact he), Option.bind_some, show gset σ (119 + 1 + 1) (upd (σ (119 + 1 + 1)) e a) (119 + 3 + 1) = σ 123 from gset_ne (by decide)]
end

section
/-! A SCRAP IS REMOVED: the reference shifts -/
def zG (f : Nat → Int32) (s a b p q r j : Nat) : Int32 := if 3 + 4 * s ≤ j ∧ j < a then f (j + 4) else if 51 + 4 * s ≤ j ∧ j < b then f (j + 4) else if 99 + s ≤ j ∧ j < p then f (j + 1) else if 111 + s ≤ j ∧ j < q then f (j + 1) else if 123 + s ≤ j ∧ j < r then f (j + 1) else f j
theorem ifc {P Q : Prop} [Decidable P] [Decidable Q] {x y u z : Int32} (h : P ↔ Q) (h1 : x = u) (h2 : y = z) : (if P then x else y) = if Q then u else z := by
  by_cases c : P
  · rw [if_pos c, if_pos (h.mp c), h1]
  · rw [if_neg c, if_neg (fun q => c (h.mpr q)), h2]
theorem zG_a {f : Nat → Int32} {s a b p q r : Nat} (h : 3 + 4 * s ≤ a) : upd (zG f s a b p q r) a (f (a + 4)) = zG f s (a + 1) b p q r := by
  funext j
  by_cases c : j = a
  · subst c
    rw [pk_us]
    unfold zG
    rw [if_pos (by omega)]
  · rw [pk_un c]
    unfold zG
    exact ifc (by omega) rfl rfl
theorem zG_b {f : Nat → Int32} {s a b p q r : Nat} (h : 51 + 4 * s ≤ b) (ha : a ≤ 51) : upd (zG f s a b p q r) b (f (b + 4)) = zG f s a (b + 1) p q r := by
  funext j
  by_cases c : j = b
  · subst c
    rw [pk_us]
    unfold zG
    rw [if_neg (by omega), if_pos (by omega)]
  · rw [pk_un c]
    unfold zG
    exact ifc Iff.rfl rfl (ifc (by omega) rfl rfl)
theorem zG_p {f : Nat → Int32} {s a b p q r : Nat} (h : 99 + s ≤ p) (ha : a ≤ 51) (hb : b ≤ 99) : upd (zG f s a b p q r) p (f (p + 1)) = zG f s a b (p + 1) q r := by
  funext j
  by_cases c : j = p
  · subst c
    rw [pk_us]
    unfold zG
    rw [if_neg (by omega), if_neg (by omega), if_pos (by omega)]
  · rw [pk_un c]
    unfold zG
    exact ifc Iff.rfl rfl (ifc Iff.rfl rfl (ifc (by omega) rfl rfl))
theorem zG_q {f : Nat → Int32} {s a b p q r : Nat} (h : 111 + s ≤ q) (ha : a ≤ 51) (hb : b ≤ 99) (hp : p ≤ 111) : upd (zG f s a b p q r) q (f (q + 1)) = zG f s a b p (q + 1) r := by
  funext j
  by_cases c : j = q
  · subst c
    rw [pk_us]
    unfold zG
    rw [if_neg (by omega), if_neg (by omega), if_neg (by omega), if_pos (by omega)]
  · rw [pk_un c]
    unfold zG
    exact ifc Iff.rfl rfl (ifc Iff.rfl rfl (ifc Iff.rfl rfl (ifc (by omega) rfl rfl)))
theorem zG_r {f : Nat → Int32} {s a b p q r : Nat} (h : 123 + s ≤ r) (ha : a ≤ 51) (hb : b ≤ 99) (hp : p ≤ 111) (hq : q ≤ 123) : upd (zG f s a b p q r) r (f (r + 1)) = zG f s a b p q (r + 1) := by
  funext j
  by_cases c : j = r
  · subst c
    rw [pk_us]
    unfold zG
    rw [if_neg (by omega), if_neg (by omega), if_neg (by omega), if_neg (by omega), if_pos (by omega)]
  · rw [pk_un c]
    unfold zG
    exact ifc Iff.rfl rfl (ifc Iff.rfl rfl (ifc Iff.rfl rfl (ifc Iff.rfl rfl (ifc (by omega) rfl rfl))))
theorem zG_f {f : Nat → Int32} {s a b p q r j : Nat} (h1 : ¬ (3 + 4 * s ≤ j ∧ j < a)) (h2 : ¬ (51 + 4 * s ≤ j ∧ j < b)) (h3 : ¬ (99 + s ≤ j ∧ j < p)) (h4 : ¬ (111 + s ≤ j ∧ j < q)) (h5 : ¬ (123 + s ≤ j ∧ j < r)) : zG f s a b p q r j = f j := by
  unfold zG
  rw [if_neg h1, if_neg h2, if_neg h3, if_neg h4, if_neg h5]
def zS (f : Nat → Int32) (s x : Nat) : Nat → Int32 := zG f s (3 + 4 * x) (51 + 4 * x) (99 + x) (111 + x) (123 + x)
theorem zS_0 {f : Nat → Int32} {s : Nat} : zS f s s = f := by
  funext j
  exact zG_f (by omega) (by omega) (by omega) (by omega) (by omega)
theorem ix344 (x e : Nat) : (((3 : Int32) + (4 * nI x)) + 4) + nI e = nI (3 + 4 * x + e + 4) := by
  rw [show (4 : Int32) = nI 4 from rfl, pk_mul, show (3 : Int32) = nI 3 from rfl, nIa, nIa, nIa]
  exact congrArg nI (by omega)
theorem ix5144 (x e : Nat) : (((51 : Int32) + (4 * nI x)) + 4) + nI e = nI (51 + 4 * x + e + 4) := by
  rw [show (4 : Int32) = nI 4 from rfl, pk_mul, show (51 : Int32) = nI 51 from rfl, nIa, nIa, nIa]
  exact congrArg nI (by omega)
end

section
/-! A SCRAP IS REMOVED: the snapshot behind, the class's side, the call -/
def shf (s t : Nat) : Nat := if t < s then t else t + 1
/-- the snapshot behind a removal -/
def zF (f : Nat → Int32) (n s : Nat) : Nat → Int32 := zS (upd f 2 (nI (n - 1))) s (n - 1)
theorem zF_t {f : Nat → Int32} {n s t : Nat} (n12 : n ≤ 12) (ht : t < n - 1) : (∀ e, e < 4 → zF f n s (3 + 4 * t + e) = f (3 + 4 * shf s t + e) ∧ zF f n s (51 + 4 * t + e) = f (51 + 4 * shf s t + e)) ∧ zF f n s (99 + t) = f (99 + shf s t) ∧ zF f n s (111 + t) = f (111 + shf s t) ∧ zF f n s (123 + t) = f (123 + shf s t) := by
  unfold zF zS shf
  by_cases c : t < s
  · rw [if_pos c]
    refine ⟨fun e he => ⟨?_, ?_⟩, ?_, ?_, ?_⟩
    · rw [zG_f (by omega) (by omega) (by omega) (by omega) (by omega), pk_un (by omega)]
    · rw [zG_f (by omega) (by omega) (by omega) (by omega) (by omega), pk_un (by omega)]
    · rw [zG_f (by omega) (by omega) (by omega) (by omega) (by omega), pk_un (by omega)]
    · rw [zG_f (by omega) (by omega) (by omega) (by omega) (by omega), pk_un (by omega)]
    · rw [zG_f (by omega) (by omega) (by omega) (by omega) (by omega), pk_un (by omega)]
  · rw [if_neg c]
    unfold zG
    refine ⟨fun e he => ⟨?_, ?_⟩, ?_, ?_, ?_⟩
    · rw [if_pos (by omega), pk_un (by omega)]
      exact congrArg f (by omega)
    · rw [if_neg (by omega), if_pos (by omega), pk_un (by omega)]
      exact congrArg f (by omega)
    · rw [if_neg (by omega), if_neg (by omega), if_pos (by omega), pk_un (by omega)]
      exact congrArg f (by omega)
    · rw [if_neg (by omega), if_neg (by omega), if_neg (by omega), if_pos (by omega), pk_un (by omega)]
      exact congrArg f (by omega)
    · rw [if_neg (by omega), if_neg (by omega), if_neg (by omega), if_neg (by omega), if_pos (by omega), pk_un (by omega)]
      exact congrArg f (by omega)
theorem zF_0 {f : Nat → Int32} {n s : Nat} : zF f n s 0 = f 0 ∧ zF f n s 1 = f 1 ∧ zF f n s 2 = nI (n - 1) := by
  unfold zF zS
  refine ⟨?_, ?_, ?_⟩
  · rw [zG_f (by omega) (by omega) (by omega) (by omega) (by omega), pk_un (by omega)]
  · rw [zG_f (by omega) (by omega) (by omega) (by omega) (by omega), pk_un (by omega)]
  · rw [zG_f (by omega) (by omega) (by omega) (by omega) (by omega), pk_us]
theorem shf_lt {n s t : Nat} (hs : s < n) (ht : t < n - 1) : shf s t < n := by
  unfold shf
  split <;> omega
theorem shf_in {s t t' : Nat} (h : shf s t = shf s t') : t = t' := by
  unfold shf at h
  split at h <;> split at h <;> omega
theorem okf_rem {f : Nat → Int32} {w h n s : Nat} (O : OKf f w h n) (hs : s < n) : OKf (zF f n s) w h (n - 1) := by
  obtain ⟨⟨f0, f1, f2⟩, ⟨w1, w6, h1, h6, n12⟩, a, b, c, d, e, u⟩ := O
  obtain ⟨z0, z1, z2⟩ := zF_0 (f := f) (n := n) (s := s)
  refine ⟨⟨z0.trans f0, z1.trans f1, z2⟩, ⟨w1, w6, h1, h6, by omega⟩, ?_, ?_, ?_, ?_, ?_, ?_⟩
  · intro t ht
    rw [(zF_t n12 ht).2.1]
    exact a _ (shf_lt hs ht)
  · intro t x ht hx
    rw [((zF_t n12 ht).1 x hx).1]
    exact b _ x (shf_lt hs ht) hx
  · intro t ht
    rw [(zF_t n12 ht).2.2.2]
    exact c _ (shf_lt hs ht)
  · intro t ht
    rw [(zF_t n12 ht).2.2.1]
    exact d _ (shf_lt hs ht)
  · intro t ht
    rw [(zF_t n12 ht).2.2.1, (zF_t n12 ht).2.2.2]
    exact e _ (shf_lt hs ht)
  · intro t t' k ht ht' hk
    rw [(zF_t n12 ht).2.2.2, (zF_t n12 ht').2.2.2]
    intro e1 e2
    exact shf_in (u _ _ k (shf_lt hs ht) (shf_lt hs ht') hk e1 e2)
theorem ctL {σ : gM} {t N a b : Nat} (hN : gln (t + 1) = N) (h : a + b ≤ N) : ∃ σ', fX5_cut σ t (nI a) (nI b) = some σ' ∧ (∀ c, c ≠ t + 1 → σ' c = σ c) ∧ ∀ j, σ' (t + 1) j = if a ≤ j ∧ j + b < N then σ (t + 1) (j + b) else σ (t + 1) j := by
  have hb := gln_lt (t + 1)
  refine ⟨gset σ (t + 1) (va_cpy (σ (t + 1)) (σ (t + 1)) (a + b) a (N - b - a)), ?_, fun c hc => gset_ne hc, fun j => ?_⟩
  · unfold fX5_cut
    rw [hN, pk_sub (by omega), pk_sub (by omega), gl_e, if_neg (nI_pos (by omega)), if_neg (nI_pos (by omega)), if_neg (nI_pos (by omega)), nIa, nI_cl (n := a + b) (by omega), nI_cl (n := a) (by omega), nI_cl (n := N - b - a) (by omega), if_pos ⟨nI_pos (by omega), nI_pos (by omega), nI_pos (by omega), by omega, by omega⟩, gl_e]
  · rw [gset_at]
    by_cases c : a ≤ j ∧ j + b < N
    · rw [if_pos c, pk_cpy_in (by omega) (by omega), show a + b + (j - a) = j + b by omega]
    · rw [if_neg c, pk_cpy_out (by omega)]
theorem scF_e {f : Nat → Int32} {k : Nat} : ∀ (d i : Nat), (∀ q, scF f k d i = some q → scF f k (d + 1) i = some q) ∧ (scF f k d i = none → scF f k (d + 1) i = if f (123 + (i + d)) = nI k then some (i + d) else none) := by
  intro d
  induction d with
  | zero => exact fun i => ⟨(fun q h => by cases h), fun _ => rfl⟩
  | succ d ih =>
    intro i
    obtain ⟨h1, h2⟩ := ih (i + 1)
    have s1 : scF f k (d + 1) i = if f (123 + i) = nI k then some i else scF f k d (i + 1) := rfl
    have s2 : scF f k (d + 1 + 1) i = if f (123 + i) = nI k then some i else scF f k (d + 1) (i + 1) := rfl
    rw [s1, s2]
    by_cases c : f (123 + i) = nI k
    · rw [if_pos c, if_pos c]
      exact ⟨fun q h => h, fun h => by cases h⟩
    · rw [if_neg c, if_neg c, show i + (d + 1) = i + 1 + d by omega]
      exact ⟨h1, h2⟩
theorem sc_e {g : Nat → Int32} {k i : Nat} : (g (123 + i) ≠ nI k → sc g (i + 1) k = sc g i k) ∧ (sc g i k = none → g (123 + i) = nI k → sc g (i + 1) k = some i) := by
  obtain ⟨h1, h2⟩ := scF_e (f := g) (k := k) i 0
  rw [Nat.zero_add] at h2
  refine ⟨fun c => ?_, fun h c => (h2 h).trans (if_pos c)⟩
  cases hs : sc g i k with
  | some q => exact h1 q hs
  | none => exact (h2 hs).trans (if_neg c)
theorem sc_more {g : Nat → Int32} {k n' : Nat} : ∀ d, (∀ t, n' ≤ t → t < n' + d → g (123 + t) ≠ nI k) → sc g (n' + d) k = sc g n' k := by
  intro d
  induction d with
  | zero => exact fun _ => rfl
  | succ d ih => exact fun H => (sc_e.1 (H (n' + d) (by omega) (by omega))).trans (ih (fun t h1 h2 => H t h1 (by omega)))
theorem rm48 {d : Nat} {a1 : Int32} {g : Nat → Int32} (G : gD d) (P : ∀ t, t < 12 → g (123 + t) = -1 ∨ ∃ k, k < 36 ∧ g (123 + t) = nI k) (U : ∀ t t' k, t < 12 → t' < 12 → k < 36 → g (123 + t) = nI k → g (123 + t') = nI k → t = t') : ∀ (j i m : Nat) (σ : gM), i + j = 12 → j < m → (∀ t, t < 12 → σ (d + 10) t = g (123 + t)) → (∀ k, k < 36 → σ (d + 14) k = oI (sc g i k)) → ∃ σ', fX4_remove_48 (d + 8) a1 m σ (nI i) = some σ' ∧ (∀ c, c ≠ d + 14 → σ' c = σ c) ∧ ∀ k, k < 36 → σ' (d + 14) k = oI (sc g 12 k) := by
  intro j
  induction j with
  | zero =>
    intro i m σ hi hm hp hl
    obtain ⟨m, rfl⟩ : ∃ q, m = q + 1 := ⟨m - 1, by omega⟩
    obtain rfl : i = 12 := by omega
    refine ⟨σ, ?_, fun _ _ => rfl, hl⟩
    rw [fX4_remove_48, if_pos (show (12 : Int32) ≤ nI 12 by decide)]
  | succ j ih =>
    intro i m σ hi hm hp hl
    obtain ⟨m, rfl⟩ : ∃ q, m = q + 1 := ⟨m - 1, by omega⟩
    rw [fX4_remove_48, if_neg (show ¬ (12 : Int32) ≤ nI i from nI_ge (b := 12) (by omega) (by decide)), get_in (show i < gln (d + 10) by rw [G.2.2.2.1]; omega), Option.bind_some, show σ (d + 8 + 1 + 1) i = g (123 + i) from hp i (by omega)]
    rcases P i (by omega) with c | ⟨k0, hk0, c⟩
    · rw [c, set_m1, Option.bind_some, gl_e, nIa1]
      exact ih (i + 1) m σ (by omega) (by omega) hp (fun k hk => by rw [sc_e.1 (by rw [c]; exact m1_ne' (by omega))]; exact hl k hk)
    · rw [c, set_in (show k0 < gln (d + 14) by rw [G.2.2.2.2.2]; exact hk0), Option.bind_some, gl_e, nIa1]
      obtain ⟨σ', p, a, b⟩ := ih (i + 1) m (gset σ (d + 14) (upd (σ (d + 14)) k0 (nI i))) (by omega) (by omega) (fun t ht => by rw [gset_ne (by omega)]; exact hp t ht) (fun k hk => by
        rw [gset_at]
        by_cases ck : k = k0
        · subst ck
          rw [pk_us, sc_e.2 (by
            cases hq : sc g i k with
            | none => rfl
            | some q =>
              have h1 := sc_lt hq
              have := U q i k (by omega) (by omega) hk h1.2 c
              omega) c]
          rfl
        · rw [pk_un ck, sc_e.1 (by rw [c]; exact fun q => ck ((nI_eq (by omega) (by omega)).mp q).symm)]
          exact hl k hk)
      exact ⟨σ', p, fun x hx => (a x hx).trans (gset_ne hx), b⟩
theorem rem8 {σ : gM} {d w h n s : Nat} {f : Nat → Int32} (D : DDo σ d f w h n) (hs : s < n) : ∃ σ', fX0_remove σ d (nI s) = some σ' ∧ (∀ c, (c ≤ d ∨ d + 15 ≤ c) → σ' c = σ c) ∧ DDo σ' d (zF f n s) w h (n - 1) := by
  have n12 := D.2.1.2.1.2.2.2.2
  have O' := okf_rem D.2.1 hs
  obtain ⟨w1, w6, h1, h6, -⟩ := D.2.1.2.1
  have hwh := wh_le w6 h6
  obtain ⟨G, O, ⟨z1, z2, z3⟩, y1, y2, y3, y4, y5⟩ := D
  obtain ⟨s1, p1, a1, b1⟩ := ctL (σ := σ) (t := d + 1 + 1) (a := s) (b := 1) G.1 (by omega)
  obtain ⟨s2, p2, a2, b2⟩ := ctL (σ := s1) (t := d + 1 + 3) (a := s * 32) (b := 32) G.2.1 (by omega)
  obtain ⟨s3, p3, a3, b3⟩ := ctL (σ := s2) (t := d + 1 + 5) (a := s * 32) (b := 32) G.2.2.1 (by omega)
  have a4 : ∀ c, c ≠ d + 1 → gset s3 (d + 1) (upd (s3 (d + 1)) 3 (s3 (d + 1) 3 - 1)) c = s3 c := fun c hc => gset_ne hc
  have b4 : gset s3 (d + 1) (upd (s3 (d + 1)) 3 (s3 (d + 1) 3 - 1)) (d + 1) 3 = nI (n - 1) := by
    rw [gset_at, pk_us, a3 _ (by omega), a2 _ (by omega), a1 _ (by omega), z1, nIs1 (by omega)]
  generalize hs4 : gset s3 (d + 1) (upd (s3 (d + 1)) 3 (s3 (d + 1) 3 - 1)) = s4 at a4 b4
  obtain ⟨s5, p5, a5, b5⟩ := ctL (σ := s4) (t := d + 8 + 1) (a := s) (b := 1) G.2.2.2.1 (by omega)
  have a6 : ∀ c, c ≠ d + 10 → gset s5 (d + 10) (upd (s5 (d + 10)) 11 (-1)) c = s5 c := fun c hc => gset_ne hc
  have b6 : gset s5 (d + 10) (upd (s5 (d + 10)) 11 (-1)) (d + 10) = upd (s5 (d + 10)) 11 (-1) := gset_at
  generalize hs6 : gset s5 (d + 10) (upd (s5 (d + 10)) 11 (-1)) = s6 at a6 b6
  obtain ⟨s7, p7, a7, b7⟩ := ctL (σ := s6) (t := d + 8 + 3) (a := s) (b := 1) G.2.2.2.2.1 (by omega)
  have a8 : ∀ c, c ≠ d + 12 → gset s7 (d + 12) (upd (s7 (d + 12)) 11 0) c = s7 c := fun c hc => gset_ne hc
  have b8 : gset s7 (d + 12) (upd (s7 (d + 12)) 11 0) (d + 12) = upd (s7 (d + 12)) 11 0 := gset_at
  generalize hs8 : gset s7 (d + 12) (upd (s7 (d + 12)) 11 0) = s8 at a8 b8
  obtain ⟨s9, p9, a9, b9⟩ := stA (σ := s8) (t := d + 8 + 5) (v := -1) G.2.2.2.2.2
  have e10 : s9 (d + 10) = upd (s5 (d + 10)) 11 (-1) := by rw [a9 _ (by omega), a8 _ (by omega), a7 _ (by omega), b6]
  have e12 : s9 (d + 12) = upd (s7 (d + 12)) 11 0 := by rw [a9 _ (by omega), b8]
  have o10 : s4 (d + 10) = σ (d + 10) := by rw [a4 _ (by omega), a3 _ (by omega), a2 _ (by omega), a1 _ (by omega)]
  have o12 : s6 (d + 12) = σ (d + 12) := by rw [a6 _ (by omega), a5 _ (by omega), a4 _ (by omega), a3 _ (by omega), a2 _ (by omega), a1 _ (by omega)]
  have place : ∀ t, t < 12 → s9 (d + 10) t = if t < n - 1 then zF f n s (123 + t) else -1 := by
    intro t ht
    rw [e10]
    by_cases c1 : t = 11
    · rw [c1, pk_us, if_neg (by omega)]
    · rw [pk_un c1, show s5 (d + 10) t = _ from b5 t, show s4 (d + 8 + 1 + 1) = _ from o10]
      by_cases c2 : t < n - 1
      · rw [if_pos c2, (zF_t n12 c2).2.2.2]
        unfold shf
        by_cases c3 : t < s
        · rw [if_neg (by omega), if_pos c3, y3 t ht, if_pos (by omega)]
        · rw [if_pos (by omega), if_neg c3, y3 (t + 1) (by omega), if_pos (by omega)]
      · rw [if_neg c2, if_pos (by omega), y3 (t + 1) (by omega), if_neg (by omega)]
  have orient : ∀ t, t < 12 → s9 (d + 12) t = if t < n - 1 then zF f n s (111 + t) else 0 := by
    intro t ht
    rw [e12]
    by_cases c1 : t = 11
    · rw [c1, pk_us, if_neg (by omega)]
    · rw [pk_un c1, show s7 (d + 12) t = _ from b7 t, show s6 (d + 8 + 3 + 1) = _ from o12]
      by_cases c2 : t < n - 1
      · rw [if_pos c2, (zF_t n12 c2).2.2.1]
        unfold shf
        by_cases c3 : t < s
        · rw [if_neg (by omega), if_pos c3, y4 t ht, if_pos (by omega)]
        · rw [if_pos (by omega), if_neg c3, y4 (t + 1) (by omega), if_pos (by omega)]
      · rw [if_neg c2, if_pos (by omega), y4 (t + 1) (by omega), if_neg (by omega)]
  have gv : ∀ t, s9 (d + 10) (123 + t - 123) = s9 (d + 10) t := fun t => congrArg (s9 (d + 10)) (by omega)
  have gP : ∀ t, t < 12 → s9 (d + 10) t = -1 ∨ ∃ k, k < 36 ∧ s9 (d + 10) t = nI k := by
    intro t ht
    rw [place t ht]
    by_cases c : t < n - 1
    · rw [if_pos c]
      rcases O'.pl c with q | ⟨k, hk, q⟩
      · exact Or.inl q
      · exact Or.inr ⟨k, by omega, q⟩
    · rw [if_neg c]
      exact Or.inl rfl
  have gU : ∀ t t' k, t < 12 → t' < 12 → k < 36 → s9 (d + 10) t = nI k → s9 (d + 10) t' = nI k → t = t' := by
    intro t t' k ht ht' hk
    rw [place t ht, place t' ht']
    intro e1 e2
    by_cases c : t < n - 1
    · by_cases c' : t' < n - 1
      · rw [if_pos c] at e1
        rw [if_pos c'] at e2
        exact O'.2.2.2.2.2.2.2 t t' k c c' hk e1 e2
      · rw [if_neg c'] at e2
        exact absurd e2 (m1_ne' (by omega))
    · rw [if_neg c] at e1
      exact absurd e1 (m1_ne' (by omega))
  obtain ⟨s10, p10, a10, b10⟩ := rm48 (d := d) (a1 := nI s) (g := fun j => s9 (d + 10) (j - 123)) G (fun t ht => by rw [gv]; exact gP t ht) (fun t t' k ht ht' hk => by rw [gv, gv]; exact gU t t' k ht ht' hk) 12 0 gF s9 rfl (gF_lt (by decide)) (fun t ht => (gv t).symm) (fun k hk => b9 k hk)
  have far : ∀ c, (c ≤ d ∨ d + 15 ≤ c) → s10 c = σ c := fun c hc => by rw [a10 c (by omega), a9 c (by omega), a8 c (by omega), a7 c (by omega), a6 c (by omega), a5 c (by omega), a4 c (by omega), a3 c (by omega), a2 c (by omega), a1 c (by omega)]
  have pg : s10 (d + 8) = σ (d + 8) := by rw [a10 _ (by omega), a9 _ (by omega), a8 _ (by omega), a7 _ (by omega), a6 _ (by omega), a5 _ (by omega), a4 _ (by omega), a3 _ (by omega), a2 _ (by omega), a1 _ (by omega)]
  refine ⟨s10, ?_, far, G, O', ⟨?_, ?_, ?_⟩, ?_, ?_, ?_, ?_, ?_⟩
  · unfold fX0_remove fX6_remove fX4_remove
    rw [if_neg (nI_pos (by omega)), z1, if_pos (nI_lt hs (by omega)), show fX5_cut σ (d + 1 + 1) (nI s) 1 = _ from p1, Option.bind_some, show (32 : Int32) = nI 32 from rfl, pk_mul, p2, Option.bind_some, p3, Option.bind_some, gl_e, hs4, Option.bind_some, show fX5_cut s4 (d + 8 + 1) (nI s) 1 = _ from p5, Option.bind_some, show fX5_set s5 (d + 8 + 1) 11 (-1) = some s6 from (set_in (t := d + 8 + 1) (k := 11) (by rw [show gln (d + 8 + 1 + 1) = 12 from G.2.2.2.1]; decide)).trans (congrArg some hs6), Option.bind_some, show fX5_cut s6 (d + 8 + 3) (nI s) 1 = _ from p7, Option.bind_some, show fX5_set s7 (d + 8 + 3) 11 0 = some s8 from (set_in (t := d + 8 + 3) (k := 11) (by rw [show gln (d + 8 + 3 + 1) = 12 from G.2.2.2.2.1]; decide)).trans (congrArg some hs8), Option.bind_some, p9, Option.bind_some, show fX4_remove_48 (d + 8) (nI s) gF s9 0 = _ from p10, Option.bind_some]
  · rw [a10 _ (by omega), a9 _ (by omega), a8 _ (by omega), a7 _ (by omega), a6 _ (by omega), a5 _ (by omega)]
    exact b4
  · rw [pg]
    exact z2
  · rw [pg]
    exact z3
  · intro t ht
    rw [a10 _ (by omega), a9 _ (by omega), a8 _ (by omega), a7 _ (by omega), a6 _ (by omega), a5 _ (by omega), a4 _ (by omega), a3 _ (by omega), a2 _ (by omega), show s1 (d + 3) t = _ from b1 t, (zF_t n12 ht).2.1]
    unfold shf
    by_cases c3 : t < s
    · rw [if_neg (by omega), if_pos c3]
      exact y1 t (by omega)
    · rw [if_pos (by omega), if_neg c3]
      exact y1 (t + 1) (by omega)
  · intro t o e ht ho he
    have hg := og_lt o e
    have e5 : s10 (d + 5) = s2 (d + 5) := by rw [a10 _ (by omega), a9 _ (by omega), a8 _ (by omega), a7 _ (by omega), a6 _ (by omega), a5 _ (by omega), a4 _ (by omega), a3 _ (by omega)]
    have e7 : s10 (d + 7) = s3 (d + 7) := by rw [a10 _ (by omega), a9 _ (by omega), a8 _ (by omega), a7 _ (by omega), a6 _ (by omega), a5 _ (by omega), a4 _ (by omega)]
    have o5 : s1 (d + 5) = σ (d + 5) := a1 _ (by omega)
    have o7 : s2 (d + 7) = σ (d + 7) := by rw [a2 _ (by omega), a1 _ (by omega)]
    have hsh := shf_lt hs ht
    obtain ⟨q1, q2⟩ := y2 (shf s t) o e hsh ho he
    have tp : tP (zF f n s) t o e = tP f (shf s t) o e := by
      unfold tP
      rw [((zF_t n12 ht).1 _ hg).1]
    have tl : tL (zF f n s) t o e = tL f (shf s t) o e := by
      unfold tL
      rw [((zF_t n12 ht).1 _ hg).2, (zF_t n12 ht).2.1]
    rw [tp, tl, ← q1, ← q2, e5, e7, show s2 (d + 5) (t * 32 + o * 4 + e) = _ from b2 _, show s3 (d + 7) (t * 32 + o * 4 + e) = _ from b3 _, show s1 (d + 1 + 3 + 1) = _ from o5, show s2 (d + 1 + 5 + 1) = _ from o7]
    unfold shf
    by_cases c3 : t < s
    · rw [if_pos c3, if_neg (show ¬ (s * 32 ≤ t * 32 + o * 4 + e ∧ t * 32 + o * 4 + e + 32 < 384) by omega), if_neg (show ¬ (s * 32 ≤ t * 32 + o * 4 + e ∧ t * 32 + o * 4 + e + 32 < 384) by omega)]
      exact ⟨rfl, rfl⟩
    · rw [if_neg c3, if_pos (show s * 32 ≤ t * 32 + o * 4 + e ∧ t * 32 + o * 4 + e + 32 < 384 by omega), if_pos (show s * 32 ≤ t * 32 + o * 4 + e ∧ t * 32 + o * 4 + e + 32 < 384 by omega), show (t + 1) * 32 + o * 4 + e = t * 32 + o * 4 + e + 32 by omega]
      exact ⟨rfl, rfl⟩
  · intro t ht
    rw [a10 _ (by omega)]
    exact place t ht
  · intro t ht
    rw [a10 _ (by omega)]
    exact orient t ht
  · intro k hk
    rw [b10 k hk]
    refine congrArg oI ?_
    have := sc_more (g := fun j => s9 (d + 10) (j - 123)) (k := k) (n' := n - 1) (12 - (n - 1)) (fun t h1 h2 => by
      show s9 (d + 10) (123 + t - 123) ≠ nI k
      rw [gv, place t (by omega), if_neg (by omega)]
      exact m1_ne' (by omega))
    rw [show n - 1 + (12 - (n - 1)) = 12 by omega] at this
    rw [this]
    exact sc_cong (fun t ht => by
      show s9 (d + 10) (123 + t - 123) = _
      rw [gv, place t (by omega), if_pos ht]) k
end

section
/-! THE START; ALL STEPS -/
theorem clr0 {σ : gM} {d : Nat} {f : Nat → Int32} (G : gD d) (z1 : σ (d + 1) 3 = 0) (f0 : f 0 = 4) (f1 : f 1 = 4) (f2 : f 2 = 0) : ∃ σ', fX0_init σ d = some σ' ∧ (∀ c, (c ≤ d + 7 ∨ d + 15 ≤ c) → σ' c = σ c) ∧ DDo σ' d f 4 4 0 := by
  have O' : OKf f 4 4 0 := ⟨⟨f0, f1, f2⟩, ⟨by decide, by decide, by decide, by decide, by decide⟩, fun s hs => by omega, fun s e hs => by omega, fun s hs => by omega, fun s hs => by omega, fun s hs => by omega, fun s t k hs => by omega⟩
  have k2 : ∀ c, c ≠ d + 8 → gset (gset σ (d + 8) (upd (σ (d + 8)) 3 4)) (d + 8) (upd (gset σ (d + 8) (upd (σ (d + 8)) 3 4) (d + 8)) 4 4) c = σ c := fun c hc => by rw [gset_ne hc, gset_ne hc]
  have k3 : gset (gset σ (d + 8) (upd (σ (d + 8)) 3 4)) (d + 8) (upd (gset σ (d + 8) (upd (σ (d + 8)) 3 4) (d + 8)) 4 4) (d + 8) 3 = 4 := by rw [gset_at, pk_un (by decide), gset_at, pk_us]
  have k4 : gset (gset σ (d + 8) (upd (σ (d + 8)) 3 4)) (d + 8) (upd (gset σ (d + 8) (upd (σ (d + 8)) 3 4) (d + 8)) 4 4) (d + 8) 4 = 4 := by rw [gset_at, pk_us]
  generalize hs2 : gset (gset σ (d + 8) (upd (σ (d + 8)) 3 4)) (d + 8) (upd (gset σ (d + 8) (upd (σ (d + 8)) 3 4) (d + 8)) 4 4) = s2 at k2 k3 k4
  obtain ⟨s3, a3, b3, c3⟩ := stA (σ := s2) (t := d + 8 + 1) (v := -1) G.2.2.2.1
  obtain ⟨s4, a4, b4, c4⟩ := stA (σ := s3) (t := d + 8 + 3) (v := 0) G.2.2.2.2.1
  obtain ⟨s5, a5, b5, c5⟩ := stA (σ := s4) (t := d + 8 + 5) (v := -1) G.2.2.2.2.2
  have far : ∀ c, c ≠ d + 8 → c ≠ d + 10 → c ≠ d + 12 → c ≠ d + 14 → s5 c = σ c := fun c h1 h2 h3 h4 => by rw [b5 c (by omega), b4 c (by omega), b3 c (by omega), k2 c h1]
  have e8 : s5 (d + 8) = s2 (d + 8) := by rw [b5 _ (by omega), b4 _ (by omega), b3 _ (by omega)]
  refine ⟨s5, ?_, fun c hc => far c (by omega) (by omega) (by omega) (by omega), G, O', ⟨?_, ?_, ?_⟩, fun s hs => by omega, fun s o e hs => by omega, ?_, ?_, ?_⟩
  · unfold fX0_init fX4_init fX4_clear
    rw [gl_e, gl_e, hs2, a3, Option.bind_some, a4, Option.bind_some, a5, Option.bind_some]
  · rw [far _ (by omega) (by omega) (by omega) (by omega)]
    exact z1
  · rw [e8]
    exact k3
  · rw [e8]
    exact k4
  · intro s hs
    rw [b5 _ (by omega), b4 _ (by omega), if_neg (by omega)]
    exact c3 s hs
  · intro s hs
    rw [b5 _ (by omega), if_neg (by omega)]
    exact c4 s hs
  · intro k hk
    exact c5 k hk
end
