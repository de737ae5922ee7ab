/-! A SCRAP IS ADDED: the class's tables; both sides -/
variable {n o1 : Nat} {dr : Nat → Int32}
theorem DR.mv {σ σ' : gM} (A : DR σ o1 dr) (h0 : σ' o1 = σ o1) (h2 : σ' (o1 + 2) = σ (o1 + 2)) (h4 : σ' (o1 + 4) = σ (o1 + 4)) : DR σ' o1 dr := by
  unfold DR
  rw [h0, h2, h4]
  exact A
theorem ap35 (G : gR o1) (hn : n < 12) {o : Nat} (ho : o < 8) (K : gM → Int32 → Option gM) : ∀ (d i m : Nat) (σ : gM), i + d = 4 → d < m → σ 2 3 = nI n → DR σ o1 dr → ∃ σ', fX6_append_35 K 2 o1 m σ (nI o) (nI i) = K σ' (nI (o + 1)) ∧ (∀ c, c ≠ 6 → c ≠ 8 → σ' c = σ c) ∧ (∀ e, i ≤ e → e < 4 → σ' 6 (n * 32 + o * 4 + e) = PV dr o e ∧ σ' 8 (n * 32 + o * 4 + e) = LV dr o e) ∧ ∀ x, (x < n * 32 + o * 4 + i ∨ n * 32 + o * 4 + 4 ≤ x) → σ' 6 x = σ 6 x ∧ σ' 8 x = σ 8 x := by
  intro d
  induction d with
  | zero =>
    intro i m σ hi hm z A
    obtain ⟨m, rfl⟩ : ∃ q, m = q + 1 := ⟨m - 1, by omega⟩
    obtain rfl : i = 4 := by omega
    refine ⟨σ, ?_, fun _ _ _ => rfl, fun e h1 h2 => by omega, fun _ _ => ⟨rfl, rfl⟩⟩
    rw [fX6_append_35, if_pos i4e, gl_e, nIa1]
  | succ d ih =>
    intro i m σ hi hm z A
    obtain ⟨m, rfl⟩ : ∃ q, m = q + 1 := ⟨m - 1, by omega⟩
    have g := G.2.2
    have A1 : DR (gset σ 6 (upd (σ 6) (n * 32 + o * 4 + i) (PV dr o i))) o1 dr := A.mv (gset_ne (by omega)) (gset_ne (by omega)) (gset_ne (by omega))
    obtain ⟨σ', p, a, b, c⟩ := ih (i + 1) m (gset (gset σ 6 (upd (σ 6) (n * 32 + o * 4 + i) (PV dr o i))) 8 (upd (σ 8) (n * 32 + o * 4 + i) (LV dr o i))) (by omega) (by omega) (by rw [gset_ne (by decide), gset_ne (by decide)]; exact z) (A1.mv (gset_ne (by omega)) (gset_ne (by omega)) (gset_ne (by omega)))
    refine ⟨σ', ?_, fun x h1 h2 => by rw [a x h1 h2, gset_ne h2, gset_ne h1], fun e h1 h2 => ?_, fun x hx => ?_⟩
    · rw [fX6_append_35, if_neg (i4 (by omega)), gl_e, z, ix32, prf1 G A ho (by omega), Option.bind_some, set_in (show n * 32 + o * 4 + i < gln (2 + 3 + 1) by rw [show gln (2 + 3 + 1) = 384 by decide]; omega), Option.bind_some, show gset σ (2 + 3 + 1) (upd (σ (2 + 3 + 1)) (n * 32 + o * 4 + i) (PV dr o i)) = gset σ 6 (upd (σ 6) (n * 32 + o * 4 + i) (PV dr o i)) from rfl, lne1 G A1 ho (by omega), Option.bind_some, set_in (show n * 32 + o * 4 + i < gln (2 + 5 + 1) by rw [show gln (2 + 5 + 1) = 384 by decide]; omega), Option.bind_some, gl_e, nIa1, show gset σ 6 (upd (σ 6) (n * 32 + o * 4 + i) (PV dr o i)) (2 + 5 + 1) = σ 8 from gset_ne (by decide)]
      exact p
    · by_cases ce : e = i
      · subst ce
        obtain ⟨c1, c2⟩ := c (n * 32 + o * 4 + e) (by omega)
        rw [c1, c2, gset_ne (by decide), gset_at, pk_us, gset_at, pk_us]
        exact ⟨rfl, rfl⟩
      · exact b e (by omega) h2
    · obtain ⟨c1, c2⟩ := c x (by omega)
      rw [c1, c2, gset_ne (by decide), gset_at, pk_un (by omega), gset_at, pk_un (by omega)]
      exact ⟨rfl, rfl⟩
theorem ap27 (G : gR o1) (hn : n < 12) : ∀ (d i m : Nat) (σ : gM), i + d = 8 → d < m → σ 2 3 = nI n → DR σ o1 dr → ∃ σ', fX6_append_27 2 o1 m σ (nI i) = some σ' ∧ (∀ c, c ≠ 2 → c ≠ 6 → c ≠ 8 → σ' c = σ c) ∧ σ' 2 3 = nI (n + 1) ∧ (∀ o e, i ≤ o → o < 8 → e < 4 → σ' 6 (n * 32 + o * 4 + e) = PV dr o e ∧ σ' 8 (n * 32 + o * 4 + e) = LV dr o e) ∧ ∀ x, x < n * 32 + i * 4 → σ' 6 x = σ 6 x ∧ σ' 8 x = σ 8 x := by
  intro d
  induction d with
  | zero =>
    intro i m σ hi hm z A
    obtain ⟨m, rfl⟩ : ∃ q, m = q + 1 := ⟨m - 1, by omega⟩
    obtain rfl : i = 8 := by omega
    refine ⟨gset σ 2 (upd (σ 2) 3 (nI (n + 1))), ?_, fun c h1 _ _ => gset_ne h1, by rw [gset_at, pk_us], fun o e h1 h2 => by omega, fun x _ => ⟨congrFun (gset_ne (by decide)) x, congrFun (gset_ne (by decide)) x⟩⟩
    rw [fX6_append_27, if_pos i8e, gl_e, z, nIa1]
  | succ d ih =>
    intro i m σ hi hm z A
    obtain ⟨m, rfl⟩ : ∃ q, m = q + 1 := ⟨m - 1, by omega⟩
    have g := G.2.2
    obtain ⟨σ1, p1, a1, b1, c1⟩ := ap35 G hn (o := i) (by omega) (fun σ2 y2 => fX6_append_27 2 o1 m σ2 y2) 4 0 gF σ rfl (gF_lt (by decide)) z A
    obtain ⟨σ', p, a, b, c, e⟩ := ih (i + 1) m σ1 (by omega) (by omega) (by rw [a1 2 (by decide) (by decide)]; exact z) (A.mv (a1 _ (by omega) (by omega)) (a1 _ (by omega) (by omega)) (a1 _ (by omega) (by omega)))
    refine ⟨σ', ?_, fun x h1 h2 h3 => (a x h1 h2 h3).trans (a1 x h2 h3), b, fun o e' h1 h2 h3 => ?_, fun x hx => ?_⟩
    · rw [fX6_append_27, if_neg (i8 (by omega)), show fX6_append_35 (fun σ2 y2 => fX6_append_27 2 o1 m σ2 y2) 2 o1 gF σ (nI i) 0 = _ from p1]
      exact p
    · by_cases co : o = i
      · subst co
        obtain ⟨e1, e2⟩ := e (n * 32 + o * 4 + e') (by omega)
        rw [e1, e2]
        exact b1 e' (Nat.zero_le _) h3
      · exact c o e' (by omega) h2 h3
    · obtain ⟨e1, e2⟩ := e x (by omega)
      rw [e1, e2]
      exact c1 x (by omega)
theorem qF_lo {f : Nat → Int32} {j : Nat} (hn : n < 12) (h1 : j ≠ 2) (h2 : ¬ (3 + 4 * n ≤ j ∧ j < 3 + 4 * n + 4)) (h3 : ¬ (51 + 4 * n ≤ j ∧ j < 51 + 4 * n + 4)) (h4 : j ≠ 99 + n) (h5 : j ≠ 111 + n) (h6 : j ≠ 123 + n) : qF f n dr j = f j := by
  unfold qF qH
  rw [if_neg h1, if_neg h4, if_neg h5, if_neg h6, if_neg h2, if_neg h3]
theorem qF_pl {f : Nat → Int32} (hn : n < 12) : qF f n dr (123 + n) = -1 := by
  unfold qF
  rw [if_neg (by omega), if_neg (by omega), if_neg (by omega), if_pos rfl]
theorem qF_or {f : Nat → Int32} (hn : n < 12) : qF f n dr (111 + n) = 0 := by
  unfold qF
  rw [if_neg (by omega), if_neg (by omega), if_pos rfl]
theorem qF_k {f : Nat → Int32} (hn : n < 12) : qF f n dr (99 + n) = dr 8 := by
  unfold qF
  rw [if_neg (by omega), if_pos rfl]
theorem qF_p {f : Nat → Int32} {x : Nat} (hn : n < 12) (hx : x < 4) : qF f n dr (3 + 4 * n + x) = dr x := by
  unfold qF qH
  rw [if_neg (by omega), if_neg (by omega), if_neg (by omega), if_neg (by omega), if_pos (by omega), show 3 + 4 * n + x - (3 + 4 * n) = x by omega]
theorem qF_l {f : Nat → Int32} {x : Nat} (hn : n < 12) (hx : x < 4) : qF f n dr (51 + 4 * n + x) = dr (4 + x) := by
  unfold qF qH
  rw [if_neg (by omega), if_neg (by omega), if_neg (by omega), if_neg (by omega), if_neg (by omega), if_pos (by omega), show 51 + 4 * n + x - (51 + 4 * n) = x by omega]
theorem okf_app {f : Nat → Int32} {w h : Nat} (O : OKf f w h n) (hn : n < 12) (hp : ∀ e, e < 4 → pv (dr e)) (hk : dr 8 = 0 ∨ dr 8 = 1) : OKf (qF f n dr) w h (n + 1) := by
  obtain ⟨⟨f0, f1, f2⟩, ⟨w1, w6, h1, h6, n12⟩, a, b, c, d, e, u⟩ := O
  have old : ∀ s, s < n → qF f n dr (99 + s) = f (99 + s) ∧ qF f n dr (111 + s) = f (111 + s) ∧ qF f n dr (123 + s) = f (123 + s) := fun s hs => ⟨qF_lo hn (by omega) (by omega) (by omega) (by omega) (by omega) (by omega), qF_lo hn (by omega) (by omega) (by omega) (by omega) (by omega) (by omega), qF_lo hn (by omega) (by omega) (by omega) (by omega) (by omega) (by omega)⟩
  refine ⟨⟨(qF_lo hn (by omega) (by omega) (by omega) (by omega) (by omega) (by omega)).trans f0, (qF_lo hn (by omega) (by omega) (by omega) (by omega) (by omega) (by omega)).trans f1, if_pos rfl⟩, ⟨w1, w6, h1, h6, hn⟩, ?_, ?_, ?_, ?_, ?_, ?_⟩
  · intro s hs
    by_cases cs : s = n
    · rw [cs, qF_k hn]
      exact hk
    · rw [(old s (by omega)).1]
      exact a s (by omega)
  · intro s x hs hx
    by_cases cs : s = n
    · rw [cs, qF_p hn hx]
      exact hp x hx
    · rw [qF_lo hn (by omega) (by omega) (by omega) (by omega) (by omega) (by omega)]
      exact b s x (by omega) hx
  · intro s hs
    by_cases cs : s = n
    · rw [cs, qF_pl hn]
      exact ⟨none, rfl, fun k q => by cases q⟩
    · rw [(old s (by omega)).2.2]
      exact c s (by omega)
  · intro s hs
    by_cases cs : s = n
    · rw [cs, qF_or hn]
      exact ⟨0, by decide, rfl⟩
    · rw [(old s (by omega)).2.1]
      exact d s (by omega)
  · intro s hs hm
    by_cases cs : s = n
    · rw [cs, qF_or hn]
    · rw [(old s (by omega)).2.2] at hm
      rw [(old s (by omega)).2.1]
      exact e s (by omega) hm
  · intro s t k hs ht hk' e1 e2
    by_cases cs : s = n
    · rw [cs, qF_pl hn] at e1
      exact absurd e1 (m1_ne' (by omega))
    · by_cases ct : t = n
      · rw [ct, qF_pl hn] at e2
        exact absurd e2 (m1_ne' (by omega))
      · rw [(old s (by omega)).2.2] at e1
        rw [(old t (by omega)).2.2] at e2
        exact u s t k (by omega) (by omega) hk' e1 e2
theorem sc_app {f : Nat → Int32} {w h k : Nat} (O' : OKf (qF f n dr) w h (n + 1)) (hn : n < 12) (hk : k < 36) : sc (qF f n dr) (n + 1) k = sc f n k := by
  have old : ∀ s, s < n → qF f n dr (123 + s) = f (123 + s) := fun s hs => qF_lo hn (by omega) (by omega) (by omega) (by omega) (by omega) (by omega)
  cases hs : sc f n k with
  | some q =>
    have h1 := sc_lt hs
    exact sc_at O' hk (by omega) (by rw [old q h1.1]; exact h1.2)
  | none =>
    cases hr : sc (qF f n dr) (n + 1) k with
    | none => rfl
    | some q =>
      have h1 := sc_lt hr
      by_cases cq : q = n
      · rw [cq, qF_pl hn] at h1
        exact absurd h1.2 (m1_ne' (by omega))
      · rw [old q (by omega)] at h1
        exact absurd h1.2 (sc_none hs (by omega))
theorem app_both {σ τ : gM} {w h : Nat} (R : RR σ τ) (D : DDo σ 1 (τ 125) w h n) (hn : n < 12) (G : gR o1) (A : DR σ o1 (τ 130)) (hp : ∀ e, e < 4 → pv (τ 130 e)) (hk : τ 130 8 = 0 ∨ τ 130 8 = 1) : ∃ σ' τ', fX8_append σ 0 o1 = some (nI n, σ') ∧ fX9_adds τ 124 = some (nI n, τ') ∧ RR σ' τ' := by
  obtain ⟨σ1, τ1, q8, q9, K⟩ := R.kept
  obtain ⟨e5, D1⟩ := K.desk
  have D1 := D1 D
  rw [e5] at D1
  have g := G.2.2
  have O' := okf_app D1.2.1 hn hp hk
  obtain ⟨-, O, ⟨z1, z2, z3⟩, y1, y2, y3, y4, y5⟩ := id D1
  have A1 : DR σ1 o1 (τ 130) := A.mv (K.1 _ (by omega)) (K.1 _ (by omega)) (K.1 _ (by omega))
  obtain ⟨σ2, p8, a8, b8, c8, d8⟩ := ap27 G hn 8 0 gF (gset σ1 4 (upd (σ1 4) n (τ 130 8))) rfl (gF_lt (by decide)) (by rw [gset_ne (by decide)]; exact z1) (A1.mv (gset_ne (by omega)) (gset_ne (by omega)) (gset_ne (by omega)))
  obtain ⟨τ2, p9, a9, b9⟩ := ad28 (f := τ 125) (dr := τ 130) hn O.1.2.2 4 0 gF τ1 rfl (gF_lt (by decide)) (by rw [qH_0]; exact e5) (K.2.1 130 (by decide) (by decide))
  refine ⟨σ2, τ2, ?_, ?_, R.new K (w := w) (h := h) (n := n + 1) (fun c hc => (a8 c (by omega) (by omega) (by omega)).trans (gset_ne (by omega))) (fun c hc => a9 c (by omega)) ?_⟩
  · unfold fX8_append fX6_append
    rw [show fX3_keep σ (0 + 31) (0 + 1) = _ from q8, Option.bind_some, show σ1 (0 + 1 + 1) 3 = nI n from z1, if_pos (show nI n < 12 from nI_lt (b := 12) hn (by decide)), show fX1_kind σ1 o1 = some (τ 130 8) from congrArg some A1.2.2, Option.bind_some, set_in (show n < gln (0 + 1 + 1 + 1 + 1) by rw [show gln (0 + 1 + 1 + 1 + 1) = 12 by decide]; exact hn), Option.bind_some, show fX6_append_27 (0 + 1 + 1) o1 gF (gset σ1 (0 + 1 + 1 + 1 + 1) (upd (σ1 (0 + 1 + 1 + 1 + 1)) n (τ 130 8))) 0 = _ from p8, Option.bind_some, show fX6_size σ2 (0 + 1 + 1) = some (nI (n + 1)) from congrArg some b8, Option.bind_some, show nI (n + 1) - 1 = nI n from nI_pred n]
  · unfold fX9_adds
    rw [if_pos k12, show τ (124 + 1) (2 : Int32).toNatClampNeg = nI n by rw [cl_2]; exact O.1.2.2, if_neg (show ¬ nI n = 12 from fun q => by have := (nI_eq (b := 12) (by omega) (by decide)).mp q; omega), q9, Option.bind_some, if_pos k12, gl_e, show τ1 (124 + 1) (2 : Int32).toNatClampNeg = nI n by rw [cl_2, show τ1 (124 + 1) = _ from e5]; exact O.1.2.2]
    exact p9
  · rw [b9]
    refine ⟨gD_1, O', ⟨b8, ?_, ?_⟩, ?_, ?_, ?_, ?_, ?_⟩
    · rw [a8 (1 + 8) (by decide) (by decide) (by decide), gset_ne (by decide)]
      exact z2
    · rw [a8 (1 + 8) (by decide) (by decide) (by decide), gset_ne (by decide)]
      exact z3
    · intro s hs
      rw [a8 (1 + 3) (by decide) (by decide) (by decide)]
      show gset σ1 4 (upd (σ1 4) n (τ 130 8)) 4 s = _
      rw [gset_at]
      by_cases cs : s = n
      · rw [cs, pk_us, qF_k hn]
      · rw [pk_un cs, qF_lo hn (by omega) (by omega) (by omega) (by omega) (by omega) (by omega)]
        exact y1 s (by omega)
    · intro s o e hs ho he
      have hg := og_lt o e
      by_cases cs : s = n
      · subst cs
        have := c8 o e (Nat.zero_le _) ho he
        refine ⟨this.1.trans ?_, this.2.trans ?_⟩
        · unfold PV tP
          rw [qF_p hn hg]
        · unfold LV tL
          rw [qF_k hn, qF_l hn hg]
      · have h2 := d8 (s * 32 + o * 4 + e) (by omega)
        have h3 := y2 s o e (by omega) ho he
        have e6 : gset σ1 4 (upd (σ1 4) n (τ 130 8)) 6 = σ1 6 := gset_ne (by decide)
        have e8 : gset σ1 4 (upd (σ1 4) n (τ 130 8)) 8 = σ1 8 := gset_ne (by decide)
        rw [e6, e8] at h2
        refine ⟨h2.1.trans (h3.1.trans ?_), h2.2.trans (h3.2.trans ?_)⟩
        · unfold tP
          rw [qF_lo hn (by omega) (by omega) (by omega) (by omega) (by omega) (by omega)]
        · unfold tL
          rw [qF_lo hn (by omega) (by omega) (by omega) (by omega) (by omega) (by omega), qF_lo hn (by omega) (by omega) (by omega) (by omega) (by omega) (by omega)]
    · intro s hs
      rw [a8 (1 + 10) (by decide) (by decide) (by decide), gset_ne (by decide)]
      refine (y3 s hs).trans ?_
      by_cases c1 : s < n
      · rw [if_pos c1, if_pos (by omega), qF_lo hn (by omega) (by omega) (by omega) (by omega) (by omega) (by omega)]
      · rw [if_neg c1]
        by_cases c2 : s < n + 1
        · rw [if_pos c2, show s = n by omega, qF_pl hn]
        · rw [if_neg c2]
    · intro s hs
      rw [a8 (1 + 12) (by decide) (by decide) (by decide), gset_ne (by decide)]
      refine (y4 s hs).trans ?_
      by_cases c1 : s < n
      · rw [if_pos c1, if_pos (by omega), qF_lo hn (by omega) (by omega) (by omega) (by omega) (by omega) (by omega)]
      · rw [if_neg c1]
        by_cases c2 : s < n + 1
        · rw [if_pos c2, show s = n by omega, qF_or hn]
        · rw [if_neg c2]
    · intro k hk'
      rw [a8 (1 + 14) (by decide) (by decide) (by decide), gset_ne (by decide), sc_app O' hn hk']
      exact y5 k hk'
theorem adds_full {τ : gM} (z : τ 125 2 = nI 12) : fX9_adds τ 124 = some (-1003, τ) := by
  unfold fX9_adds
  rw [if_pos k12, show τ (124 + 1) (2 : Int32).toNatClampNeg = nI 12 from z, if_pos (show nI 12 = 12 from rfl)]
