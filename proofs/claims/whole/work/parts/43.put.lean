/-! A SCRAP IS LAID, TURNED, TAKEN -/
/-- the snapshot behind: s lies at p in orientation o -/
def pF (f : Nat → Int32) (s : Nat) (p o : Int32) : Nat → Int32 := upd (upd f (123 + s) p) (111 + s) o
theorem pF_p {f : Nat → Int32} {s : Nat} {p o : Int32} : pF f s p o (123 + s) = p := by
  unfold pF
  rw [pk_un (by omega), pk_us]
theorem pF_o {f : Nat → Int32} {s : Nat} {p o : Int32} : pF f s p o (111 + s) = o := pk_us
theorem pF_ne {f : Nat → Int32} {s j : Nat} {p o : Int32} (h1 : j ≠ 123 + s) (h2 : j ≠ 111 + s) : pF f s p o j = f j := by
  unfold pF
  rw [pk_un h2, pk_un h1]
theorem pF_lo {f : Nat → Int32} {s : Nat} {p o : Int32} : ∀ j, j < 111 → pF f s p o j = f j := fun j hj => pF_ne (by omega) (by omega)
theorem OKf.put {f : Nat → Int32} {w h n s o : Nat} {p : Option Nat} (O : OKf f w h n) (hs : s < n) (hp : ∀ k, p = some k → k < w * h) (ho : o < 8) (hz : p = none → o = 0) (hf : ∀ k t, p = some k → t < n → f (123 + t) = nI k → t = s) : OKf (pF f s (oI p) (nI o)) w h n := by
  obtain ⟨⟨f0, f1, f2⟩, ⟨w1, w6, h1, h6, n12⟩, a, b, c, d, e, u⟩ := O
  have hwh := wh_le w6 h6
  refine ⟨⟨by rw [pF_lo 0 (by omega)]; exact f0, by rw [pF_lo 1 (by omega)]; exact f1, by rw [pF_lo 2 (by omega)]; exact f2⟩, ⟨w1, w6, h1, h6, n12⟩, ?_, ?_, ?_, ?_, ?_, ?_⟩
  · intro t ht
    rw [pF_lo _ (by omega)]
    exact a t ht
  · intro t x ht hx
    rw [pF_lo _ (by omega)]
    exact b t x ht hx
  · intro t ht
    by_cases c0 : t = s
    · subst c0
      rw [pF_p]
      exact ⟨p, rfl, hp⟩
    · rw [pF_ne (by omega) (by omega)]
      exact c t ht
  · intro t ht
    by_cases c0 : t = s
    · subst c0
      rw [pF_o]
      exact ⟨o, ho, rfl⟩
    · rw [pF_ne (by omega) (by omega)]
      exact d t ht
  · intro t ht hm
    by_cases c0 : t = s
    · subst c0
      rw [pF_p] at hm
      have := (oI_m1 (fun k hk => by have := hp k hk; omega)).mp hm
      rw [pF_o, hz this]
      rfl
    · rw [pF_ne (by omega) (by omega)] at hm
      rw [pF_ne (by omega) (by omega)]
      exact e t ht hm
  · have key : ∀ t k, t < n → k < 36 → t ≠ s → oI p = nI k → f (123 + t) = nI k → False := by
      intro t k ht hk hts hpk hft
      cases p with
      | none => exact m1_ne' (by omega) hpk
      | some k0 =>
        have h0 := hp k0 rfl
        have : k0 = k := (nI_eq (by omega) (by omega)).mp hpk
        subst this
        exact hts (hf k0 t rfl ht hft)
    intro t t' k ht ht' hk h1' h2'
    by_cases c0 : t = s
    · by_cases c1 : t' = s
      · rw [c0, c1]
      · exfalso
        rw [c0, pF_p] at h1'
        rw [pF_ne (by omega) (by omega)] at h2'
        exact key t' k ht' hk c1 h1' h2'
    · rw [pF_ne (by omega) (by omega)] at h1'
      by_cases c1 : t' = s
      · exfalso
        rw [c1, pF_p] at h2'
        exact key t k ht hk c0 h2' h1'
      · rw [pF_ne (by omega) (by omega)] at h2'
        exact u t t' k ht ht' hk h1' h2'
theorem sc_put {f : Nat → Int32} {w h n s k' : Nat} {p o : Int32} (O : OKf f w h n) (O' : OKf (pF f s p o) w h n) (hs : s < n) (hk : k' < 36) : sc (pF f s p o) n k' = if p = nI k' then some s else if f (123 + s) = nI k' then none else sc f n k' := by
  have n12 := O.2.1.2.2.2.2
  by_cases c : p = nI k'
  · rw [if_pos c]
    exact sc_at O' hk hs (by rw [pF_p]; exact c)
  · rw [if_neg c]
    have no : sc (pF f s p o) n k' ≠ some s := fun q => c (by have := (sc_lt q).2; rw [pF_p] at this; exact this)
    by_cases c2 : f (123 + s) = nI k'
    · rw [if_pos c2]
      cases hq : sc (pF f s p o) n k' with
      | none => rfl
      | some q =>
        have h1 := sc_lt hq
        have h2 : q ≠ s := fun e => no (by rw [hq, e])
        have h3 := h1.2
        rw [pF_ne (by omega) (by omega)] at h3
        exact absurd (O.2.2.2.2.2.2.2 q s k' h1.1 hs hk h3 c2) h2
    · rw [if_neg c2]
      cases hq : sc f n k' with
      | none =>
        cases hr : sc (pF f s p o) n k' with
        | none => rfl
        | some q =>
          have h1 := sc_lt hr
          have h2 : q ≠ s := fun e => no (by rw [hr, e])
          have h3 := h1.2
          rw [pF_ne (by omega) (by omega)] at h3
          exact absurd h3 (sc_none hq h1.1)
      | some q =>
        have h1 := sc_lt hq
        have h2 : q ≠ s := fun e => c2 (by rw [← e]; exact h1.2)
        exact sc_at O' hk h1.1 (by rw [pF_ne (by omega) (by omega)]; exact h1.2)
/-- what a desk keeps while places, orientations and lying change -/
theorem DDo.put {σ σ' : gM} {d w h n s : Nat} {f : Nat → Int32} {p o : Int32} (D : DDo σ d f w h n) (O' : OKf (pF f s p o) w h n) (hs : s < n) (A : ∀ c, c ≠ d + 10 → c ≠ d + 12 → c ≠ d + 14 → σ' c = σ c) (e1 : σ' (d + 10) = upd (σ (d + 10)) s p) (e2 : σ' (d + 12) = upd (σ (d + 12)) s o) (e3 : ∀ k, k < 36 → σ' (d + 14) k = if p = nI k then nI s else if f (123 + s) = nI k then -1 else σ (d + 14) k) : DDo σ' d (pF f s p o) w h n := by
  have n12 := D.2.1.2.1.2.2.2.2
  obtain ⟨G, O, ⟨z1, z2, z3⟩, y1, y2, y3, y4, y5⟩ := D
  refine ⟨G, O', ⟨?_, ?_, ?_⟩, ?_, ?_, ?_, ?_, ?_⟩
  · rw [A _ (by omega) (by omega) (by omega)]
    exact z1
  · rw [A _ (by omega) (by omega) (by omega)]
    exact z2
  · rw [A _ (by omega) (by omega) (by omega)]
    exact z3
  · intro t ht
    rw [A _ (by omega) (by omega) (by omega), pF_lo _ (by omega)]
    exact y1 t ht
  · intro t o' e ht ho he
    rw [A _ (by omega) (by omega) (by omega), A (d + 7) (by omega) (by omega) (by omega), tP_cong pF_lo (by omega), tL_cong pF_lo (by omega)]
    exact y2 t o' e ht ho he
  · intro t ht
    rw [e1]
    by_cases c : t = s
    · subst c
      rw [pk_us, if_pos hs, pF_p]
    · rw [pk_un c, y3 t ht, pF_ne (by omega) (by omega)]
  · intro t ht
    rw [e2]
    by_cases c : t = s
    · subst c
      rw [pk_us, if_pos hs, pF_o]
    · rw [pk_un c, y4 t ht, pF_ne (by omega) (by omega)]
  · intro k hk
    rw [e3 k hk, sc_put O O' hs hk, y5 k hk]
    split
    · rfl
    · split <;> rfl
theorem put8 {σ : gM} {d w h n s k o : Nat} {f : Nat → Int32} (D : DDo σ d f w h n) (hs : s < n) (hk : k < w * h) (ho : o < 8) (hf : ∀ t, t < n → f (123 + t) = nI k → t = s) (h1 : f (123 + s) = -1 ∨ f (123 + s) = nI k) : ∃ σ', fX4_put σ (d + 8) (nI s) (nI k) (nI o) = some σ' ∧ (∀ c, c ≠ d + 10 → c ≠ d + 12 → c ≠ d + 14 → σ' c = σ c) ∧ DDo σ' d (pF f s (nI k) (nI o)) w h n := by
  obtain ⟨w1, w6, h1', h6, n12⟩ := D.2.1.2.1
  have hwh := wh_le w6 h6
  have O' : OKf (pF f s (nI k) (nI o)) w h n := D.2.1.put (p := some k) hs (fun _ e => by cases e; exact hk) ho (fun e => by cases e) (fun k' t e ht hq => by cases e; exact hf t ht hq)
  refine ⟨gset (gset (gset σ (d + 10) (upd (σ (d + 10)) s (nI k))) (d + 12) (upd (σ (d + 12)) s (nI o))) (d + 14) (upd (σ (d + 14)) k (nI s)), ?_, ?_, ?_⟩
  · unfold fX4_put
    rw [set_in (show s < gln (d + 10) by rw [D.1.2.2.2.1]; omega), Option.bind_some, set_in (show s < gln (d + 12) by rw [D.1.2.2.2.2.1]; omega), Option.bind_some, set_in (show k < gln (d + 14) by rw [D.1.2.2.2.2.2]; omega), Option.bind_some]
    rw [show ((gset σ (d + 8 + 1 + 1) (upd (σ (d + 8 + 1 + 1)) s (nI k))) (d + 8 + 3 + 1) : Nat → Int32) = σ (d + 12) from gset_ne (by omega), gset_ne (show d + 8 + 5 + 1 ≠ d + 8 + 3 + 1 by omega), gset_ne (show d + 8 + 5 + 1 ≠ d + 8 + 1 + 1 by omega)]
  · intro c h1 h2 h3
    rw [gset_ne h3, gset_ne h2, gset_ne h1]
  · refine D.put O' hs (fun c h1 h2 h3 => by rw [gset_ne h3, gset_ne h2, gset_ne h1]) ?_ ?_ ?_
    · rw [gset_ne (by omega), gset_ne (by omega), gset_at]
    · rw [gset_ne (by omega), gset_at]
    · intro k' hk'
      rw [gset_at]
      by_cases c : k' = k
      · subst c
        rw [pk_us, if_pos rfl]
      · have n1 : ¬ nI k = nI k' := fun q => c ((nI_eq (by omega) (by omega)).mp q).symm
        rw [pk_un c, if_neg n1, if_neg]
        intro q
        rcases h1 with q1 | q1
        · rw [q1] at q
          exact m1_ne' (by omega) q
        · rw [q1] at q
          exact n1 q
theorem tak8 {σ : gM} {d w h n s k : Nat} {f : Nat → Int32} (D : DDo σ d f w h n) (hs : s < n) (hk : k < w * h) (h1 : f (123 + s) = nI k) : ∃ σ', fX4_take σ (d + 8) (nI s) = some σ' ∧ (∀ c, c ≠ d + 10 → c ≠ d + 12 → c ≠ d + 14 → σ' c = σ c) ∧ DDo σ' d (pF f s (-1) 0) w h n := by
  obtain ⟨w1, w6, h1', h6, n12⟩ := D.2.1.2.1
  have hwh := wh_le w6 h6
  have O' : OKf (pF f s (-1) 0) w h n := D.2.1.put (p := none) (o := 0) hs (fun _ e => by cases e) (by decide) (fun _ => rfl) (fun k' t e ht hq => by cases e)
  have hp : σ (d + 10) s = nI k := (D.2.2.2.2.2.1 s (by omega)).trans (by rw [if_pos hs]; exact h1)
  refine ⟨gset (gset (gset σ (d + 14) (upd (σ (d + 14)) k (-1))) (d + 10) (upd (σ (d + 10)) s (-1))) (d + 12) (upd (σ (d + 12)) s 0), ?_, ?_, ?_⟩
  · unfold fX4_take
    rw [get_in (show s < gln (d + 10) by rw [D.1.2.2.2.1]; omega), Option.bind_some, show σ (d + 8 + 1 + 1) s = nI k from hp, set_in (show k < gln (d + 14) by rw [D.1.2.2.2.2.2]; omega), Option.bind_some, set_in (show s < gln (d + 10) by rw [D.1.2.2.2.1]; omega), Option.bind_some, set_in (show s < gln (d + 12) by rw [D.1.2.2.2.2.1]; omega), Option.bind_some]
    rw [show ((gset σ (d + 8 + 5 + 1) (upd (σ (d + 8 + 5 + 1)) k (-1))) (d + 8 + 1 + 1) : Nat → Int32) = σ (d + 10) from gset_ne (by omega), gset_ne (show d + 8 + 3 + 1 ≠ d + 8 + 1 + 1 by omega), gset_ne (show d + 8 + 3 + 1 ≠ d + 8 + 5 + 1 by omega)]
  · intro c h1 h2 h3
    rw [gset_ne h2, gset_ne h1, gset_ne h3]
  · refine D.put O' hs (fun c h1 h2 h3 => by rw [gset_ne h2, gset_ne h1, gset_ne h3]) ?_ ?_ ?_
    · rw [gset_ne (by omega), gset_at]
    · rw [gset_at]
    · intro k' hk'
      rw [gset_ne (by omega), gset_ne (by omega), gset_at, if_neg (m1_ne' (by omega)), h1]
      by_cases c : k' = k
      · subst c
        rw [pk_us, if_pos rfl]
      · have n1 : ¬ nI k = nI k' := fun q => c ((nI_eq (by omega) (by omega)).mp q).symm
        rw [pk_un c, if_neg n1]
theorem put9 {τ : gM} {s : Nat} {p o : Int32} (hs : s < 12) : fX9_puts τ 124 (nI s) p o = some (gset τ 125 (pF (τ 125) s p o)) := by
  unfold fX9_puts
  rw [ix123, ix111, if_pos (c125 (by omega)), gl_e, if_pos (c125 (by omega)), gl_e, nI_cl (n := 123 + s) (by omega), nI_cl (n := 111 + s) (by omega)]
  refine congrArg some ?_
  show gset (gset τ 125 (upd (τ 125) (123 + s) p)) 125 (upd (gset τ 125 (upd (τ 125) (123 + s) p) 125) (111 + s) o) = _
  rw [gset_at]
  funext c
  by_cases h : c = 125
  · subst h
    rw [gset_at, gset_at]
    rfl
  · rw [gset_ne h, gset_ne h, gset_ne h]
