section
/-! SNAPSHOTS THAT AGREE BELOW 135; WHAT STANDS BEHIND A KEPT STATE -/
theorem og_lt (o e : Nat) : og o e < 4 := by
  unfold og un
  split <;> omega
theorem tP_cong {f g : Nat → Int32} (E : ∀ j, j < 111 → g j = f j) {s : Nat} (hs : s < 12) (o e : Nat) : tP g s o e = tP f s o e := by
  have := og_lt o e
  unfold tP
  rw [E (3 + 4 * s + og o e) (by omega)]
theorem tL_cong {f g : Nat → Int32} (E : ∀ j, j < 111 → g j = f j) {s : Nat} (hs : s < 12) (o e : Nat) : tL g s o e = tL f s o e := by
  have := og_lt o e
  unfold tL
  rw [E (51 + 4 * s + og o e) (by omega), E (99 + s) (by omega)]
theorem scF_cong {f g : Nat → Int32} {k : Nat} : ∀ (d i : Nat), (∀ j, i ≤ j → j < i + d → g (123 + j) = f (123 + j)) → scF g k d i = scF f k d i := by
  intro d
  induction d with
  | zero => intro i E; rfl
  | succ d ih =>
    intro i E
    unfold scF
    rw [E i (by omega) (by omega), ih (i + 1) (fun j h1 h2 => E j (by omega) (by omega))]
theorem sc_cong {f g : Nat → Int32} {n : Nat} (E : ∀ j, j < n → g (123 + j) = f (123 + j)) (k : Nat) : sc g n k = sc f n k := scF_cong n 0 (fun j _ h => E j (by omega))
theorem OKf.cong {f g : Nat → Int32} {w h n : Nat} (O : OKf f w h n) (E : ∀ j, j < 135 → g j = f j) : OKf g w h n := by
  obtain ⟨⟨f0, f1, f2⟩, ⟨w1, w6, h1, h6, n12⟩, a, b, c, d, e, u⟩ := O
  refine ⟨⟨by rw [E 0 (by omega)]; exact f0, by rw [E 1 (by omega)]; exact f1, by rw [E 2 (by omega)]; exact f2⟩, ⟨w1, w6, h1, h6, n12⟩, ?_, ?_, ?_, ?_, ?_, ?_⟩
  · intro s hs
    rw [E _ (by omega)]
    exact a s hs
  · intro s x hs hx
    rw [E _ (by omega)]
    exact b s x hs hx
  · intro s hs
    rw [E _ (by omega)]
    exact c s hs
  · intro s hs
    rw [E _ (by omega)]
    exact d s hs
  · intro s hs
    rw [E _ (by omega), E _ (by omega)]
    exact e s hs
  · intro s t k hs ht
    rw [E _ (by omega), E _ (by omega)]
    exact u s t k hs ht
theorem DDo.cong {σ : gM} {d w h n : Nat} {f g : Nat → Int32} (D : DDo σ d f w h n) (E : ∀ j, j < 135 → g j = f j) : DDo σ d g w h n := by
  have n12 := D.2.1.2.1.2.2.2.2
  obtain ⟨G, O, Z, y1, y2, y3, y4, y5⟩ := D
  refine ⟨G, O.cong E, Z, ?_, ?_, ?_, ?_, ?_⟩
  · intro s hs
    rw [E _ (by omega)]
    exact y1 s hs
  · intro s o e hs ho he
    rw [tP_cong (fun j hj => E j (by omega)) (by omega), tL_cong (fun j hj => E j (by omega)) (by omega)]
    exact y2 s o e hs ho he
  · intro s hs
    rw [E _ (by omega)]
    exact y3 s hs
  · intro s hs
    rw [E _ (by omega)]
    exact y4 s hs
  · intro k hk
    rw [sc_cong (fun j hj => E _ (by omega))]
    exact y5 k hk
/-! UNDO -/
end

section
/-! A SCRAP IS LAID, TURNED, TAKEN -/
/-- the snapshot behind: s lies at p in orientation o -/
def pF (f : Nat → Int32) (s : Nat) (p o : Int32) : Nat → Int32 := upd (upd f (123 + s) p) (111 + s) o
theorem pF_p {f : Nat → Int32} {s : Nat} {p o : Int32} : pF f s p o (123 + s) = p := by
  unfold pF
  rw [pk_un (by omega), pk_us]
theorem pF_o {f : Nat → Int32} {s : Nat} {p o : Int32} : pF f s p o (111 + s) = o := pk_us
theorem pF_ne {f : Nat → Int32} {s j : Nat} {p o : Int32} (h1 : j ≠ 123 + s) (h2 : j ≠ 111 + s) : pF f s p o j = f j := by
  unfold pF
  rw [pk_un h2, pk_un h1]
theorem pF_lo {f : Nat → Int32} {s : Nat} {p o : Int32} : ∀ j, j < 111 → pF f s p o j = f j := fun j hj => pF_ne (by omega) (by omega)
theorem OKf.put {f : Nat → Int32} {w h n s o : Nat} {p : Option Nat} (O : OKf f w h n) (hs : s < n) (hp : ∀ k, p = some k → k < w * h) (ho : o < 8) (hz : p = none → o = 0) (hf : ∀ k t, p = some k → t < n → f (123 + t) = nI k → t = s) : OKf (pF f s (oI p) (nI o)) w h n := by
  obtain ⟨⟨f0, f1, f2⟩, ⟨w1, w6, h1, h6, n12⟩, a, b, c, d, e, u⟩ := O
  have hwh := wh_le w6 h6
  refine ⟨⟨by rw [pF_lo 0 (by omega)]; exact f0, by rw [pF_lo 1 (by omega)]; exact f1, by rw [pF_lo 2 (by omega)]; exact f2⟩, ⟨w1, w6, h1, h6, n12⟩, ?_, ?_, ?_, ?_, ?_, ?_⟩
  · intro t ht
    rw [pF_lo _ (by omega)]
    exact a t ht
  · intro t x ht hx
    rw [pF_lo _ (by omega)]
    exact b t x ht hx
  · intro t ht
    by_cases c0 : t = s
    · subst c0
      rw [pF_p]
      exact ⟨p, rfl, hp⟩
    · rw [pF_ne (by omega) (by omega)]
      exact c t ht
  · intro t ht
    by_cases c0 : t = s
    · subst c0
      rw [pF_o]
      exact ⟨o, ho, rfl⟩
    · rw [pF_ne (by omega) (by omega)]
      exact d t ht
  · intro t ht hm
    by_cases c0 : t = s
    · subst c0
      rw [pF_p] at hm
      have := (oI_m1 (fun k hk => by have := hp k hk; omega)).mp hm
      rw [pF_o, hz this]
      rfl
    · rw [pF_ne (by omega) (by omega)] at hm
      rw [pF_ne (by omega) (by omega)]
      exact e t ht hm
  · have key : ∀ t k, t < n → k < 36 → t ≠ s → oI p = nI k → f (123 + t) = nI k → False := by
      intro t k ht hk hts hpk hft
      cases p with
      | none => exact m1_ne' (by omega) hpk
      | some k0 =>
        have h0 := hp k0 rfl
        have : k0 = k := (nI_eq (by omega) (by omega)).mp hpk
        subst this
        exact hts (hf k0 t rfl ht hft)
    intro t t' k ht ht' hk h1' h2'
    by_cases c0 : t = s
    · by_cases c1 : t' = s
      · rw [c0, c1]
      · exfalso
        rw [c0, pF_p] at h1'
        rw [pF_ne (by omega) (by omega)] at h2'
        exact key t' k ht' hk c1 h1' h2'
    · rw [pF_ne (by omega) (by omega)] at h1'
      by_cases c1 : t' = s
      · exfalso
        rw [c1, pF_p] at h2'
        exact key t k ht hk c0 h2' h1'
      · rw [pF_ne (by omega) (by omega)] at h2'
        exact u t t' k ht ht' hk h1' h2'
theorem sc_put {f : Nat → Int32} {w h n s k' : Nat} {p o : Int32} (O : OKf f w h n) (O' : OKf (pF f s p o) w h n) (hs : s < n) (hk : k' < 36) : sc (pF f s p o) n k' = if p = nI k' then some s else if f (123 + s) = nI k' then none else sc f n k' := by
  have n12 := O.2.1.2.2.2.2
  by_cases c : p = nI k'
  · rw [if_pos c]
    exact sc_at O' hk hs (by rw [pF_p]; exact c)
  · rw [if_neg c]
    have no : sc (pF f s p o) n k' ≠ some s := fun q => c (by have := (sc_lt q).2; rw [pF_p] at this; exact this)
    by_cases c2 : f (123 + s) = nI k'
    · rw [if_pos c2]
      cases hq : sc (pF f s p o) n k' with
      | none => rfl
      | some q =>
        have h1 := sc_lt hq
        have h2 : q ≠ s := fun e => no (by rw [hq, e])
        have h3 := h1.2
        rw [pF_ne (by omega) (by omega)] at h3
        exact absurd (O.2.2.2.2.2.2.2 q s k' h1.1 hs hk h3 c2) h2
    · rw [if_neg c2]
      cases hq : sc f n k' with
      | none =>
        cases hr : sc (pF f s p o) n k' with
        | none => rfl
        | some q =>
          have h1 := sc_lt hr
          have h2 : q ≠ s := fun e => no (by rw [hr, e])
          have h3 := h1.2
          rw [pF_ne (by omega) (by omega)] at h3
          exact absurd h3 (sc_none hq h1.1)
      | some q =>
        have h1 := sc_lt hq
        have h2 : q ≠ s := fun e => c2 (by rw [← e]; exact h1.2)
        exact sc_at O' hk h1.1 (by rw [pF_ne (by omega) (by omega)]; exact h1.2)
/-- what a desk keeps while places, orientations and lying change -/
theorem DDo.put {σ σ' : gM} {d w h n s : Nat} {f : Nat → Int32} {p o : Int32} (D : DDo σ d f w h n) (O' : OKf (pF f s p o) w h n) (hs : s < n) (A : ∀ c, c ≠ d + 10 → c ≠ d + 12 → c ≠ d + 14 → σ' c = σ c) (e1 : σ' (d + 10) = upd (σ (d + 10)) s p) (e2 : σ' (d + 12) = upd (σ (d + 12)) s o) (e3 : ∀ k, k < 36 → σ' (d + 14) k = if p = nI k then nI s else if f (123 + s) = nI k then -1 else σ (d + 14) k) : DDo σ' d (pF f s p o) w h n := by
  have n12 := D.2.1.2.1.2.2.2.2
  obtain ⟨G, O, ⟨z1, z2, z3⟩, y1, y2, y3, y4, y5⟩ := D
  refine ⟨G, O', ⟨?_, ?_, ?_⟩, ?_, ?_, ?_, ?_, ?_⟩
  · rw [A _ (by omega) (by omega) (by omega)]
    exact z1
  · rw [A _ (by omega) (by omega) (by omega)]
    exact z2
  · rw [A _ (by omega) (by omega) (by omega)]
    exact z3
  · intro t ht
    rw [A _ (by omega) (by omega) (by omega), pF_lo _ (by omega)]
    exact y1 t ht
  · intro t o' e ht ho he
    rw [A _ (by omega) (by omega) (by omega), A (d + 7) (by omega) (by omega) (by omega), tP_cong pF_lo (by omega), tL_cong pF_lo (by omega)]
    exact y2 t o' e ht ho he
  · intro t ht
    rw [e1]
    by_cases c : t = s
    · subst c
      rw [pk_us, if_pos hs, pF_p]
    · rw [pk_un c, y3 t ht, pF_ne (by omega) (by omega)]
  · intro t ht
    rw [e2]
    by_cases c : t = s
    · subst c
      rw [pk_us, if_pos hs, pF_o]
    · rw [pk_un c, y4 t ht, pF_ne (by omega) (by omega)]
  · intro k hk
    rw [e3 k hk, sc_put O O' hs hk, y5 k hk]
    split
    · rfl
    · split <;> rfl
theorem put8 {σ : gM} {d w h n s k o : Nat} {f : Nat → Int32} (D : DDo σ d f w h n) (hs : s < n) (hk : k < w * h) (ho : o < 8) (hf : ∀ t, t < n → f (123 + t) = nI k → t = s) (h1 : f (123 + s) = -1 ∨ f (123 + s) = nI k) : ∃ σ', fX4_put σ (d + 8) (nI s) (nI k) (nI o) = some σ' ∧ (∀ c, c ≠ d + 10 → c ≠ d + 12 → c ≠ d + 14 → σ' c = σ c) ∧ DDo σ' d (pF f s (nI k) (nI o)) w h n := by
  obtain ⟨w1, w6, h1', h6, n12⟩ := D.2.1.2.1
  have hwh := wh_le w6 h6
  have O' : OKf (pF f s (nI k) (nI o)) w h n := D.2.1.put (p := some k) hs (fun _ e => by cases e; exact hk) ho (fun e => by cases e) (fun k' t e ht hq => by cases e; exact hf t ht hq)
  refine ⟨gset (gset (gset σ (d + 10) (upd (σ (d + 10)) s (nI k))) (d + 12) (upd (σ (d + 12)) s (nI o))) (d + 14) (upd (σ (d + 14)) k (nI s)), ?_, ?_, ?_⟩
  · unfold fX4_put
    rw [set_in (show s < gln (d + 10) by rw [D.1.2.2.2.1]; omega), Option.bind_some, set_in (show s < gln (d + 12) by rw [D.1.2.2.2.2.1]; omega), Option.bind_some, set_in (show k < gln (d + 14) by rw [D.1.2.2.2.2.2]; omega), Option.bind_some]
    rw [show ((gset σ (d + 8 + 1 + 1) (upd (σ (d + 8 + 1 + 1)) s (nI k))) (d + 8 + 3 + 1) : Nat → Int32) = σ (d + 12) from gset_ne (by omega), gset_ne (show d + 8 + 5 + 1 ≠ d + 8 + 3 + 1 by omega), gset_ne (show d + 8 + 5 + 1 ≠ d + 8 + 1 + 1 by omega)]
  · intro c h1 h2 h3
    rw [gset_ne h3, gset_ne h2, gset_ne h1]
  · refine D.put O' hs (fun c h1 h2 h3 => by rw [gset_ne h3, gset_ne h2, gset_ne h1]) ?_ ?_ ?_
    · rw [gset_ne (by omega), gset_ne (by omega), gset_at]
    · rw [gset_ne (by omega), gset_at]
    · intro k' hk'
      rw [gset_at]
      by_cases c : k' = k
      · subst c
        rw [pk_us, if_pos rfl]
      · have n1 : ¬ nI k = nI k' := fun q => c ((nI_eq (by omega) (by omega)).mp q).symm
        rw [pk_un c, if_neg n1, if_neg]
        intro q
        rcases h1 with q1 | q1
        · rw [q1] at q
          exact m1_ne' (by omega) q
        · rw [q1] at q
          exact n1 q
theorem tak8 {σ : gM} {d w h n s k : Nat} {f : Nat → Int32} (D : DDo σ d f w h n) (hs : s < n) (hk : k < w * h) (h1 : f (123 + s) = nI k) : ∃ σ', fX4_take σ (d + 8) (nI s) = some σ' ∧ (∀ c, c ≠ d + 10 → c ≠ d + 12 → c ≠ d + 14 → σ' c = σ c) ∧ DDo σ' d (pF f s (-1) 0) w h n := by
  obtain ⟨w1, w6, h1', h6, n12⟩ := D.2.1.2.1
  have hwh := wh_le w6 h6
  have O' : OKf (pF f s (-1) 0) w h n := D.2.1.put (p := none) (o := 0) hs (fun _ e => by cases e) (by decide) (fun _ => rfl) (fun k' t e ht hq => by cases e)
  have hp : σ (d + 10) s = nI k := (D.2.2.2.2.2.1 s (by omega)).trans (by rw [if_pos hs]; exact h1)
  refine ⟨gset (gset (gset σ (d + 14) (upd (σ (d + 14)) k (-1))) (d + 10) (upd (σ (d + 10)) s (-1))) (d + 12) (upd (σ (d + 12)) s 0), ?_, ?_, ?_⟩
  · unfold fX4_take
    rw [get_in (show s < gln (d + 10) by rw [D.1.2.2.2.1]; omega), Option.bind_some, show σ (d + 8 + 1 + 1) s = nI k from hp, set_in (show k < gln (d + 14) by rw [D.1.2.2.2.2.2]; omega), Option.bind_some, set_in (show s < gln (d + 10) by rw [D.1.2.2.2.1]; omega), Option.bind_some, set_in (show s < gln (d + 12) by rw [D.1.2.2.2.2.1]; omega), Option.bind_some]
    rw [show ((gset σ (d + 8 + 5 + 1) (upd (σ (d + 8 + 5 + 1)) k (-1))) (d + 8 + 1 + 1) : Nat → Int32) = σ (d + 10) from gset_ne (by omega), gset_ne (show d + 8 + 3 + 1 ≠ d + 8 + 1 + 1 by omega), gset_ne (show d + 8 + 3 + 1 ≠ d + 8 + 5 + 1 by omega)]
  · intro c h1 h2 h3
    rw [gset_ne h2, gset_ne h1, gset_ne h3]
  · refine D.put O' hs (fun c h1 h2 h3 => by rw [gset_ne h2, gset_ne h1, gset_ne h3]) ?_ ?_ ?_
    · rw [gset_ne (by omega), gset_at]
    · rw [gset_at]
    · intro k' hk'
      rw [gset_ne (by omega), gset_ne (by omega), gset_at, if_neg (m1_ne' (by omega)), h1]
      by_cases c : k' = k
      · subst c
        rw [pk_us, if_pos rfl]
      · have n1 : ¬ nI k = nI k' := fun q => c ((nI_eq (by omega) (by omega)).mp q).symm
        rw [pk_un c, if_neg n1]
end

section
/-! LAY, FORCE, LIFT, TURN -/
def frO : Option Nat → Int32
  | none => 1
  | some _ => 0
theorem frO_n : frO none = 1 := rfl
theorem frO_s {v : Nat} : frO (some v) = 0 := rfl
theorem fre8 {σ : gM} {w h n s k : Nat} {f : Nat → Int32} (D : DDo σ 1 f w h n) (hs : s < n) (hk : k < w * h) : fX8_isFree σ 0 (nI s) (nI k) = some (if f (123 + s) = -1 then frO (sc f n k) else 0) := by
  obtain ⟨w1, w6, h1, h6, n12⟩ := D.2.1.2.1
  have hwh := wh_le w6 h6
  unfold fX8_isFree
  rw [show fX4_lies σ (0 + 1 + 8) (nI s) = _ from lie8 D hs, Option.bind_some]
  by_cases c : f (123 + s) = -1
  · rw [if_pos c, if_pos c, if_pos rfl, show fX4_scrapAt σ (0 + 1 + 8) (nI k) = _ from sca8s D (by omega), Option.bind_some]
    cases hv : sc f n k with
    | none => rw [if_pos oI_n, frO_n]
    | some v =>
      have := (sc_lt hv).1
      rw [oI_s, if_neg (m1_ne (by omega)), frO_s]
  · rw [if_neg c, if_neg n10, if_neg c]
theorem upd_at {σ : gM} {a : Nat} {v : Nat → Int32} : gset σ a v a = v := gset_at
/-- where a scrap lies, told as a number -/
theorem OKf.pl {f : Nat → Int32} {w h n s : Nat} (O : OKf f w h n) (hs : s < n) : f (123 + s) = -1 ∨ ∃ k, k < w * h ∧ f (123 + s) = nI k := by
  obtain ⟨p, h1, h2⟩ := O.2.2.2.2.1 s hs
  cases p with
  | none => exact Or.inl h1
  | some k => exact Or.inr ⟨k, h2 k rfl, h1⟩
theorem ovN_put {f : Nat → Int32} {s o : Nat} {p : Int32} (ho : o < 8) : ovN (pF f s p (nI o)) s = o := by
  unfold ovN
  rw [pF_o, nI_cl (by omega)]
end

section
/-! RESET -/
theorem gset2 {σ : gM} {a : Nat} {u v : Nat → Int32} : gset (gset σ a u) a v = gset σ a v := by
  funext c
  by_cases h : c = a
  · rw [h, gset_at, gset_at]
  · rw [gset_ne h, gset_ne h, gset_ne h]
theorem filL {o N : Nat} {v : Int32} (hN : gln o = N) : ∀ (d i m : Nat) (σ : gM), i + d = N → d < m → ∃ σ', fJ7_fill_53178_5 o v m σ (nI i) (nI N) = some σ' ∧ (∀ c, c ≠ o → σ' c = σ c) ∧ (∀ j, i ≤ j → j < N → σ' o j = v) ∧ (∀ j, j < i → σ' o j = σ o j) := by
  have hb := gln_lt o
  intro d
  induction d with
  | zero =>
    intro i m σ hi hm
    obtain ⟨m, rfl⟩ : ∃ q, m = q + 1 := ⟨m - 1, by omega⟩
    obtain rfl : i = N := by omega
    refine ⟨σ, ?_, fun c _ => rfl, fun j h1 h2 => by omega, fun j _ => rfl⟩
    rw [fJ7_fill_53178_5, if_pos (Int32.le_refl _)]
  | succ d ih =>
    intro i m σ hi hm
    obtain ⟨m, rfl⟩ : ∃ q, m = q + 1 := ⟨m - 1, by omega⟩
    obtain ⟨σ', p, a, b, c⟩ := ih (i + 1) m (gset σ o (upd (σ o) i v)) (by omega) (by omega)
    refine ⟨σ', ?_, fun x h => (a x h).trans (gset_ne h), fun j h1 h2 => ?_, fun j hj => ?_⟩
    · rw [fJ7_fill_53178_5, if_neg (nI_ge (by omega) (by omega)), if_pos (nI_in (by omega) (by omega)), gl_e, gl_e, nI_cl (by omega), nIa1]
      exact p
    · by_cases cj : j = i
      · subst cj
        rw [c j (by omega), gset_at, pk_us]
      · exact b j (by omega) h2
    · rw [c j (by omega), gset_at, pk_un (by omega)]
theorem stA {σ : gM} {t N : Nat} {v : Int32} (hN : gln (t + 1) = N) : ∃ σ', fX5_setAll σ t v = some σ' ∧ (∀ c, c ≠ t + 1 → σ' c = σ c) ∧ (∀ j, j < N → σ' (t + 1) j = v) := by
  have hb := gln_lt (t + 1)
  obtain ⟨σ', p, a, b, c⟩ := filL (v := v) hN N 0 gF σ (by omega) (gF_lt (by omega))
  refine ⟨σ', ?_, a, fun j hj => b j (by omega) hj⟩
  unfold fX5_setAll fJ7_fill_53178
  rw [gl_e, hN, show fJ7_fill_53178_5 (t + 1) v gF σ 0 (nI N) = _ from p, Option.bind_some]
def gLy (f : Nat → Int32) (i a : Nat) : Nat := if f (123 + i) = -1 then a else a + 1
def nLy (f : Nat → Int32) (n : Nat) : Nat := up (gLy f) n 0 0
theorem nLy_le (f : Nat → Int32) (n : Nat) : nLy f n ≤ n := by
  have := up_le (g := gLy f) (fun i a => by unfold gLy; split <;> omega) n 0 0
  unfold nLy
  omega
theorem cly8L {σ : gM} {t w h n : Nat} {f : Nat → Int32} (D : DDo σ t f w h n) : ∀ (d i m a : Nat), i + d = n → d < m → fX0_countLying_4 σ t m (nI a) (nI i) = some (nI (up (gLy f) d i a)) := by
  have n12 := D.2.1.2.1.2.2.2.2
  intro d
  induction d with
  | zero =>
    intro i m a hi hm
    obtain ⟨m, rfl⟩ : ∃ q, m = q + 1 := ⟨m - 1, by omega⟩
    rw [fX0_countLying_4, siz8 D, Option.bind_some, if_pos (nI_le (by omega) (by omega)), up_0]
  | succ d ih =>
    intro i m a hi hm
    obtain ⟨m, rfl⟩ : ∃ q, m = q + 1 := ⟨m - 1, by omega⟩
    rw [fX0_countLying_4, siz8 D, Option.bind_some, if_neg (nI_ge (by omega) (by omega)), lie8 D (by omega), Option.bind_some, up_s, gl_e, gl_e, gl_e, nIa1, nIa1]
    unfold gLy
    by_cases c : f (123 + i) = -1
    · rw [if_pos c, if_pos rfl, if_pos c]
      exact ih (i + 1) m a (by omega) (by omega)
    · rw [if_neg c, if_neg n10, if_neg c]
      exact ih (i + 1) m (a + 1) (by omega) (by omega)
theorem cly8 {σ : gM} {t w h n : Nat} {f : Nat → Int32} (D : DDo σ t f w h n) : fX0_countLying σ t = some (nI (nLy f n)) := cly8L D n 0 gF 0 (by omega) (gF_lt (by have := D.2.1.2.1.2.2.2.2; omega))
/-- the snapshot behind a reset -/
def rF (f : Nat → Int32) (w h n j : Nat) : Int32 := if j = 0 then nI w else if j = 1 then nI h else if 111 ≤ j ∧ j < 111 + n then 0 else if 123 ≤ j ∧ j < 123 + n then -1 else f j
theorem rF_mid {f : Nat → Int32} {w h n j : Nat} (h1 : 2 ≤ j) (h2 : j < 111) : rF f w h n j = f j := by
  unfold rF
  rw [if_neg (by omega), if_neg (by omega), if_neg (by omega), if_neg (by omega)]
theorem rF_o {f : Nat → Int32} {w h n s : Nat} (h1 : s < n) : rF f w h n (111 + s) = 0 := by
  unfold rF
  rw [if_neg (by omega), if_neg (by omega), if_pos (by omega)]
theorem rF_p {f : Nat → Int32} {w h n s : Nat} (h1 : s < n) (n12 : n ≤ 12) : rF f w h n (123 + s) = -1 := by
  unfold rF
  rw [if_neg (by omega), if_neg (by omega), if_neg (by omega), if_pos (by omega)]
theorem OKf.reset {f : Nat → Int32} {w h n w' h' : Nat} (O : OKf f w h n) (w1 : 1 ≤ w') (w6 : w' ≤ 6) (h1 : 1 ≤ h') (h6 : h' ≤ 6) : OKf (rF f w' h' n) w' h' n := by
  obtain ⟨⟨f0, f1, f2⟩, ⟨-, -, -, -, n12⟩, a, b, c, d, e, u⟩ := O
  refine ⟨⟨rfl, rfl, f2⟩, ⟨w1, w6, h1, h6, n12⟩, ?_, ?_, ?_, ?_, ?_, ?_⟩
  · intro s hs
    rw [rF_mid (by omega) (by omega)]
    exact a s hs
  · intro s x hs hx
    rw [rF_mid (by omega) (by omega)]
    exact b s x hs hx
  · intro s hs
    exact ⟨none, rF_p hs n12, fun k e => by cases e⟩
  · intro s hs
    exact ⟨0, by decide, rF_o hs⟩
  · intro s hs _
    exact rF_o hs
  · intro s t k hs ht hk e1
    rw [rF_p hs n12] at e1
    exact absurd e1 (m1_ne' (by omega))
theorem sc_reset {f : Nat → Int32} {w h n k : Nat} (n12 : n ≤ 12) (hk : k < 36) : sc (rF f w h n) n k = none := by
  cases hq : sc (rF f w h n) n k with
  | none => rfl
  | some q =>
    have h1 := sc_lt hq
    rw [rF_p h1.1 n12] at h1
    exact absurd h1.2 (m1_ne' (by omega))
theorem clr8 {σ : gM} {d w h n w' h' : Nat} {f : Nat → Int32} (D : DDo σ d f w h n) (w1 : 1 ≤ w') (w6 : w' ≤ 6) (h1 : 1 ≤ h') (h6 : h' ≤ 6) : ∃ σ', fX4_clear σ (d + 8) (nI w') (nI h') = some σ' ∧ (∀ c, (c ≤ d + 7 ∨ d + 15 ≤ c) → σ' c = σ c) ∧ DDo σ' d (rF f w' h' n) w' h' n := by
  have O' := D.2.1.reset w1 w6 h1 h6
  have n12 := D.2.1.2.1.2.2.2.2
  obtain ⟨G, O, ⟨z1, z2, z3⟩, y1, y2, y3, y4, y5⟩ := D
  have k2 : ∀ c, c ≠ d + 8 → gset (gset σ (d + 8) (upd (σ (d + 8)) 3 (nI w'))) (d + 8) (upd (gset σ (d + 8) (upd (σ (d + 8)) 3 (nI w')) (d + 8)) 4 (nI h')) c = σ c := fun c hc => by rw [gset_ne hc, gset_ne hc]
  have k3 : gset (gset σ (d + 8) (upd (σ (d + 8)) 3 (nI w'))) (d + 8) (upd (gset σ (d + 8) (upd (σ (d + 8)) 3 (nI w')) (d + 8)) 4 (nI h')) (d + 8) 3 = nI w' := by rw [gset_at, pk_un (by decide), gset_at, pk_us]
  have k4 : gset (gset σ (d + 8) (upd (σ (d + 8)) 3 (nI w'))) (d + 8) (upd (gset σ (d + 8) (upd (σ (d + 8)) 3 (nI w')) (d + 8)) 4 (nI h')) (d + 8) 4 = nI h' := by rw [gset_at, pk_us]
  generalize hs2 : gset (gset σ (d + 8) (upd (σ (d + 8)) 3 (nI w'))) (d + 8) (upd (gset σ (d + 8) (upd (σ (d + 8)) 3 (nI w')) (d + 8)) 4 (nI h')) = s2 at k2 k3 k4
  obtain ⟨s3, a3, b3, c3⟩ := stA (σ := s2) (t := d + 8 + 1) (v := -1) G.2.2.2.1
  obtain ⟨s4, a4, b4, c4⟩ := stA (σ := s3) (t := d + 8 + 3) (v := 0) G.2.2.2.2.1
  obtain ⟨s5, a5, b5, c5⟩ := stA (σ := s4) (t := d + 8 + 5) (v := -1) G.2.2.2.2.2
  have far : ∀ c, c ≠ d + 8 → c ≠ d + 10 → c ≠ d + 12 → c ≠ d + 14 → s5 c = σ c := fun c h1 h2 h3 h4 => by rw [b5 c (by omega), b4 c (by omega), b3 c (by omega), k2 c h1]
  have e8 : s5 (d + 8) = s2 (d + 8) := by rw [b5 _ (by omega), b4 _ (by omega), b3 _ (by omega)]
  refine ⟨s5, ?_, fun c hc => far c (by omega) (by omega) (by omega) (by omega), G, O', ⟨?_, ?_, ?_⟩, ?_, ?_, ?_, ?_, ?_⟩
  · unfold fX4_clear
    rw [gl_e, gl_e, hs2, a3, Option.bind_some, a4, Option.bind_some, a5, Option.bind_some]
  · rw [far _ (by omega) (by omega) (by omega) (by omega)]
    exact z1
  · rw [e8]
    exact k3
  · rw [e8]
    exact k4
  · intro s hs
    rw [far _ (by omega) (by omega) (by omega) (by omega), rF_mid (by omega) (by omega)]
    exact y1 s hs
  · intro s o e hs ho he
    have q1 := og_lt o e
    have e1 : tP (rF f w' h' n) s o e = tP f s o e := by
      unfold tP
      rw [rF_mid (by omega) (by omega)]
    have e2 : tL (rF f w' h' n) s o e = tL f s o e := by
      unfold tL
      rw [rF_mid (by omega) (by omega), rF_mid (by omega) (by omega)]
    rw [far _ (by omega) (by omega) (by omega) (by omega), far (d + 7) (by omega) (by omega) (by omega) (by omega), e1, e2]
    exact y2 s o e hs ho he
  · intro s hs
    rw [b5 _ (by omega), b4 _ (by omega)]
    refine (c3 s hs).trans ?_
    by_cases c : s < n
    · rw [if_pos c, rF_p c n12]
    · rw [if_neg c]
  · intro s hs
    rw [b5 _ (by omega)]
    refine (c4 s hs).trans ?_
    by_cases c : s < n
    · rw [if_pos c, rF_o c]
    · rw [if_neg c]
  · intro k hk
    rw [sc_reset n12 hk]
    exact c5 k hk
theorem in6 (x : Int32) : inI x 1 6 = 0 ∨ ∃ w, 1 ≤ w ∧ w ≤ 6 ∧ x = nI w ∧ inI x 1 6 = 1 := by
  by_cases c : x < 1
  · exact Or.inl (if_pos c)
  · have c' : ¬ x.toInt < 1 := fun q => c (Int32.lt_iff_toInt_lt.mpr q)
    obtain ⟨j, hj, rfl⟩ := nI_of (x := x) (fun q => by have : x.toInt < 0 := Int32.lt_iff_toInt_lt.mp q; omega)
    rw [nI_toInt hj] at c'
    unfold inI
    rw [if_neg c]
    by_cases c2 : 6 < nI j
    · exact Or.inl (if_pos c2)
    · have : ¬ 6 < j := fun q => c2 (nI_lt (a := 6) q (by omega))
      exact Or.inr ⟨j, by omega, by omega, rfl, if_neg c2⟩
end
