section
/-! WHICH SCRAPS ARE JOINED; BOTH SIDES OF A SEAM -/
theorem bh_sym {w h k e q : Nat} (w1 : 1 ≤ w) (hk : k < w * h) (he : e < 4) (hb : bh w h k e = some q) : bh w h q ((e + 2) % 4) = some k := by
  have hm : k % w < w := Nat.mod_lt _ w1
  have hd := Nat.div_add_mod k w
  rcases (show e = 0 ∨ e = 1 ∨ e = 2 ∨ e = 3 by omega) with rfl | rfl | rfl | rfl
  · rw [bh_0] at hb
    by_cases c : k < w
    · rw [if_pos c] at hb; cases hb
    · rw [if_neg c] at hb
      cases hb
      show bh w h (k - w) 2 = some k
      rw [bh_2, if_pos (by omega)]
      exact congrArg some (by omega)
  · rw [bh_1] at hb
    by_cases c : k % w + 1 < w
    · rw [if_pos c] at hb
      cases hb
      show bh w h (k + 1) 3 = some k
      have e1 : (k + 1) % w = k % w + 1 := by
        rw [show k + 1 = w * (k / w) + (k % w + 1) by omega, Nat.mul_add_mod, Nat.mod_eq_of_lt c]
      rw [bh_3, e1, if_neg (by omega)]
      exact congrArg some (by omega)
    · rw [if_neg c] at hb; cases hb
  · rw [bh_2] at hb
    by_cases c : k + w < w * h
    · rw [if_pos c] at hb
      cases hb
      show bh w h (k + w) 0 = some k
      rw [bh_0, if_neg (by omega)]
      exact congrArg some (by omega)
    · rw [if_neg c] at hb; cases hb
  · rw [bh_3] at hb
    by_cases c : k % w = 0
    · rw [if_pos c] at hb; cases hb
    · rw [if_neg c] at hb
      cases hb
      show bh w h (k - 1) 1 = some k
      have e1 : (k - 1) % w = k % w - 1 := by
        rw [show k - 1 = w * (k / w) + (k % w - 1) by omega, Nat.mul_add_mod, Nat.mod_eq_of_lt (by omega)]
      rw [bh_1, e1, if_pos (by omega)]
      exact congrArg some (by omega)
theorem vd_0 {f : Nat → Int32} {s o e v : Nat} : vd f s o e v = 0 ↔ (tP f s o e ≠ -1 ∧ tP f v (ovN f v) ((e + 2) % 4) ≠ -1 ∧ tP f s o e + tP f v (ovN f v) ((e + 2) % 4) = 999 ∧ tL f s o e = tL f v (ovN f v) ((e + 2) % 4)) := by
  unfold vd
  by_cases c1 : tP f s o e = -1
  · rw [if_pos c1]
    exact ⟨fun q => absurd q n10, fun q => absurd c1 q.1⟩
  · rw [if_neg c1]
    by_cases c2 : tP f v (ovN f v) ((e + 2) % 4) = -1
    · rw [if_pos c2]
      exact ⟨fun q => absurd q n10, fun q => absurd c2 q.2.1⟩
    · rw [if_neg c2]
      by_cases c3 : tP f s o e + tP f v (ovN f v) ((e + 2) % 4) = 999
      · rw [if_pos c3]
        by_cases c4 : tL f s o e = tL f v (ovN f v) ((e + 2) % 4)
        · rw [if_pos c4]
          exact ⟨fun _ => ⟨c1, c2, c3, c4⟩, fun _ => rfl⟩
        · rw [if_neg c4]
          exact ⟨fun q => absurd q n30, fun q => absurd q.2.2.2 c4⟩
      · rw [if_neg c3]
        exact ⟨fun q => absurd q n20, fun q => absurd q.2.2.1 c3⟩
theorem e22 {e : Nat} (he : e < 4) : ((e + 2) % 4 + 2) % 4 = e := by omega
theorem vd_sym {f : Nat → Int32} {s e v : Nat} (he : e < 4) (H : vd f s (ovN f s) e v = 0) : vd f v (ovN f v) ((e + 2) % 4) s = 0 := by
  obtain ⟨a, b, c, d⟩ := vd_0.mp H
  refine vd_0.mpr ?_
  rw [e22 he]
  exact ⟨b, a, by rw [Int32.add_comm]; exact c, d.symm⟩
/-- where a scrap lies -/
def pN (f : Nat → Int32) (s : Nat) : Nat := (f (123 + s)).toNatClampNeg
theorem OKf.pn {f : Nat → Int32} {w h n s : Nat} (O : OKf f w h n) (hs : s < n) : f (123 + s) = -1 ∨ (pN f s < w * h ∧ f (123 + s) = nI (pN f s)) := by
  obtain ⟨w1, w6, h1, h6, n12⟩ := O.2.1
  have hwh := wh_le w6 h6
  rcases O.pl hs with c | ⟨k, hk, c⟩
  · exact Or.inl c
  · have : pN f s = k := by unfold pN; rw [c, nI_cl (by omega)]
    rw [this]
    exact Or.inr ⟨hk, c⟩
theorem pN_e {f : Nat → Int32} {s k : Nat} (hk : k < 36) (c : f (123 + s) = nI k) : pN f s = k := by
  unfold pN
  rw [c, nI_cl (by omega)]
/-- the scrap joined over an edge -/
def jn (f : Nat → Int32) (w h n s e : Nat) : Option Nat := if f (123 + s) = -1 then none else if rs f w h n s (pN f s) (ovN f s) e = 0 then nb f w h n s (pN f s) e else none
theorem nb_in {f : Nat → Int32} {w h n s k e v : Nat} (H : nb f w h n s k e = some v) : ∃ q, bh w h k e = some q ∧ sc f n q = some v ∧ v ≠ s := by
  unfold nb at H
  cases hb : bh w h k e with
  | none => rw [hb] at H; cases H
  | some q =>
    rw [hb, scO_s] at H
    cases hc : sc f n q with
    | none => rw [hc] at H; cases H
    | some z =>
      rw [hc, nbQ_s] at H
      by_cases c : z = s
      · rw [if_pos c] at H; cases H
      · rw [if_neg c] at H
        cases H
        exact ⟨q, rfl, hc, c⟩
theorem nb_mk {f : Nat → Int32} {w h n s k e q v : Nat} (hb : bh w h k e = some q) (hc : sc f n q = some v) (c : v ≠ s) : nb f w h n s k e = some v := by
  unfold nb
  rw [hb, scO_s, hc, nbQ_s, if_neg c]
theorem rs_mk {f : Nat → Int32} {w h n s k o e q v : Nat} (hb : bh w h k e = some q) (hc : sc f n q = some v) (c : v ≠ s) : rs f w h n s k o e = vd f s o e v := by
  unfold rs
  rw [hb, rsP_s, hc, rsQ_s, if_neg c]
theorem jn_in {f : Nat → Int32} {w h n s e v : Nat} (H : jn f w h n s e = some v) : f (123 + s) ≠ -1 ∧ rs f w h n s (pN f s) (ovN f s) e = 0 ∧ nb f w h n s (pN f s) e = some v := by
  unfold jn at H
  by_cases c : f (123 + s) = -1
  · rw [if_pos c] at H; cases H
  · rw [if_neg c] at H
    by_cases c2 : rs f w h n s (pN f s) (ovN f s) e = 0
    · rw [if_pos c2] at H
      exact ⟨c, c2, H⟩
    · rw [if_neg c2] at H; cases H
/-- the other side of a seam -/
theorem nb_sym {f : Nat → Int32} {w h n s e v : Nat} (O : OKf f w h n) (hs : s < n) (he : e < 4) (c : f (123 + s) ≠ -1) (H : nb f w h n s (pN f s) e = some v) : v < n ∧ f (123 + v) ≠ -1 ∧ nb f w h n v (pN f v) ((e + 2) % 4) = some s ∧ rs f w h n s (pN f s) (ovN f s) e = vd f s (ovN f s) e v ∧ rs f w h n v (pN f v) (ovN f v) ((e + 2) % 4) = vd f v (ovN f v) ((e + 2) % 4) s := by
  obtain ⟨w1, w6, h1, h6, n12⟩ := O.2.1
  have hwh := wh_le w6 h6
  obtain ⟨q, hb, hc, hv⟩ := nb_in H
  rcases O.pn hs with c0 | ⟨hk, c0⟩
  · exact absurd c0 c
  · have hq := bh_lt w1 hk hb
    have h2 := sc_lt hc
    have hp : pN f v = q := pN_e (by omega) h2.2
    have hb' : bh w h (pN f v) ((e + 2) % 4) = some (pN f s) := by rw [hp]; exact bh_sym w1 hk he hb
    have hc' : sc f n (pN f s) = some s := sc_at O (by omega) hs c0
    refine ⟨h2.1, by rw [h2.2]; exact m1_ne (by omega), nb_mk hb' hc' (fun e => hv e.symm), rs_mk hb hc hv, rs_mk hb' hc' (fun e => hv e.symm)⟩
theorem jn_sym {f : Nat → Int32} {w h n s e v : Nat} (O : OKf f w h n) (hs : s < n) (he : e < 4) (H : jn f w h n s e = some v) : v < n ∧ jn f w h n v ((e + 2) % 4) = some s := by
  obtain ⟨c, c2, c3⟩ := jn_in H
  obtain ⟨a1, a2, a3, a4, a5⟩ := nb_sym O hs he c c3
  refine ⟨a1, ?_⟩
  rw [a4] at c2
  unfold jn
  rw [if_neg a2, a5, if_pos (vd_sym he c2), a3]
def Jn (f : Nat → Int32) (w h n s t : Nat) : Prop := s < n ∧ ∃ e, e < 4 ∧ jn f w h n s e = some t
theorem Jn.sym {f : Nat → Int32} {w h n s t : Nat} (O : OKf f w h n) (H : Jn f w h n s t) : Jn f w h n t s := by
  obtain ⟨hs, e, he, hj⟩ := H
  have := jn_sym O hs he hj
  exact ⟨this.1, (e + 2) % 4, by omega, this.2⟩
theorem Jn.lies {f : Nat → Int32} {w h n s t : Nat} (O : OKf f w h n) (H : Jn f w h n s t) : s < n ∧ t < n ∧ f (123 + s) ≠ -1 ∧ f (123 + t) ≠ -1 := by
  obtain ⟨e, he, hj⟩ := (Jn.sym O H).2
  obtain ⟨e', he', hj'⟩ := H.2
  exact ⟨H.1, (Jn.sym O H).1, (jn_in hj').1, (jn_in hj).1⟩
/-- two of the four edges are enough -/
theorem Jn.two {f : Nat → Int32} {w h n s t : Nat} (O : OKf f w h n) (H : Jn f w h n s t) : ∃ e, (e = 1 ∨ e = 2) ∧ ((s < n ∧ jn f w h n s e = some t) ∨ (t < n ∧ jn f w h n t e = some s)) := by
  obtain ⟨hs, e, he, hj⟩ := H
  rcases (show e = 0 ∨ e = 1 ∨ e = 2 ∨ e = 3 by omega) with rfl | rfl | rfl | rfl
  · have := jn_sym O hs he hj
    exact ⟨2, Or.inr rfl, Or.inr this⟩
  · exact ⟨1, Or.inl rfl, Or.inl ⟨hs, hj⟩⟩
  · exact ⟨2, Or.inr rfl, Or.inl ⟨hs, hj⟩⟩
  · have := jn_sym O hs he hj
    exact ⟨1, Or.inl rfl, Or.inr this⟩
theorem nop8 {σ : gM} {t w h n s e : Nat} {f : Nat → Int32} (D : DDo σ t f w h n) (hs : s < n) (he : e < 4) : fX0_neighbourOnPage σ t (nI s) (nI e) = some (if f (123 + s) = -1 then -1 else oI (nb f w h n s (pN f s) e)) := by
  obtain ⟨w1, w6, h1, h6, n12⟩ := D.2.1.2.1
  have hwh := wh_le w6 h6
  unfold fX0_neighbourOnPage
  rw [plc8 D hs, Option.bind_some]
  rcases D.2.1.pn hs with c | ⟨hk, c⟩
  · rw [if_pos c, if_pos c]
  · have c' : ¬ f (123 + s) = -1 := by rw [c]; exact m1_ne (by omega)
    rw [if_neg c', if_neg c']
    rw [show (fX0_neighbour σ t (nI s) (f (123 + s)) (nI e)) = fX0_neighbour σ t (nI s) (nI (pN f s)) (nI e) by rw [← c], nei8 D hs hk he, Option.bind_some]
theorem joi8 {σ : gM} {t w h n s e : Nat} {f : Nat → Int32} (D : DDo σ t f w h n) (hs : s < n) (he : e < 4) : fX0_isJoined σ t (nI s) (nI e) = some (if jn f w h n s e = none then 0 else 1) := by
  obtain ⟨w1, w6, h1, h6, n12⟩ := D.2.1.2.1
  have hwh := wh_le w6 h6
  unfold fX0_isJoined jn
  rw [plc8 D hs, Option.bind_some]
  rcases D.2.1.pn hs with c | ⟨hk, c⟩
  · rw [if_pos c, if_pos c, if_pos rfl]
  · have c' : ¬ f (123 + s) = -1 := by rw [c]; exact m1_ne (by omega)
    have hov := D.2.1.ov hs
    rw [if_neg c', if_neg c', show fX4_behind σ (t + 8) (f (123 + s)) (nI e) = some (oI (bh w h (pN f s) e)) by rw [c]; exact beh8d D (by omega) he, Option.bind_some]
    cases hb : bh w h (pN f s) e with
    | none =>
      have h0 : nb f w h n s (pN f s) e = none := by unfold nb; rw [hb]; rfl
      rw [if_pos oI_n, h0, ite_self, if_pos rfl]
    | some q =>
      have hq := bh_lt w1 hk hb
      rw [oI_s, if_neg (m1_ne (by omega)), ori8 D hs, Option.bind_some, show fX0_verdict σ t (nI s) (f (123 + s)) (nI (ovN f s)) (nI e) = some (rs f w h n s (pN f s) (ovN f s) e) by rw [c]; exact ver8 D hs hk hov.1 he, Option.bind_some]
      by_cases c2 : rs f w h n s (pN f s) (ovN f s) e = 0
      · have h0 : ¬ nb f w h n s (pN f s) e = none := by
          intro hn
          unfold nb at hn
          unfold rs at c2
          rw [hb, scO_s] at hn
          rw [hb, rsP_s] at c2
          cases hv : sc f n q with
          | none =>
            rw [hv, rsQ_n] at c2
            exact absurd c2 (by decide)
          | some v =>
            rw [hv, rsQ_s] at c2
            rw [hv, nbQ_s] at hn
            by_cases cv : v = s
            · rw [if_pos cv] at c2
              exact absurd c2 (by decide)
            · rw [if_neg cv] at hn
              cases hn
        rw [if_pos c2, if_pos c2, if_neg h0]
      · rw [if_neg c2, if_neg c2, if_pos rfl]
end

section
/-! WITHIN SO MANY STEPS -/
def rch (J : Nat → Nat → Prop) : Nat → Nat → Nat → Prop
  | 0, m, s => m = s
  | r + 1, m, s => rch J r m s ∨ ∃ u, rch J r m u ∧ J u s
theorem rch_0 {J : Nat → Nat → Prop} {m s : Nat} : rch J 0 m s = (m = s) := rfl
theorem rch_s {J : Nat → Nat → Prop} {r m s : Nat} : rch J (r + 1) m s = (rch J r m s ∨ ∃ u, rch J r m u ∧ J u s) := rfl
theorem rch_up {J : Nat → Nat → Prop} {r m s : Nat} (H : rch J r m s) : ∀ d, rch J (r + d) m s := by
  intro d
  induction d with
  | zero => exact H
  | succ d ih => exact Or.inl ih
theorem stab : ∀ (n : Nat) (P : Nat → Nat → Prop), (∀ r s, P r s → P (r + 1) s) → ∃ r, r ≤ n ∧ ∀ s, s < n → P (r + 1) s → P r s := by
  intro n
  induction n with
  | zero => exact fun P _ => ⟨0, Nat.le_refl _, fun s hs => absurd hs (by omega)⟩
  | succ n ih =>
    intro P mono
    have mup : ∀ d r s, P r s → P (r + d) s := by
      intro d
      induction d with
      | zero => exact fun r s h => h
      | succ d ihd => exact fun r s h => mono _ _ (ihd r s h)
    by_cases c : ∃ r0, P (r0 + 1) n ∧ ¬ P r0 n
    · obtain ⟨r0, c1, c2⟩ := c
      obtain ⟨r, hr, hq⟩ := ih (fun r s => if r ≤ r0 then P r s else P (r + 1) s) (fun r s h => by
        by_cases x1 : r + 1 ≤ r0
        · have h : P r s := by rw [if_pos (show r ≤ r0 by omega)] at h; exact h
          rw [if_pos x1]
          exact mono _ _ h
        · rw [if_neg x1]
          by_cases x2 : r ≤ r0
          · rw [if_pos x2] at h
            exact mono _ _ (mono _ _ h)
          · rw [if_neg x2] at h
            exact mono _ _ h)
      by_cases x1 : r < r0
      · refine ⟨r, by omega, fun s hs h => ?_⟩
        by_cases cs : s = n
        · subst cs
          have := mup (r0 - (r + 1)) (r + 1) s h
          rw [show r + 1 + (r0 - (r + 1)) = r0 by omega] at this
          exact absurd this c2
        · have := hq s (by omega)
          rw [if_pos (show r + 1 ≤ r0 by omega), if_pos (show r ≤ r0 by omega)] at this
          exact this h
      · refine ⟨r + 1, by omega, fun s hs h => ?_⟩
        by_cases cs : s = n
        · subst cs
          have := mup (r - r0) (r0 + 1) s c1
          rw [show r0 + 1 + (r - r0) = r + 1 by omega] at this
          exact this
        · have := hq s (by omega)
          rw [if_neg (show ¬ r + 1 ≤ r0 by omega)] at this
          have := this h
          by_cases x2 : r ≤ r0
          · rw [if_pos x2] at this
            exact mono _ _ this
          · rw [if_neg x2] at this
            exact this
    · obtain ⟨r, hr, hq⟩ := ih P mono
      refine ⟨r, by omega, fun s hs h => ?_⟩
      by_cases cs : s = n
      · subst cs
        exact Classical.byContradiction (fun q => c ⟨r, h, q⟩)
      · exact hq s (by omega) h
/-- n steps lead as far as any number -/
theorem rch_n {J : Nat → Nat → Prop} {n m : Nat} (hJ : ∀ u s, J u s → u < n ∧ s < n) (hm : m < n) : ∀ q s, rch J q m s → rch J n m s := by
  have lt : ∀ q s, rch J q m s → s < n := by
    intro q
    induction q with
    | zero => intro s h; rw [rch_0] at h; omega
    | succ q ih =>
      intro s h
      rcases h with h | ⟨u, -, h⟩
      · exact ih s h
      · exact (hJ u s h).2
  obtain ⟨r, hr, H⟩ := stab n (fun r s => rch J r m s) (fun r s h => Or.inl h)
  have all : ∀ q s, rch J q m s → rch J r m s := by
    intro q
    induction q with
    | zero =>
      intro s h
      have := rch_up h r
      rw [Nat.zero_add] at this
      exact this
    | succ q ih =>
      intro s h
      rcases h with h | ⟨u, h1, h2⟩
      · exact ih s h
      · exact H s (hJ u s h2).2 (Or.inr ⟨u, ih u h1, h2⟩)
  intro q s h
  have := rch_up (all q s h) (n - r)
  rw [show r + (n - r) = n by omega] at this
  exact this
/-! THE CLASS GATHERS ITS GROUPS -/
/-- a label that is at most m -/
def LE (σ : gM) (x m : Nat) : Prop := ∃ a, σ 110 x = nI a ∧ a < 1000 ∧ a ≤ m
/-- labels on the way -/
def BI (σ0 : gM) (f : Nat → Int32) (w h n : Nat) (σ : gM) : Prop :=
  (∀ c, c ≠ 108 → c ≠ 110 → σ c = σ0 c) ∧ σ 108 1 = nI n ∧ (∀ s, s < n → f (123 + s) = -1 → σ 110 s = -1) ∧
  ∀ s, s < n → f (123 + s) ≠ -1 → ∃ a q, σ 110 s = nI a ∧ a ≤ s ∧ a < n ∧ f (123 + a) ≠ -1 ∧ rch (Jn f w h n) q a s
theorem g110 : gln 110 = 12 := by decide
theorem BI.desk {σ0 σ : gM} {f : Nat → Int32} {w h n : Nat} (B : BI σ0 f w h n σ) (D : DDo σ0 1 f w h n) : DDo σ 1 f w h n := D.mv (fun c _ h2 => B.1 c (by omega) (by omega))
theorem lt_oI {a b : Nat} (ha : a < 1000) (hb : b < 1000) : (if nI b < nI a then nI b else nI a) = nI (if b < a then b else a) := by
  by_cases c : b < a
  · rw [if_pos c, if_pos (nI_lt c (by omega))]
  · rw [if_neg c, if_neg (nI_nlt (by omega) (by omega))]
theorem joiL {σ0 σ : gM} {f : Nat → Int32} {w h n s e : Nat} (D : DDo σ0 1 f w h n) (B : BI σ0 f w h n σ) (hs : s < n) (he : e < 4) : ∃ σ', fX2_join σ 108 1 (nI s) (nI e) = some σ' ∧ BI σ0 f w h n σ' ∧ (∀ x m, LE σ x m → LE σ' x m) ∧ ∀ t, jn f w h n s e = some t → ∀ m, (LE σ s m → LE σ' t m) ∧ (LE σ t m → LE σ' s m) := by
  have n12 := D.2.1.2.1.2.2.2.2
  have D' := B.desk D
  unfold fX2_join
  rw [joi8 D' hs he, Option.bind_some]
  cases hj : jn f w h n s e with
  | none =>
    rw [if_pos rfl, if_pos rfl]
    exact ⟨σ, rfl, B, fun x m h => h, fun t q => by cases q⟩
  | some t =>
    have J1 : Jn f w h n s t := ⟨hs, e, he, hj⟩
    obtain ⟨-, ht, ls, lt⟩ := J1.lies D.2.1
    have J2 := J1.sym D.2.1
    obtain ⟨-, -, hnb⟩ := jn_in hj
    have hne := (nb_lt hnb).2
    obtain ⟨a, qa, a1, a2, a3, a4, a5⟩ := B.2.2.2 s hs ls
    obtain ⟨b, qb, b1, b2, b3, b4, b5⟩ := B.2.2.2 t ht lt
    have key : ∀ c, (c = a ∨ c = b) → c < n ∧ f (123 + c) ≠ -1 ∧ (∃ q, rch (Jn f w h n) q c s) ∧ ∃ q, rch (Jn f w h n) q c t := by
      intro c hc
      rcases hc with rfl | rfl
      · exact ⟨a3, a4, ⟨qa, a5⟩, ⟨qa + 1, Or.inr ⟨s, a5, J1⟩⟩⟩
      · exact ⟨b3, b4, ⟨qb + 1, Or.inr ⟨t, b5, J2⟩⟩, ⟨qb, b5⟩⟩
    obtain ⟨c, hc, hca, hcb, hmin⟩ : ∃ c, (c = a ∨ c = b) ∧ c ≤ a ∧ c ≤ b ∧ (if b < a then b else a) = c := by
      by_cases x : b < a
      · exact ⟨b, Or.inr rfl, by omega, by omega, if_pos x⟩
      · exact ⟨a, Or.inl rfl, by omega, by omega, if_neg x⟩
    obtain ⟨c1, c2, c3, c4⟩ := key c hc
    refine ⟨gset σ 110 (upd (upd (σ 110) s (nI c)) t (nI c)), ?_, ⟨?_, ?_, ?_, ?_⟩, ?_, ?_⟩
    · rw [if_neg (show ¬ (some t : Option Nat) = none from fun q => by cases q), if_neg n10, nop8 D' hs he, Option.bind_some, if_neg ls, hnb, oI_s, get_in (show s < gln (108 + 1 + 1) by rw [show gln (108 + 1 + 1) = 12 from g110]; omega), Option.bind_some, get_in (show t < gln (108 + 1 + 1) by rw [show gln (108 + 1 + 1) = 12 from g110]; omega), Option.bind_some, gl_e, show σ (108 + 1 + 1) s = nI a from a1, show σ (108 + 1 + 1) t = nI b from b1, lt_oI (by omega) (by omega), hmin, set_in (show s < gln (108 + 1 + 1) by rw [show gln (108 + 1 + 1) = 12 from g110]; omega), Option.bind_some, set_in (show t < gln (108 + 1 + 1) by rw [show gln (108 + 1 + 1) = 12 from g110]; omega), Option.bind_some]
      refine congrArg some ?_
      show gset (gset σ 110 (upd (σ 110) s (nI c))) 110 (upd (gset σ 110 (upd (σ 110) s (nI c)) 110) t (nI c)) = _
      rw [gset_at, gset2]
    · intro x h1 h2
      rw [gset_ne h2, B.1 x h1 h2]
    · rw [gset_ne (by decide)]
      exact B.2.1
    · intro x hx hl
      have x1 : x ≠ s := fun q => ls (by rw [← q]; exact hl)
      have x2 : x ≠ t := fun q => lt (by rw [← q]; exact hl)
      rw [gset_at, pk_un x2, pk_un x1]
      exact B.2.2.1 x hx hl
    · intro x hx hl
      rw [gset_at]
      by_cases x2 : x = t
      · obtain ⟨q, hq⟩ := c4
        subst x2
        exact ⟨c, q, pk_us, by omega, c1, c2, hq⟩
      · rw [pk_un x2]
        by_cases x1 : x = s
        · obtain ⟨q, hq⟩ := c3
          subst x1
          exact ⟨c, q, pk_us, by omega, c1, c2, hq⟩
        · rw [pk_un x1]
          exact B.2.2.2 x hx hl
    · intro x m hx
      obtain ⟨z, z1, z3, z2⟩ := hx
      unfold LE
      rw [gset_at]
      by_cases x2 : x = t
      · subst x2
        rw [b1] at z1
        have := (nI_eq (show b < 2 ^ 31 by omega) (show z < 2 ^ 31 by omega)).mp z1
        exact ⟨c, pk_us, by omega, by omega⟩
      · rw [pk_un x2]
        by_cases x1 : x = s
        · subst x1
          rw [a1] at z1
          have := (nI_eq (show a < 2 ^ 31 by omega) (show z < 2 ^ 31 by omega)).mp z1
          exact ⟨c, pk_us, by omega, by omega⟩
        · rw [pk_un x1]
          exact ⟨z, z1, z3, z2⟩
    · intro t' ht' m
      cases ht'
      have us : gset σ 110 (upd (upd (σ 110) s (nI c)) t (nI c)) 110 s = nI c := by
        rw [gset_at, pk_un (fun q => hne q.symm), pk_us]
      have ut : gset σ 110 (upd (upd (σ 110) s (nI c)) t (nI c)) 110 t = nI c := by
        rw [gset_at, pk_us]
      refine ⟨fun hx => ?_, fun hx => ?_⟩
      · obtain ⟨z, z1, z3, z2⟩ := hx
        rw [a1] at z1
        have := (nI_eq (show a < 2 ^ 31 by omega) (show z < 2 ^ 31 by omega)).mp z1
        exact ⟨c, ut, by omega, by omega⟩
      · obtain ⟨z, z1, z3, z2⟩ := hx
        rw [b1] at z1
        have := (nI_eq (show b < 2 ^ 31 by omega) (show z < 2 ^ 31 by omega)).mp z1
        exact ⟨c, us, by omega, by omega⟩
end

section
/-! THE CLASS GATHERS: rounds -/
theorem rouL {σ0 : gM} {f : Nat → Int32} {w h n : Nat} (D : DDo σ0 1 f w h n) (K : gM → Int32 → Option gM) (x2 : Int32) : ∀ (d i m : Nat) (σ : gM), i + d = n → d < m → BI σ0 f w h n σ → ∃ σ', fX2_gather_63 K 108 1 m σ x2 (nI i) = K σ' (x2 + 1) ∧ BI σ0 f w h n σ' ∧ (∀ x m, LE σ x m → LE σ' x m) ∧ ∀ s, i ≤ s → s < n → ∀ e, (e = 1 ∨ e = 2) → ∀ t, jn f w h n s e = some t → ∀ m, (LE σ s m → LE σ' t m) ∧ (LE σ t m → LE σ' s m) := by
  have n12 := D.2.1.2.1.2.2.2.2
  intro d
  induction d with
  | zero =>
    intro i m σ hi hm B
    obtain ⟨m, rfl⟩ : ∃ q, m = q + 1 := ⟨m - 1, by omega⟩
    refine ⟨σ, ?_, B, fun _ _ h => h, fun s h1 h2 => by omega⟩
    rw [fX2_gather_63, B.2.1, if_pos (nI_le (by omega) (by omega)), gl_e]
  | succ d ih =>
    intro i m σ hi hm B
    obtain ⟨m, rfl⟩ : ∃ q, m = q + 1 := ⟨m - 1, by omega⟩
    obtain ⟨σ1, p1, B1, M1, J1⟩ := joiL (s := i) (e := 1) D B (by omega) (by decide)
    obtain ⟨σ2, p2, B2, M2, J2⟩ := joiL (s := i) (e := 2) D B1 (by omega) (by decide)
    obtain ⟨σ', p, B', M, H⟩ := ih (i + 1) m σ2 (by omega) (by omega) B2
    refine ⟨σ', ?_, B', fun x m h => M x m (M2 x m (M1 x m h)), ?_⟩
    · rw [fX2_gather_63, B.2.1, if_neg (nI_ge (by omega) (by omega)), show fX2_join σ 108 1 (nI i) 1 = _ from p1, Option.bind_some, show fX2_join σ1 108 1 (nI i) 2 = _ from p2, Option.bind_some, gl_e, nIa1]
      exact p
    · intro s h1 h2 e he t ht m
      by_cases cs : s = i
      · subst cs
        rcases he with rfl | rfl
        · exact ⟨fun q => M _ _ (M2 _ _ ((J1 t ht m).1 q)), fun q => M _ _ (M2 _ _ ((J1 t ht m).2 q))⟩
        · exact ⟨fun q => M _ _ ((J2 t ht m).1 (M1 _ _ q)), fun q => M _ _ ((J2 t ht m).2 (M1 _ _ q))⟩
      · have := H s (by omega) h2 e he t ht m
        exact ⟨fun q => this.1 (M2 _ _ (M1 _ _ q)), fun q => this.2 (M2 _ _ (M1 _ _ q))⟩
theorem roundsL {σ0 : gM} {f : Nat → Int32} {w h n : Nat} (D : DDo σ0 1 f w h n) : ∀ (d i m : Nat) (σ : gM), i + d = n → d < m → BI σ0 f w h n σ → (∀ a s, s < n → f (123 + s) ≠ -1 → rch (Jn f w h n) i a s → LE σ s a) → ∃ σ', fX2_gather_53 108 1 m σ (nI i) = some σ' ∧ BI σ0 f w h n σ' ∧ (∀ a s, s < n → f (123 + s) ≠ -1 → rch (Jn f w h n) n a s → LE σ' s a) := by
  have n12 := D.2.1.2.1.2.2.2.2
  intro d
  induction d with
  | zero =>
    intro i m σ hi hm B H
    obtain ⟨m, rfl⟩ : ∃ q, m = q + 1 := ⟨m - 1, by omega⟩
    obtain rfl : i = n := by omega
    refine ⟨σ, ?_, B, H⟩
    rw [fX2_gather_53, B.2.1, if_pos (Int32.le_refl _)]
  | succ d ih =>
    intro i m σ hi hm B H
    obtain ⟨m, rfl⟩ : ∃ q, m = q + 1 := ⟨m - 1, by omega⟩
    obtain ⟨σ1, p1, B1, M1, J1⟩ := rouL D (fun σ2 y2 => fX2_gather_53 108 1 m σ2 y2) (nI i) n 0 gF σ (by omega) (gF_lt (by omega)) B
    obtain ⟨σ', p, B', H'⟩ := ih (i + 1) m σ1 (by omega) (by omega) B1 (fun a s hs ls hr => by
      rcases hr with hr | ⟨u, hr, hj⟩
      · exact M1 _ _ (H a s hs ls hr)
      · obtain ⟨hu, -, lu, -⟩ := hj.lies D.2.1
        have hL := H a u hu lu hr
        obtain ⟨e, he, q⟩ := hj.two D.2.1
        rcases q with ⟨h1, h2⟩ | ⟨h1, h2⟩
        · exact (J1 u (Nat.zero_le _) h1 e he s h2 a).1 hL
        · exact (J1 s (Nat.zero_le _) h1 e he u h2 a).2 hL)
    refine ⟨σ', ?_, B', H'⟩
    rw [fX2_gather_53, B.2.1, if_neg (nI_ge (by omega) (by omega)), show fX2_gather_63 (fun σ2 y2 => fX2_gather_53 108 1 m σ2 y2) 108 1 gF σ (nI i) 0 = _ from p1, nIa1]
    exact p
theorem gatI {σ0 : gM} {f : Nat → Int32} {w h n : Nat} (D : DDo σ0 1 f w h n) : ∀ (d i m : Nat) (σ : gM), i + d = n → d < m → (∀ c, c ≠ 108 → c ≠ 110 → σ c = σ0 c) → σ 108 1 = nI n → (∀ s, s < i → σ 110 s = if f (123 + s) = -1 then -1 else nI s) → ∃ σ', fX2_gather_13 108 1 m σ (nI i) = fX2_gather_53 108 1 gF σ' 0 ∧ BI σ0 f w h n σ' := by
  have n12 := D.2.1.2.1.2.2.2.2
  intro d
  induction d with
  | zero =>
    intro i m σ hi hm A z H
    obtain ⟨m, rfl⟩ : ∃ q, m = q + 1 := ⟨m - 1, by omega⟩
    refine ⟨σ, ?_, A, z, fun s hs c => ?_, fun s hs c => ⟨s, 0, ?_, Nat.le_refl _, hs, c, rfl⟩⟩
    · rw [fX2_gather_13, z, if_pos (nI_le (by omega) (by omega))]
    · rw [H s (by omega), if_pos c]
    · rw [H s (by omega), if_neg c]
  | succ d ih =>
    intro i m σ hi hm A z H
    obtain ⟨m, rfl⟩ : ∃ q, m = q + 1 := ⟨m - 1, by omega⟩
    have D' : DDo σ 1 f w h n := D.mv (fun c _ h2 => A c (by omega) (by omega))
    obtain ⟨σ', p, B⟩ := ih (i + 1) m (gset σ 110 (upd (σ 110) i (if f (123 + i) = -1 then -1 else nI i))) (by omega) (by omega) (fun c h1 h2 => (gset_ne h2).trans (A c h1 h2)) (by rw [gset_ne (by decide)]; exact z) (fun s hs => by
      rw [gset_at]
      by_cases cs : s = i
      · subst cs
        rw [pk_us]
      · rw [pk_un cs]
        exact H s (by omega))
    refine ⟨σ', ?_, B⟩
    rw [fX2_gather_13, z, if_neg (nI_ge (by omega) (by omega)), lie8 D' (by omega), Option.bind_some]
    by_cases c : f (123 + i) = -1
    · rw [if_pos c] at p
      rw [if_pos c, if_pos rfl, set_in (show i < gln (108 + 1 + 1) by rw [show gln (108 + 1 + 1) = 12 from g110]; omega), Option.bind_some, gl_e, nIa1]
      exact p
    · rw [if_neg c] at p
      rw [if_neg c, if_neg n10, set_in (show i < gln (108 + 1 + 1) by rw [show gln (108 + 1 + 1) = 12 from g110]; omega), Option.bind_some, gl_e, nIa1]
      exact p
/-- what is gathered -/
def GI (f : Nat → Int32) (w h n : Nat) (L : Nat → Int32) : Prop :=
  (∀ s, s < n → f (123 + s) = -1 → L s = -1) ∧
  (∀ s, s < n → f (123 + s) ≠ -1 → ∃ a q, L s = nI a ∧ a ≤ s ∧ a < n ∧ f (123 + a) ≠ -1 ∧ rch (Jn f w h n) q a s ∧ L a = nI a) ∧
  ∀ s t, Jn f w h n s t → L s = L t
theorem gat8 {σ : gM} {f : Nat → Int32} {w h n : Nat} (D : DDo σ 1 f w h n) : ∃ σ', fX2_gather σ 108 1 = some σ' ∧ (∀ c, c ≠ 108 → c ≠ 110 → σ' c = σ c) ∧ σ' 108 1 = nI n ∧ GI f w h n (σ' 110) := by
  have n12 := D.2.1.2.1.2.2.2.2
  obtain ⟨σ1, p1, B1⟩ := gatI D n 0 gF (gset σ 108 (upd (σ 108) 1 (nI n))) (by omega) (gF_lt (by omega)) (fun c h1 h2 => gset_ne h1) (by rw [gset_at, pk_us]) (fun s hs => by omega)
  obtain ⟨σ2, p2, B2, H⟩ := roundsL D n 0 gF σ1 (by omega) (gF_lt (by omega)) B1 (fun a s hs ls hr => by
    rw [rch_0] at hr
    subst hr
    obtain ⟨b, q, b1, b2, b3, -⟩ := B1.2.2.2 a hs ls
    exact ⟨b, b1, by omega, b2⟩)
  have HJ : ∀ u s, Jn f w h n u s → u < n ∧ s < n := fun u s q => ⟨(q.lies D.2.1).1, (q.lies D.2.1).2.1⟩
  have half : ∀ s t, Jn f w h n s t → ∀ a b, σ2 110 s = nI a → a < n → σ2 110 t = nI b → b < n → b ≤ a := by
    intro s t hj a b ea ha eb hb
    obtain ⟨hs, ht, ls, lt⟩ := hj.lies D.2.1
    obtain ⟨a', q, a1, a2, a3, a4, a5⟩ := B2.2.2.2 s hs ls
    have : a = a' := (nI_eq (by omega) (by omega)).mp (ea.symm.trans a1)
    subst this
    obtain ⟨z, z1, z2, z3⟩ := H a t ht lt (rch_n HJ ha (q + 1) t (Or.inr ⟨s, a5, hj⟩))
    have : b = z := (nI_eq (by omega) (by omega)).mp (eb.symm.trans z1)
    omega
  have G3 : ∀ s t, Jn f w h n s t → σ2 110 s = σ2 110 t := by
    intro s t hj
    obtain ⟨hs, ht, ls, lt⟩ := hj.lies D.2.1
    obtain ⟨a, -, a1, -, a3, -⟩ := B2.2.2.2 s hs ls
    obtain ⟨b, -, b1, -, b3, -⟩ := B2.2.2.2 t ht lt
    have h1 := half s t hj a b a1 a3 b1 b3
    have h2 := half t s (hj.sym D.2.1) b a b1 b3 a1 a3
    rw [a1, b1, show a = b by omega]
  have path : ∀ q a s, rch (Jn f w h n) q a s → σ2 110 a = σ2 110 s := by
    intro q
    induction q with
    | zero => intro a s hr; rw [rch_0] at hr; rw [hr]
    | succ q ih =>
      intro a s hr
      rcases hr with hr | ⟨u, hr, hj⟩
      · exact ih a s hr
      · exact (ih a u hr).trans (G3 u s hj)
  refine ⟨σ2, ?_, B2.1, B2.2.1, B2.2.2.1, fun s hs ls => ?_, G3⟩
  · unfold fX2_gather
    rw [show fX6_size σ (1 + 1) = _ from siz8 D, Option.bind_some, gl_e]
    exact p1.trans p2
  · obtain ⟨a, q, a1, a2, a3, a4, a5⟩ := B2.2.2.2 s hs ls
    exact ⟨a, q, a1, a2, a3, a4, a5, (path q a s a5).trans a1⟩
/-- how many least members lie below -/
def gRt (L : Nat → Int32) (i a : Nat) : Nat := if L i = nI i then a + 1 else a
def nRt (L : Nat → Int32) (x : Nat) : Nat := up (gRt L) x 0 0
theorem up_end {g : Nat → Nat → Nat} : ∀ d i a, up g (d + 1) i a = g (i + d) (up g d i a) := by
  intro d
  induction d with
  | zero => intro i a; rfl
  | succ d ih =>
    intro i a
    rw [up_s, ih, up_s, show i + 1 + d = i + (d + 1) by omega]
theorem nRt_s (L : Nat → Int32) (x : Nat) : nRt L (x + 1) = gRt L x (nRt L x) := by
  unfold nRt
  rw [up_end, Nat.zero_add]
theorem nRt_le (L : Nat → Int32) (x : Nat) : nRt L x ≤ x := by
  have := up_le (g := gRt L) (fun i a => by unfold gRt; split <;> omega) x 0 0
  unfold nRt
  omega
theorem cbwL {σ : gM} {n x : Nat} (z : σ 108 1 = nI n) (n12 : n ≤ 12) (hx : x ≤ n) : ∀ (d i m a : Nat), i + d = x → d < m → fX2_countBelow_4 σ 108 (nI x) m (nI a) (nI i) = some (nI (up (gRt (σ 110)) d i a)) := by
  intro d
  induction d with
  | zero =>
    intro i m a hi hm
    obtain ⟨m, rfl⟩ : ∃ q, m = q + 1 := ⟨m - 1, by omega⟩
    rw [fX2_countBelow_4, if_pos (nI_le (by omega) (by omega)), up_0]
  | succ d ih =>
    intro i m a hi hm
    obtain ⟨m, rfl⟩ : ∃ q, m = q + 1 := ⟨m - 1, by omega⟩
    rw [fX2_countBelow_4, if_neg (nI_ge (by omega) (by omega)), z, if_neg (nI_ge (by omega) (by omega)), get_in (show i < gln (108 + 1 + 1) by rw [show gln (108 + 1 + 1) = 12 from g110]; omega), Option.bind_some, up_s, show gRt (σ 110) i a = if σ 110 i = nI i then a + 1 else a from rfl]
    by_cases c : σ 110 i = nI i
    · rw [if_pos (show σ (108 + 1 + 1) i = nI i from c), if_pos c, gl_e, gl_e, nIa1, nIa1]
      exact ih (i + 1) m (a + 1) (by omega) (by omega)
    · rw [if_neg (show ¬ σ (108 + 1 + 1) i = nI i from c), if_neg c, gl_e, nIa1]
      exact ih (i + 1) m a (by omega) (by omega)
theorem cbw {σ : gM} {n x : Nat} (z : σ 108 1 = nI n) (n12 : n ≤ 12) (hx : x ≤ n) : fX2_countBelow σ 108 (nI x) = some (nI (nRt (σ 110) x)) := cbwL z n12 hx x 0 gF 0 (by omega) (gF_lt (by omega))
end

section
/-! THE REFERENCE SPREADS A GROUP -/
/-- how many have no group -/
def cU (g : Nat → Int32) : Nat → Nat
  | 0 => 0
  | n + 1 => cU g n + if g n = -1 then 1 else 0
theorem cU_s {g : Nat → Int32} {n : Nat} : cU g (n + 1) = cU g n + if g n = -1 then 1 else 0 := rfl
theorem cU_le (g : Nat → Int32) : ∀ n, cU g n ≤ n := by
  intro n
  induction n with
  | zero => exact Nat.le_refl _
  | succ n ih => rw [cU_s]; split <;> omega
theorem cU_far {g : Nat → Int32} {v : Nat} {x : Int32} : ∀ n, n ≤ v → cU (upd g v x) n = cU g n := by
  intro n
  induction n with
  | zero => intro _; rfl
  | succ n ih => intro hn; rw [cU_s, cU_s, ih (by omega), pk_un (by omega)]
theorem cU_dn {g : Nat → Int32} {v : Nat} {x : Int32} (h1 : g v = -1) (h2 : x ≠ -1) : ∀ n, v < n → cU (upd g v x) n < cU g n := by
  intro n
  induction n with
  | zero => intro q; omega
  | succ n ih =>
    intro hn
    rw [cU_s, cU_s]
    by_cases c : v = n
    · subst c
      rw [cU_far v (Nat.le_refl _), pk_us, if_neg h2, if_pos h1]
      omega
    · have := ih (by omega)
      rw [pk_un (by omega)]
      omega
/-- what a part of the spreading does -/
def MG (L : Nat → Int32) (n : Nat) (τ : gM) (fl : Int32) (τ' : gM) (fl' : Int32) : Prop := (∀ x, τ 131 x ≠ -1 → τ' 131 x = τ 131 x) ∧ ((fl' = fl ∧ τ' 131 = τ 131) ∨ (fl' = 1 ∧ cU (τ' 131) n < cU (τ 131) n))
theorem MG.rf {L : Nat → Int32} {n : Nat} {τ τ' : gM} {fl : Int32} (e : τ' 131 = τ 131) : MG L n τ fl τ' fl := ⟨fun x _ => by rw [e], Or.inl ⟨rfl, e⟩⟩
theorem MG.tr {L : Nat → Int32} {n : Nat} {τ τ1 τ' : gM} {fl fl1 fl' : Int32} (A : MG L n τ fl τ1 fl1) (B : MG L n τ1 fl1 τ' fl') : MG L n τ fl τ' fl' := by
  refine ⟨fun x hx => ?_, ?_⟩
  · have := A.1 x hx
    rw [← this] at hx ⊢
    exact B.1 x hx
  · rcases A.2 with ⟨a1, a2⟩ | ⟨a1, a2⟩
    · rcases B.2 with ⟨b1, b2⟩ | ⟨b1, b2⟩
      · exact Or.inl ⟨b1.trans a1, b2.trans a2⟩
      · rw [a2] at b2
        exact Or.inr ⟨b1, b2⟩
    · rcases B.2 with ⟨b1, b2⟩ | ⟨b1, b2⟩
      · rw [← b2] at a2
        exact Or.inr ⟨b1.trans a1, a2⟩
      · exact Or.inr ⟨b1, by omega⟩
theorem MG.back {L : Nat → Int32} {n : Nat} {τ τ1 τ' : gM} {fl fl1 fl' : Int32} (A : MG L n τ fl τ1 fl1) (B : MG L n τ1 fl1 τ' fl') (e : τ' 131 = τ 131) : τ1 131 = τ 131 := by
  rcases A.2 with ⟨a1, a2⟩ | ⟨a1, a2⟩
  · exact a2
  · exfalso
    rcases B.2 with ⟨b1, b2⟩ | ⟨b1, b2⟩
    · rw [← e, b2] at a2
      omega
    · rw [← e] at a2
      omega
theorem nRt_lt {L : Nat → Int32} {r x : Nat} (h : r < x) (hr : L r = nI r) : nRt L r < nRt L x := by
  have h1 : nRt L (r + 1) = nRt L r + 1 := by
    rw [nRt_s]
    exact if_pos hr
  have mono : ∀ d, nRt L (r + 1) ≤ nRt L (r + 1 + d) := by
    intro d
    induction d with
    | zero => exact Nat.le_refl _
    | succ d ih =>
      refine Nat.le_trans ih ?_
      rw [← Nat.add_assoc, nRt_s]
      unfold gRt
      split <;> omega
  have := mono (x - (r + 1))
  rw [show r + 1 + (x - (r + 1)) = x by omega] at this
  omega
variable {τ0 : gM} {f : Nat → Int32} {w h n : Nat} {L : Nat → Int32}
end
