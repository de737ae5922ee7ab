/-! WHICH SCRAPS ARE JOINED; BOTH SIDES OF A SEAM -/
theorem bh_sym {w h k e q : Nat} (w1 : 1 ≤ w) (hk : k < w * h) (he : e < 4) (hb : bh w h k e = some q) : bh w h q ((e + 2) % 4) = some k := by
  have hm : k % w < w := Nat.mod_lt _ w1
  have hd := Nat.div_add_mod k w
  rcases (show e = 0 ∨ e = 1 ∨ e = 2 ∨ e = 3 by omega) with rfl | rfl | rfl | rfl
  · rw [bh_0] at hb
    by_cases c : k < w
    · rw [if_pos c] at hb; cases hb
    · rw [if_neg c] at hb
      cases hb
      show bh w h (k - w) 2 = some k
      rw [bh_2, if_pos (by omega)]
      exact congrArg some (by omega)
  · rw [bh_1] at hb
    by_cases c : k % w + 1 < w
    · rw [if_pos c] at hb
      cases hb
      show bh w h (k + 1) 3 = some k
      have e1 : (k + 1) % w = k % w + 1 := by
        rw [show k + 1 = w * (k / w) + (k % w + 1) by omega, Nat.mul_add_mod, Nat.mod_eq_of_lt c]
      rw [bh_3, e1, if_neg (by omega)]
      exact congrArg some (by omega)
    · rw [if_neg c] at hb; cases hb
  · rw [bh_2] at hb
    by_cases c : k + w < w * h
    · rw [if_pos c] at hb
      cases hb
      show bh w h (k + w) 0 = some k
      rw [bh_0, if_neg (by omega)]
      exact congrArg some (by omega)
    · rw [if_neg c] at hb; cases hb
  · rw [bh_3] at hb
    by_cases c : k % w = 0
    · rw [if_pos c] at hb; cases hb
    · rw [if_neg c] at hb
      cases hb
      show bh w h (k - 1) 1 = some k
      have e1 : (k - 1) % w = k % w - 1 := by
        rw [show k - 1 = w * (k / w) + (k % w - 1) by omega, Nat.mul_add_mod, Nat.mod_eq_of_lt (by omega)]
      rw [bh_1, e1, if_pos (by omega)]
      exact congrArg some (by omega)
theorem vd_0 {f : Nat → Int32} {s o e v : Nat} : vd f s o e v = 0 ↔ (tP f s o e ≠ -1 ∧ tP f v (ovN f v) ((e + 2) % 4) ≠ -1 ∧ tP f s o e + tP f v (ovN f v) ((e + 2) % 4) = 999 ∧ tL f s o e = tL f v (ovN f v) ((e + 2) % 4)) := by
  unfold vd
  by_cases c1 : tP f s o e = -1
  · rw [if_pos c1]
    exact ⟨fun q => absurd q n10, fun q => absurd c1 q.1⟩
  · rw [if_neg c1]
    by_cases c2 : tP f v (ovN f v) ((e + 2) % 4) = -1
    · rw [if_pos c2]
      exact ⟨fun q => absurd q n10, fun q => absurd c2 q.2.1⟩
    · rw [if_neg c2]
      by_cases c3 : tP f s o e + tP f v (ovN f v) ((e + 2) % 4) = 999
      · rw [if_pos c3]
        by_cases c4 : tL f s o e = tL f v (ovN f v) ((e + 2) % 4)
        · rw [if_pos c4]
          exact ⟨fun _ => ⟨c1, c2, c3, c4⟩, fun _ => rfl⟩
        · rw [if_neg c4]
          exact ⟨fun q => absurd q n30, fun q => absurd q.2.2.2 c4⟩
      · rw [if_neg c3]
        exact ⟨fun q => absurd q n20, fun q => absurd q.2.2.1 c3⟩
theorem e22 {e : Nat} (he : e < 4) : ((e + 2) % 4 + 2) % 4 = e := by omega
theorem vd_sym {f : Nat → Int32} {s e v : Nat} (he : e < 4) (H : vd f s (ovN f s) e v = 0) : vd f v (ovN f v) ((e + 2) % 4) s = 0 := by
  obtain ⟨a, b, c, d⟩ := vd_0.mp H
  refine vd_0.mpr ?_
  rw [e22 he]
  exact ⟨b, a, by rw [Int32.add_comm]; exact c, d.symm⟩
/-- where a scrap lies -/
def pN (f : Nat → Int32) (s : Nat) : Nat := (f (123 + s)).toNatClampNeg
theorem OKf.pn {f : Nat → Int32} {w h n s : Nat} (O : OKf f w h n) (hs : s < n) : f (123 + s) = -1 ∨ (pN f s < w * h ∧ f (123 + s) = nI (pN f s)) := by
  obtain ⟨w1, w6, h1, h6, n12⟩ := O.2.1
  have hwh := wh_le w6 h6
  rcases O.pl hs with c | ⟨k, hk, c⟩
  · exact Or.inl c
  · have : pN f s = k := by unfold pN; rw [c, nI_cl (by omega)]
    rw [this]
    exact Or.inr ⟨hk, c⟩
theorem pN_e {f : Nat → Int32} {s k : Nat} (hk : k < 36) (c : f (123 + s) = nI k) : pN f s = k := by
  unfold pN
  rw [c, nI_cl (by omega)]
/-- the scrap joined over an edge -/
def jn (f : Nat → Int32) (w h n s e : Nat) : Option Nat := if f (123 + s) = -1 then none else if rs f w h n s (pN f s) (ovN f s) e = 0 then nb f w h n s (pN f s) e else none
theorem nb_in {f : Nat → Int32} {w h n s k e v : Nat} (H : nb f w h n s k e = some v) : ∃ q, bh w h k e = some q ∧ sc f n q = some v ∧ v ≠ s := by
  unfold nb at H
  cases hb : bh w h k e with
  | none => rw [hb] at H; cases H
  | some q =>
    rw [hb, scO_s] at H
    cases hc : sc f n q with
    | none => rw [hc] at H; cases H
    | some z =>
      rw [hc, nbQ_s] at H
      by_cases c : z = s
      · rw [if_pos c] at H; cases H
      · rw [if_neg c] at H
        cases H
        exact ⟨q, rfl, hc, c⟩
theorem nb_mk {f : Nat → Int32} {w h n s k e q v : Nat} (hb : bh w h k e = some q) (hc : sc f n q = some v) (c : v ≠ s) : nb f w h n s k e = some v := by
  unfold nb
  rw [hb, scO_s, hc, nbQ_s, if_neg c]
theorem rs_mk {f : Nat → Int32} {w h n s k o e q v : Nat} (hb : bh w h k e = some q) (hc : sc f n q = some v) (c : v ≠ s) : rs f w h n s k o e = vd f s o e v := by
  unfold rs
  rw [hb, rsP_s, hc, rsQ_s, if_neg c]
theorem jn_in {f : Nat → Int32} {w h n s e v : Nat} (H : jn f w h n s e = some v) : f (123 + s) ≠ -1 ∧ rs f w h n s (pN f s) (ovN f s) e = 0 ∧ nb f w h n s (pN f s) e = some v := by
  unfold jn at H
  by_cases c : f (123 + s) = -1
  · rw [if_pos c] at H; cases H
  · rw [if_neg c] at H
    by_cases c2 : rs f w h n s (pN f s) (ovN f s) e = 0
    · rw [if_pos c2] at H
      exact ⟨c, c2, H⟩
    · rw [if_neg c2] at H; cases H
/-- the other side of a seam -/
theorem nb_sym {f : Nat → Int32} {w h n s e v : Nat} (O : OKf f w h n) (hs : s < n) (he : e < 4) (c : f (123 + s) ≠ -1) (H : nb f w h n s (pN f s) e = some v) : v < n ∧ f (123 + v) ≠ -1 ∧ nb f w h n v (pN f v) ((e + 2) % 4) = some s ∧ rs f w h n s (pN f s) (ovN f s) e = vd f s (ovN f s) e v ∧ rs f w h n v (pN f v) (ovN f v) ((e + 2) % 4) = vd f v (ovN f v) ((e + 2) % 4) s := by
  obtain ⟨w1, w6, h1, h6, n12⟩ := O.2.1
  have hwh := wh_le w6 h6
  obtain ⟨q, hb, hc, hv⟩ := nb_in H
  rcases O.pn hs with c0 | ⟨hk, c0⟩
  · exact absurd c0 c
  · have hq := bh_lt w1 hk hb
    have h2 := sc_lt hc
    have hp : pN f v = q := pN_e (by omega) h2.2
    have hb' : bh w h (pN f v) ((e + 2) % 4) = some (pN f s) := by rw [hp]; exact bh_sym w1 hk he hb
    have hc' : sc f n (pN f s) = some s := sc_at O (by omega) hs c0
    refine ⟨h2.1, by rw [h2.2]; exact m1_ne (by omega), nb_mk hb' hc' (fun e => hv e.symm), rs_mk hb hc hv, rs_mk hb' hc' (fun e => hv e.symm)⟩
theorem jn_sym {f : Nat → Int32} {w h n s e v : Nat} (O : OKf f w h n) (hs : s < n) (he : e < 4) (H : jn f w h n s e = some v) : v < n ∧ jn f w h n v ((e + 2) % 4) = some s := by
  obtain ⟨c, c2, c3⟩ := jn_in H
  obtain ⟨a1, a2, a3, a4, a5⟩ := nb_sym O hs he c c3
  refine ⟨a1, ?_⟩
  rw [a4] at c2
  unfold jn
  rw [if_neg a2, a5, if_pos (vd_sym he c2), a3]
def Jn (f : Nat → Int32) (w h n s t : Nat) : Prop := s < n ∧ ∃ e, e < 4 ∧ jn f w h n s e = some t
theorem Jn.sym {f : Nat → Int32} {w h n s t : Nat} (O : OKf f w h n) (H : Jn f w h n s t) : Jn f w h n t s := by
  obtain ⟨hs, e, he, hj⟩ := H
  have := jn_sym O hs he hj
  exact ⟨this.1, (e + 2) % 4, by omega, this.2⟩
theorem Jn.lies {f : Nat → Int32} {w h n s t : Nat} (O : OKf f w h n) (H : Jn f w h n s t) : s < n ∧ t < n ∧ f (123 + s) ≠ -1 ∧ f (123 + t) ≠ -1 := by
  obtain ⟨e, he, hj⟩ := (Jn.sym O H).2
  obtain ⟨e', he', hj'⟩ := H.2
  exact ⟨H.1, (Jn.sym O H).1, (jn_in hj').1, (jn_in hj).1⟩
/-- two of the four edges are enough -/
theorem Jn.two {f : Nat → Int32} {w h n s t : Nat} (O : OKf f w h n) (H : Jn f w h n s t) : ∃ e, (e = 1 ∨ e = 2) ∧ ((s < n ∧ jn f w h n s e = some t) ∨ (t < n ∧ jn f w h n t e = some s)) := by
  obtain ⟨hs, e, he, hj⟩ := H
  rcases (show e = 0 ∨ e = 1 ∨ e = 2 ∨ e = 3 by omega) with rfl | rfl | rfl | rfl
  · have := jn_sym O hs he hj
    exact ⟨2, Or.inr rfl, Or.inr this⟩
  · exact ⟨1, Or.inl rfl, Or.inl ⟨hs, hj⟩⟩
  · exact ⟨2, Or.inr rfl, Or.inl ⟨hs, hj⟩⟩
  · have := jn_sym O hs he hj
    exact ⟨1, Or.inl rfl, Or.inr this⟩
theorem nop8 {σ : gM} {t w h n s e : Nat} {f : Nat → Int32} (D : DDo σ t f w h n) (hs : s < n) (he : e < 4) : fX0_neighbourOnPage σ t (nI s) (nI e) = some (if f (123 + s) = -1 then -1 else oI (nb f w h n s (pN f s) e)) := by
  obtain ⟨w1, w6, h1, h6, n12⟩ := D.2.1.2.1
  have hwh := wh_le w6 h6
  unfold fX0_neighbourOnPage
  rw [plc8 D hs, Option.bind_some]
  rcases D.2.1.pn hs with c | ⟨hk, c⟩
  · rw [if_pos c, if_pos c]
  · have c' : ¬ f (123 + s) = -1 := by rw [c]; exact m1_ne (by omega)
    rw [if_neg c', if_neg c']
    rw [show (fX0_neighbour σ t (nI s) (f (123 + s)) (nI e)) = fX0_neighbour σ t (nI s) (nI (pN f s)) (nI e) by rw [← c], nei8 D hs hk he, Option.bind_some]
theorem joi8 {σ : gM} {t w h n s e : Nat} {f : Nat → Int32} (D : DDo σ t f w h n) (hs : s < n) (he : e < 4) : fX0_isJoined σ t (nI s) (nI e) = some (if jn f w h n s e = none then 0 else 1) := by
  obtain ⟨w1, w6, h1, h6, n12⟩ := D.2.1.2.1
  have hwh := wh_le w6 h6
  unfold fX0_isJoined jn
  rw [plc8 D hs, Option.bind_some]
  rcases D.2.1.pn hs with c | ⟨hk, c⟩
  · rw [if_pos c, if_pos c, if_pos rfl]
  · have c' : ¬ f (123 + s) = -1 := by rw [c]; exact m1_ne (by omega)
    have hov := D.2.1.ov hs
    rw [if_neg c', if_neg c', show fX4_behind σ (t + 8) (f (123 + s)) (nI e) = some (oI (bh w h (pN f s) e)) by rw [c]; exact beh8d D (by omega) he, Option.bind_some]
    cases hb : bh w h (pN f s) e with
    | none =>
      have h0 : nb f w h n s (pN f s) e = none := by unfold nb; rw [hb]; rfl
      rw [if_pos oI_n, h0, ite_self, if_pos rfl]
    | some q =>
      have hq := bh_lt w1 hk hb
      rw [oI_s, if_neg (m1_ne (by omega)), ori8 D hs, Option.bind_some, show fX0_verdict σ t (nI s) (f (123 + s)) (nI (ovN f s)) (nI e) = some (rs f w h n s (pN f s) (ovN f s) e) by rw [c]; exact ver8 D hs hk hov.1 he, Option.bind_some]
      by_cases c2 : rs f w h n s (pN f s) (ovN f s) e = 0
      · have h0 : ¬ nb f w h n s (pN f s) e = none := by
          intro hn
          unfold nb at hn
          unfold rs at c2
          rw [hb, scO_s] at hn
          rw [hb, rsP_s] at c2
          cases hv : sc f n q with
          | none =>
            rw [hv, rsQ_n] at c2
            exact absurd c2 (by decide)
          | some v =>
            rw [hv, rsQ_s] at c2
            rw [hv, nbQ_s] at hn
            by_cases cv : v = s
            · rw [if_pos cv] at c2
              exact absurd c2 (by decide)
            · rw [if_neg cv] at hn
              cases hn
        rw [if_pos c2, if_pos c2, if_neg h0]
      · rw [if_neg c2, if_neg c2, if_pos rfl]
