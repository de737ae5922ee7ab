/-! THE RELATION, AND THE CALLS THAT ONLY READ -/
def RR (σ τ : gM) : Prop :=
  (∃ w h n, DDo σ 1 (τ 125) w h n) ∧
  (∃ k o, k ≤ 5 ∧ o < 5 ∧ σ 31 2 = nI k ∧ τ 124 2 = nI k ∧ σ 31 1 = nI o ∧ ∀ i, i < k → ∃ w h n, DDo σ (33 + 15 * ((o + i) % 5)) (fun j => τ 126 (135 * i + j)) w h n) ∧
  (∃ L, L ≤ 60 ∧ σ 111 2 = nI L ∧ τ 124 4 = nI L ∧ ∀ j, j < L → ∃ c, 32 ≤ c ∧ c ≤ 126 ∧ σ 113 j = nI c ∧ τ 127 j = nI c)
theorem RR.ref {σ τ τ' : gM} (R : RR σ τ) (e5 : τ' 125 = τ 125) (e6 : τ' 126 = τ 126) (e7 : τ' 127 = τ 127) (e2 : τ' 124 2 = τ 124 2) (e4 : τ' 124 4 = τ 124 4) : RR σ τ' := by
  unfold RR
  rw [e5, e6, e7, e2, e4]
  exact R
theorem RR.off {σ τ τ' : gM} (R : RR σ τ) (F : Off2 τ τ') : RR σ τ' :=
  R.ref (F 125 (by decide) (by decide)) (F 126 (by decide) (by decide)) (F 127 (by decide) (by decide)) (by rw [F 124 (by decide) (by decide)]) (by rw [F 124 (by decide) (by decide)])
theorem n01' : ¬ (-1001 : Int32) = 0 := by decide
theorem step_at : gs_at RR := by
  intro σ τ a1 R
  obtain ⟨w, h, n, D⟩ := R.1
  have O := D.2.1
  obtain ⟨w1, w6, h1, h6, n12⟩ := O.2.1
  have hwh := wh_le w6 h6
  unfold fX8_at fX9_at
  rw [ipl8 D, ipl9 O, Option.bind_some, Option.bind_some]
  rcases inN a1 (n := w * h) (by omega) with c | ⟨k, hk, rfl, c⟩
  · rw [c, if_pos rfl, if_pos rfl]
    exact ⟨_, rfl, rfl, R⟩
  · rw [c, if_neg n10, if_neg n10, show fX4_scrapAt σ (0 + 1 + 8) (nI k) = some (oI (sc (τ 125) n k)) from sca8s D (by omega), sca9 O.1.2.2 n12, Option.bind_some]
    cases hv : sc (τ 125) n k with
    | none => rw [if_pos oI_n]; exact ⟨_, rfl, rfl, R⟩
    | some v =>
      have := (sc_lt hv).1
      rw [oI_s, if_neg (m1_ne (by omega))]
      exact ⟨_, rfl, rfl, R⟩
theorem step_reason : gs_reason RR := by
  intro σ τ a1 a2 R
  obtain ⟨w, h, n, D⟩ := R.1
  have O := D.2.1
  obtain ⟨w1, w6, h1, h6, n12⟩ := O.2.1
  have hwh := wh_le w6 h6
  unfold fX8_reason fX9_reason
  rw [ipl8 D, ipl9 O, Option.bind_some, Option.bind_some]
  rcases inN a1 (n := w * h) (by omega) with c | ⟨k, hk, rfl, c⟩
  · rw [c, if_pos rfl, if_pos rfl]
    exact ⟨_, _, rfl, rfl, R⟩
  · rw [c, if_neg n10, if_neg n10, ied8, in9e, Option.bind_some, Option.bind_some]
    rcases inE a2 with c | ⟨e, he, rfl, c⟩
    · rw [c, if_pos rfl, if_pos rfl]
      exact ⟨_, _, rfl, rfl, R⟩
    · rw [c, if_neg n10, if_neg n10, show fX4_scrapAt σ (0 + 1 + 8) (nI k) = some (oI (sc (τ 125) n k)) from sca8s D (by omega), sca9 O.1.2.2 n12, Option.bind_some, Option.bind_some]
      cases hv : sc (τ 125) n k with
      | none => rw [if_pos oI_n, if_pos oI_n]; exact ⟨_, _, rfl, rfl, R⟩
      | some v =>
        have hvn := (sc_lt hv).1
        have hov := O.ov hvn
        obtain ⟨τ', p, F⟩ := rsn9 (τ := τ) (e := e) O hvn hk hov.1 he
        rw [oI_s, if_neg (m1_ne (by omega)), if_neg (m1_ne (by omega)), show fX4_orientationOf σ (0 + 1 + 8) (nI v) = _ from ori8 D hvn, Option.bind_some, show fX0_verdict σ (0 + 1) (nI v) (nI k) (nI (ovN (τ 125) v)) (nI e) = _ from ver8 D hvn hk hov.1 he, Option.bind_some, ix111, if_pos (c125 (by omega)), nI_cl (n := 111 + v) (by omega), show τ (124 + 1) (111 + v) = _ from hov.2, p, bp]
        by_cases c : rs (τ 125) w h n v k (ovN (τ 125) v) e = -1
        · rw [if_pos c, if_pos c]
          exact ⟨_, _, rfl, rfl, R.off F⟩
        · rw [if_neg c, if_neg c]
          exact ⟨_, _, rfl, rfl, R.off F⟩
theorem step_edge : gs_edge RR := by
  intro σ τ a1 a2 a3 a4 R
  obtain ⟨w, h, n, D⟩ := R.1
  have O := D.2.1
  obtain ⟨w1, w6, h1, h6, n12⟩ := O.2.1
  unfold fX8_edge fX9_edge
  rw [isc8 D, isc9 O, Option.bind_some, Option.bind_some]
  rcases inN a1 (n := n) (by omega) with c | ⟨s, hs, rfl, c⟩
  · rw [c, if_pos rfl, if_pos rfl]
    exact ⟨_, _, rfl, rfl, R⟩
  · rw [c, if_neg n10, if_neg n10, ior8, in9e, Option.bind_some, Option.bind_some]
    rcases inO a2 with c | ⟨o, ho, rfl, c⟩
    · rw [c, if_pos rfl, if_pos rfl]
      exact ⟨_, _, rfl, rfl, R⟩
    · rw [c, if_neg n10, if_neg n10, ied8, in9e, Option.bind_some, Option.bind_some]
      rcases inE a3 with c | ⟨e, he, rfl, c⟩
      · rw [c, if_pos rfl, if_pos rfl]
        exact ⟨_, _, rfl, rfl, R⟩
      · rw [c, if_neg n10, if_neg n10, in8e, in9e, Option.bind_some, Option.bind_some]
        rcases in1 a4 with c | ⟨q, hq, rfl, c⟩
        · rw [c, if_pos rfl, if_pos rfl]
          exact ⟨_, _, rfl, rfl, R⟩
        · rw [c, if_neg n10, if_neg n10]
          rcases (show q = 0 ∨ q = 1 by omega) with rfl | rfl
          · obtain ⟨τ', p, F, -⟩ := pro9 (τ := τ) O hs ho he
            rw [if_pos yl0, if_pos yl0, show fX6_profile σ (0 + 1 + 1) (nI s) (nI o) (nI e) = _ from pro8 D hs ho he, p, bp, Option.bind_some]
            exact ⟨_, _, rfl, rfl, R.off F⟩
          · obtain ⟨τ', p, F⟩ := lin9 (τ := τ) O hs ho he
            rw [if_neg (show ¬ nI 1 = 0 by decide), if_neg (show ¬ nI 1 = 0 by decide), show fX6_line σ (0 + 1 + 1) (nI s) (nI o) (nI e) = _ from lin8 D hs ho he, p, bp, Option.bind_some]
            exact ⟨_, _, rfl, rfl, R.off F⟩
