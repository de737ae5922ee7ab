/-! LAY, FORCE, LIFT, TURN -/
def frO : Option Nat → Int32
  | none => 1
  | some _ => 0
theorem frO_n : frO none = 1 := rfl
theorem frO_s {v : Nat} : frO (some v) = 0 := rfl
theorem fre8 {σ : gM} {w h n s k : Nat} {f : Nat → Int32} (D : DDo σ 1 f w h n) (hs : s < n) (hk : k < w * h) : fX8_isFree σ 0 (nI s) (nI k) = some (if f (123 + s) = -1 then frO (sc f n k) else 0) := by
  obtain ⟨w1, w6, h1, h6, n12⟩ := D.2.1.2.1
  have hwh := wh_le w6 h6
  unfold fX8_isFree
  rw [show fX4_lies σ (0 + 1 + 8) (nI s) = _ from lie8 D hs, Option.bind_some]
  by_cases c : f (123 + s) = -1
  · rw [if_pos c, if_pos c, if_pos rfl, show fX4_scrapAt σ (0 + 1 + 8) (nI k) = _ from sca8s D (by omega), Option.bind_some]
    cases hv : sc f n k with
    | none => rw [if_pos oI_n, frO_n]
    | some v =>
      have := (sc_lt hv).1
      rw [oI_s, if_neg (m1_ne (by omega)), frO_s]
  · rw [if_neg c, if_neg n10, if_neg c]
theorem upd_at {σ : gM} {a : Nat} {v : Nat → Int32} : gset σ a v a = v := gset_at
/-- where a scrap lies, told as a number -/
theorem OKf.pl {f : Nat → Int32} {w h n s : Nat} (O : OKf f w h n) (hs : s < n) : f (123 + s) = -1 ∨ ∃ k, k < w * h ∧ f (123 + s) = nI k := by
  obtain ⟨p, h1, h2⟩ := O.2.2.2.2.1 s hs
  cases p with
  | none => exact Or.inl h1
  | some k => exact Or.inr ⟨k, h2 k rfl, h1⟩
theorem ovN_put {f : Nat → Int32} {s o : Nat} {p : Int32} (ho : o < 8) : ovN (pF f s p (nI o)) s = o := by
  unfold ovN
  rw [pF_o, nI_cl (by omega)]
theorem isl9 {τ : gM} {w h n : Nat} {a1 a2 a3 : Int32} (O : OKf (τ 125) w h n) : fX9_isLaying τ 124 a1 a2 a3 = some (if inI a1 0 (nI n - 1) = 0 then 0 else if inI a2 0 (nI (w * h) - 1) = 0 then 0 else if inI a3 0 7 = 0 then 0 else 1) := by
  unfold fX9_isLaying
  rw [isc9 O, Option.bind_some]
  by_cases c1 : inI a1 0 (nI n - 1) = 0
  · rw [if_pos c1, if_pos c1]
  · rw [if_neg c1, if_neg c1, ipl9 O, Option.bind_some]
    by_cases c2 : inI a2 0 (nI (w * h) - 1) = 0
    · rw [if_pos c2, if_pos c2]
    · rw [if_neg c2, if_neg c2, in9e, Option.bind_some]
      by_cases c3 : inI a3 0 7 = 0
      · rw [if_pos c3, if_pos c3]
      · rw [if_neg c3, if_neg c3]
/-- the end of a laying: both have kept the state, both put the scrap -/
theorem put_both {σ τ σ1 τ1 : gM} {w h n s k o : Nat} (R : RR σ τ) (K : KK σ τ σ1 τ1) (D : DDo σ 1 (τ 125) w h n) (hs : s < n) (hk : k < w * h) (ho : o < 8) (hf : ∀ t, t < n → τ 125 (123 + t) = nI k → t = s) (h1 : τ 125 (123 + s) = -1 ∨ τ 125 (123 + s) = nI k) : ∃ σ2, fX4_put σ1 9 (nI s) (nI k) (nI o) = some σ2 ∧ fX9_puts τ1 124 (nI s) (nI k) (nI o) = some (gset τ1 125 (pF (τ 125) s (nI k) (nI o))) ∧ DDo σ2 1 (pF (τ 125) s (nI k) (nI o)) w h n ∧ ∀ τ2 : gM, Off2 (gset τ1 125 (pF (τ 125) s (nI k) (nI o))) τ2 → RR σ2 τ2 := by
  have n12 := D.2.1.2.1.2.2.2.2
  obtain ⟨e5, D1⟩ := K.desk
  have D1 := D1 D
  rw [e5] at D1
  obtain ⟨σ2, p, a, D2⟩ := put8 D1 hs hk ho hf h1
  refine ⟨σ2, p, ?_, D2, fun τ2 F => ?_⟩
  · rw [put9 (by omega), e5]
  · refine R.new K (w := w) (h := h) (n := n) (fun c hc => a c (by omega) (by omega) (by omega)) (fun c hc => ?_) ?_
    · rw [F c (by omega) (by omega), gset_ne (by omega)]
    · rw [F 125 (by decide) (by decide), gset_at]
      exact D2
theorem step_lay : gs_lay RR := by
  intro σ τ a1 a2 a3 R
  obtain ⟨w, h, n, D⟩ := R.1
  have O := D.2.1
  obtain ⟨w1, w6, h1, h6, n12⟩ := O.2.1
  have hwh := wh_le w6 h6
  unfold fX8_lay fX9_lay
  rw [isc8 D, isl9 O, Option.bind_some, Option.bind_some]
  rcases inN a1 (n := n) (by omega) with c | ⟨s, hs, rfl, c⟩
  · rw [c, if_pos rfl, if_pos rfl, if_pos rfl]
    exact ⟨_, _, _, rfl, rfl, R⟩
  · rw [c, if_neg n10, if_neg n10, ipl8 D, Option.bind_some]
    rcases inN a2 (n := w * h) (by omega) with c | ⟨k, hk, rfl, c⟩
    · rw [c, if_pos rfl, if_pos rfl, if_pos rfl]
      exact ⟨_, _, _, rfl, rfl, R⟩
    · rw [c, if_neg n10, if_neg n10, ior8, Option.bind_some]
      rcases inO a3 with c | ⟨o, ho, rfl, c⟩
      · rw [c, if_pos rfl, if_pos rfl, if_pos rfl]
        exact ⟨_, _, _, rfl, rfl, R⟩
      · rw [c, if_neg n10, if_neg n10, if_neg n10, fre8 D hs hk, Option.bind_some, on9 O hs, Option.bind_some]
        by_cases c1 : τ 125 (123 + s) = -1
        · rw [if_pos c1, if_pos c1, if_pos (show (0 : Int32) = 0 from rfl), sca9 O.1.2.2 n12, Option.bind_some]
          cases hv : sc (τ 125) n k with
          | some v =>
            have := (sc_lt hv).1
            rw [frO_s, if_pos rfl, oI_s, if_neg (m1_ne (by omega))]
            exact ⟨_, _, _, rfl, rfl, R⟩
          | none =>
            obtain ⟨τ0, p0, F0⟩ := cli9 (τ := τ) O hs hk ho
            have e0 : τ0 125 = τ 125 := F0 125 (by decide) (by decide)
            have R0 := R.off F0
            rw [frO_n, if_neg n10, if_pos oI_n, p0, bp, show fX0_canLie σ (0 + 1) (nI s) (nI k) (nI o) = _ from clie8 D hs hk ho, Option.bind_some]
            by_cases c2 : nFlt (τ 125) w h n s k o = 0
            · obtain ⟨σ1, τ1, q8, q9, K⟩ := R0.kept
              have D0 : DDo σ 1 (τ0 125) w h n := by rw [e0]; exact D
              obtain ⟨σ2, p8, p9, D2, N⟩ := put_both R0 K D0 hs hk ho (fun t ht hq => absurd hq (by rw [e0]; exact sc_none hv ht)) (Or.inl (by rw [e0]; exact c1))
              rw [if_pos c2, if_neg n10, if_neg n10, q9, Option.bind_some, p9, Option.bind_some, show fX3_keep σ (0 + 31) (0 + 1) = _ from q8, Option.bind_some, show fX4_put σ1 (0 + 1 + 8) (nI s) (nI k) (nI o) = _ from p8, Option.bind_some, show fX0_seamsAt σ2 (0 + 1) (nI s) (nI k) = _ from sea8 D2 hs hk, Option.bind_some]
              rw [sea9 (w := w) (h := h) (n := n) (by rw [gset_at]; exact D2.2.1) hs hk, Option.bind_some, gset_at]
              exact ⟨_, _, _, rfl, rfl, N _ Off2.rf⟩
            · rw [if_neg c2, if_pos rfl, if_pos rfl]
              exact ⟨_, _, _, rfl, rfl, R0⟩
        · rw [if_neg c1, if_neg c1, if_pos rfl, if_neg n10]
          exact ⟨_, _, _, rfl, rfl, R⟩
theorem step_force : gs_force RR := by
  intro σ τ a1 a2 a3 R
  obtain ⟨w, h, n, D⟩ := R.1
  have O := D.2.1
  obtain ⟨w1, w6, h1, h6, n12⟩ := O.2.1
  have hwh := wh_le w6 h6
  unfold fX8_force fX9_force
  rw [isc8 D, isl9 O, Option.bind_some, Option.bind_some]
  rcases inN a1 (n := n) (by omega) with c | ⟨s, hs, rfl, c⟩
  · rw [c, if_pos rfl, if_pos rfl, if_pos rfl]
    exact ⟨_, _, _, rfl, rfl, R⟩
  · rw [c, if_neg n10, if_neg n10, ipl8 D, Option.bind_some]
    rcases inN a2 (n := w * h) (by omega) with c | ⟨k, hk, rfl, c⟩
    · rw [c, if_pos rfl, if_pos rfl, if_pos rfl]
      exact ⟨_, _, _, rfl, rfl, R⟩
    · rw [c, if_neg n10, if_neg n10, ior8, Option.bind_some]
      rcases inO a3 with c | ⟨o, ho, rfl, c⟩
      · rw [c, if_pos rfl, if_pos rfl, if_pos rfl]
        exact ⟨_, _, _, rfl, rfl, R⟩
      · rw [c, if_neg n10, if_neg n10, if_neg n10, fre8 D hs hk, Option.bind_some, on9 O hs, Option.bind_some]
        by_cases c1 : τ 125 (123 + s) = -1
        · rw [if_pos c1, if_pos c1, if_pos (show (0 : Int32) = 0 from rfl), sca9 O.1.2.2 n12, Option.bind_some]
          cases hv : sc (τ 125) n k with
          | some v =>
            have := (sc_lt hv).1
            rw [frO_s, if_pos rfl, oI_s, if_neg (m1_ne (by omega))]
            exact ⟨_, _, _, rfl, rfl, R⟩
          | none =>
            obtain ⟨σ1, τ1, q8, q9, K⟩ := R.kept
            obtain ⟨σ2, p8, p9, D2, N⟩ := put_both R K D hs hk ho (fun t ht hq => absurd hq (sc_none hv ht)) (Or.inl c1)
            have O2 : OKf ((gset τ1 125 (pF (τ 125) s (nI k) (nI o))) 125) w h n := by rw [gset_at]; exact D2.2.1
            obtain ⟨τ2, p2, F2⟩ := flt9 O2 hs hk ho
            rw [gset_at] at p2
            rw [frO_n, if_neg n10, if_pos oI_n, q9, Option.bind_some, p9, Option.bind_some, p2, bp, show fX3_keep σ (0 + 31) (0 + 1) = _ from q8, Option.bind_some, show fX4_put σ1 (0 + 1 + 8) (nI s) (nI k) (nI o) = _ from p8, Option.bind_some, show fX0_countFaults σ2 (0 + 1) (nI s) = _ from cfl8 D2 hs hk pF_p, Option.bind_some, ovN_put ho]
            exact ⟨_, _, _, rfl, rfl, N _ F2⟩
        · rw [if_neg c1, if_neg c1, if_pos rfl, if_neg n10]
          exact ⟨_, _, _, rfl, rfl, R⟩
theorem step_lift : gs_lift RR := by
  intro σ τ a1 R
  obtain ⟨w, h, n, D⟩ := R.1
  have O := D.2.1
  obtain ⟨w1, w6, h1, h6, n12⟩ := O.2.1
  have hwh := wh_le w6 h6
  unfold fX8_lift fX9_lift
  rw [isc8 D, isc9 O, Option.bind_some, Option.bind_some]
  rcases inN a1 (n := n) (by omega) with c | ⟨s, hs, rfl, c⟩
  · rw [c, if_pos rfl, if_pos rfl]
    exact ⟨_, _, _, rfl, rfl, R⟩
  · rw [c, if_neg n10, if_neg n10, show fX4_lies σ (0 + 1 + 8) (nI s) = _ from lie8 D hs, Option.bind_some, on9 O hs, Option.bind_some]
    rcases O.pl hs with c1 | ⟨k, hk, c1⟩
    · rw [if_pos c1, if_pos rfl, if_pos rfl]
      exact ⟨_, _, _, rfl, rfl, R⟩
    · obtain ⟨σ1, τ1, q8, q9, K⟩ := R.kept
      obtain ⟨e5, D1⟩ := K.desk
      have D1 := D1 D
      rw [e5] at D1
      obtain ⟨σ2, p8, a8, D2⟩ := tak8 D1 hs hk c1
      have c0 : ¬ τ 125 (123 + s) = -1 := by rw [c1]; exact m1_ne (by omega)
      rw [if_neg c0, if_neg n10, if_neg n10, q9, Option.bind_some, ix123, if_pos (c125 (by omega)), gl_e, nI_cl (n := 123 + s) (by omega), put9 (by omega), Option.bind_some, show fX3_keep σ (0 + 31) (0 + 1) = _ from q8, Option.bind_some, show fX4_placeOf σ1 (0 + 1 + 8) (nI s) = _ from plc8 D1 hs, Option.bind_some, show fX4_take σ1 (0 + 1 + 8) (nI s) = _ from p8, Option.bind_some, e5]
      refine ⟨_, _, _, rfl, rfl, R.new K (w := w) (h := h) (n := n) (fun c hc => a8 c (by omega) (by omega) (by omega)) (fun c hc => gset_ne (by omega)) ?_⟩
      rw [gset_at]
      exact D2
theorem step_turn : gs_turn RR := by
  intro σ τ a1 a2 R
  obtain ⟨w, h, n, D⟩ := R.1
  have O := D.2.1
  obtain ⟨w1, w6, h1, h6, n12⟩ := O.2.1
  have hwh := wh_le w6 h6
  unfold fX8_turn fX9_turn
  rw [isc8 D, isc9 O, Option.bind_some, Option.bind_some]
  rcases inN a1 (n := n) (by omega) with c | ⟨s, hs, rfl, c⟩
  · rw [c, if_pos rfl, if_pos rfl]
    exact ⟨_, _, _, rfl, rfl, R⟩
  · rw [c, if_neg n10, if_neg n10, ior8, in9e, Option.bind_some, Option.bind_some]
    rcases inO a2 with c | ⟨o, ho, rfl, c⟩
    · rw [c, if_pos rfl, if_pos rfl]
      exact ⟨_, _, _, rfl, rfl, R⟩
    · rw [c, if_neg n10, if_neg n10, show fX4_lies σ (0 + 1 + 8) (nI s) = _ from lie8 D hs, Option.bind_some, on9 O hs, Option.bind_some]
      rcases O.pl hs with c1 | ⟨k, hk, c1⟩
      · rw [if_pos c1, if_pos rfl, if_pos rfl]
        exact ⟨_, _, _, rfl, rfl, R⟩
      · have c0 : ¬ τ 125 (123 + s) = -1 := by rw [c1]; exact m1_ne (by omega)
        obtain ⟨σ1, τ1, q8, q9, K⟩ := R.kept
        obtain ⟨e5, D1⟩ := K.desk
        have D1 := D1 D
        rw [e5] at D1
        obtain ⟨σ2, p8, p9, D2, N⟩ := put_both R K D hs hk ho (fun t ht hq => O.2.2.2.2.2.2.2 t s k ht hs (by omega) hq c1) (Or.inr c1)
        have es : gset τ1 125 (upd (τ1 125) (111 + s) (nI o)) = gset τ1 125 (pF (τ 125) s (nI k) (nI o)) := by
          rw [e5]
          refine congrArg (gset τ1 125) ?_
          funext j
          by_cases cj : j = 111 + s
          · rw [cj, pk_us, pF_o]
          · rw [pk_un cj]
            by_cases cp : j = 123 + s
            · rw [cp, pF_p, c1]
            · rw [pF_ne cp cj]
        have O2 : OKf ((gset τ1 125 (pF (τ 125) s (nI k) (nI o))) 125) w h n := by rw [gset_at]; exact D2.2.1
        obtain ⟨τ2, p2, F2⟩ := flt9 O2 hs hk ho
        rw [gset_at] at p2
        rw [if_neg c0, if_neg n10, if_neg n10, q9, Option.bind_some, ix111, if_pos (c125 (by omega)), gl_e, nI_cl (n := 111 + s) (by omega), show gset τ1 (124 + 1) (upd (τ1 (124 + 1)) (111 + s) (nI o)) = _ from es, ix123, if_pos (c125 (by omega)), nI_cl (n := 123 + s) (by omega), show gset τ1 125 (pF (τ 125) s (nI k) (nI o)) (124 + 1) (123 + s) = nI k from (congrFun gset_at _).trans pF_p, p2, bp]
        rw [show fX3_keep σ (0 + 31) (0 + 1) = _ from q8, Option.bind_some, show fX4_placeOf σ1 (0 + 1 + 8) (nI s) = _ from plc8 D1 hs, Option.bind_some, c1, show fX4_put σ1 (0 + 1 + 8) (nI s) (nI k) (nI o) = _ from p8, Option.bind_some, show fX0_countFaults σ2 (0 + 1) (nI s) = _ from cfl8 D2 hs hk pF_p, Option.bind_some, ovN_put ho]
        exact ⟨_, _, _, rfl, rfl, N _ F2⟩
