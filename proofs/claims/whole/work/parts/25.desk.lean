/-! THE CLASS READS A DESK THAT AGREES WITH A SNAPSHOT -/
def gD (d : Nat) : Prop := gln (d + 3) = 12 ∧ gln (d + 5) = 384 ∧ gln (d + 7) = 384 ∧ gln (d + 10) = 12 ∧ gln (d + 12) = 12 ∧ gln (d + 14) = 36
theorem gD_1 : gD 1 := by unfold gD; decide
theorem gD_16 : gD 16 := by unfold gD; decide
theorem gD_h {j : Nat} (hj : j < 5) : gD (33 + 15 * j) := by
  rcases (show j = 0 ∨ j = 1 ∨ j = 2 ∨ j = 3 ∨ j = 4 by omega) with rfl | rfl | rfl | rfl | rfl <;> (unfold gD; decide)
def DDc (σ : gM) (d : Nat) (f : Nat → Int32) (w h n : Nat) : Prop :=
  (σ (d + 1) 3 = nI n ∧ σ (d + 8) 3 = nI w ∧ σ (d + 8) 4 = nI h) ∧
  (∀ s, s < n → σ (d + 3) s = f (99 + s)) ∧
  (∀ s o e, s < n → o < 8 → e < 4 → σ (d + 5) (s * 32 + o * 4 + e) = tP f s o e ∧ σ (d + 7) (s * 32 + o * 4 + e) = tL f s o e) ∧
  (∀ s, s < 12 → σ (d + 10) s = if s < n then f (123 + s) else -1) ∧
  (∀ s, s < 12 → σ (d + 12) s = if s < n then f (111 + s) else 0) ∧
  (∀ k, k < 36 → σ (d + 14) k = oI (sc f n k))
def DDo (σ : gM) (d : Nat) (f : Nat → Int32) (w h n : Nat) : Prop := gD d ∧ OKf f w h n ∧ DDc σ d f w h n
variable {σ : gM} {d w h n : Nat} {f : Nat → Int32}
theorem siz8 (D : DDo σ d f w h n) : fX6_size σ (d + 1) = some (nI n) := congrArg some D.2.2.1.1
theorem plc8 (D : DDo σ d f w h n) {s : Nat} (hs : s < n) : fX4_placeOf σ (d + 8) (nI s) = some (f (123 + s)) := by
  have hn : n ≤ 12 := D.2.1.2.1.2.2.2.2
  unfold fX4_placeOf
  rw [get_in (show s < gln (d + 10) by rw [D.1.2.2.2.1]; omega), Option.bind_some]
  refine congrArg some ?_
  refine (D.2.2.2.2.2.1 s (by omega)).trans ?_
  rw [if_pos hs]
theorem lie8 (D : DDo σ d f w h n) {s : Nat} (hs : s < n) : fX4_lies σ (d + 8) (nI s) = some (if f (123 + s) = -1 then 0 else 1) := by
  have := plc8 D hs
  unfold fX4_placeOf at this
  unfold fX4_lies
  have e : fX5_get σ (d + 8 + 1) (nI s) = some (f (123 + s)) := by
    cases hg : fX5_get σ (d + 8 + 1) (nI s) with
    | none => rw [hg] at this; cases this
    | some v => rw [hg] at this; exact this
  rw [e, Option.bind_some]
  split <;> rfl
theorem ori8 (D : DDo σ d f w h n) {s : Nat} (hs : s < n) : fX4_orientationOf σ (d + 8) (nI s) = some (nI (ovN f s)) := by
  have hn : n ≤ 12 := D.2.1.2.1.2.2.2.2
  unfold fX4_orientationOf
  rw [get_in (show s < gln (d + 12) by rw [D.1.2.2.2.2.1]; omega), Option.bind_some]
  refine congrArg some ?_
  refine (D.2.2.2.2.2.2.1 s (by omega)).trans ?_
  rw [if_pos hs, (D.2.1.ov hs).2]
theorem knd8 (D : DDo σ d f w h n) {s : Nat} (hs : s < n) : fX6_kind σ (d + 1) (nI s) = some (f (99 + s)) := by
  have hn : n ≤ 12 := D.2.1.2.1.2.2.2.2
  unfold fX6_kind
  rw [get_in (show s < gln (d + 3) by rw [D.1.1]; omega), Option.bind_some]
  exact congrArg some (D.2.2.2.1 s hs)
def scO (f : Nat → Int32) (n : Nat) : Option Nat → Option Nat
  | none => none
  | some q => sc f n q
theorem sca8 (D : DDo σ d f w h n) {p : Option Nat} (hp : ∀ q, p = some q → q < 36) : fX4_scrapAt σ (d + 8) (oI p) = some (oI (scO f n p)) := by
  unfold fX4_scrapAt
  cases p with
  | none => rw [oI_n, get_m1]; rfl
  | some q =>
    have hq := hp q rfl
    rw [oI_s, get_in (show q < gln (d + 14) by rw [D.1.2.2.2.2.2]; omega), Option.bind_some]
    exact congrArg some (D.2.2.2.2.2.2.2 q hq)
theorem sca8s (D : DDo σ d f w h n) {q : Nat} (hq : q < 36) : fX4_scrapAt σ (d + 8) (nI q) = some (oI (sc f n q)) := sca8 D (p := some q) (fun _ e => by cases e; exact hq)
theorem ix32 (s o e : Nat) : ((nI s * 32) + (nI o * 4)) + nI e = nI (s * 32 + o * 4 + e) := by
  rw [show (32 : Int32) = nI 32 from rfl, show (4 : Int32) = nI 4 from rfl, pk_mul, pk_mul, nIa, nIa]
theorem pro8 (D : DDo σ d f w h n) {s o e : Nat} (hs : s < n) (ho : o < 8) (he : e < 4) : fX6_profile σ (d + 1) (nI s) (nI o) (nI e) = some (tP f s o e) := by
  have hn : n ≤ 12 := D.2.1.2.1.2.2.2.2
  unfold fX6_profile
  rw [ix32, get_in (show s * 32 + o * 4 + e < gln (d + 5) by rw [D.1.2.1]; omega), Option.bind_some]
  exact congrArg some (D.2.2.2.2.1 s o e hs ho he).1
theorem lin8 (D : DDo σ d f w h n) {s o e : Nat} (hs : s < n) (ho : o < 8) (he : e < 4) : fX6_line σ (d + 1) (nI s) (nI o) (nI e) = some (tL f s o e) := by
  have hn : n ≤ 12 := D.2.1.2.1.2.2.2.2
  unfold fX6_line
  rw [ix32, get_in (show s * 32 + o * 4 + e < gln (d + 7) by rw [D.1.2.2.1]; omega), Option.bind_some]
  exact congrArg some (D.2.2.2.2.1 s o e hs ho he).2
theorem beh8d (D : DDo σ d f w h n) {k e : Nat} (hk : k < 36) (he : e < 4) : fX4_behind σ (d + 8) (nI k) (nI e) = some (oI (bh w h k e)) := by
  obtain ⟨w1, w6, h1, h6, n12⟩ := D.2.1.2.1
  exact beh8 D.2.2.1.2.1 D.2.2.1.2.2 w1 w6 h6 hk he
/-- the other scrap behind an edge -/
def nbQ (s : Nat) : Option Nat → Option Nat
  | none => none
  | some v => if v = s then none else some v
def nb (f : Nat → Int32) (w h n s k e : Nat) : Option Nat := nbQ s (scO f n (bh w h k e))
theorem nbQ_n {s : Nat} : nbQ s none = none := rfl
theorem nbQ_s {s v : Nat} : nbQ s (some v) = if v = s then none else some v := rfl
theorem scO_n {f : Nat → Int32} {n : Nat} : scO f n none = none := rfl
theorem scO_s {f : Nat → Int32} {n q : Nat} : scO f n (some q) = sc f n q := rfl
theorem nei8 (D : DDo σ d f w h n) {s k e : Nat} (hs : s < n) (hk : k < w * h) (he : e < 4) : fX0_neighbour σ d (nI s) (nI k) (nI e) = some (oI (nb f w h n s k e)) := by
  obtain ⟨w1, w6, h1, h6, n12⟩ := D.2.1.2.1
  have hwh := wh_le w6 h6
  unfold fX0_neighbour nb
  rw [beh8d D (by omega) he, Option.bind_some, sca8 D (fun q hq => by have := bh_lt w1 hk hq; omega), Option.bind_some]
  cases hv : scO f n (bh w h k e) with
  | none => rw [nbQ_n, oI_n, if_neg (m1_ne' (by omega))]
  | some v =>
    have hvn : v < n := by
      cases hb : bh w h k e with
      | none => rw [hb] at hv; cases hv
      | some q => rw [hb] at hv; exact (sc_lt hv).1
    rw [nbQ_s, oI_s]
    by_cases c : v = s
    · rw [if_pos c, if_pos (by rw [c])]; rfl
    · rw [if_neg c, if_neg (fun q => c ((nI_eq (by omega) (by omega)).mp q))]; rfl
theorem a2_3 {e : Nat} (he : e < 4) : (nI e + 2) &&& 3 = nI ((e + 2) % 4) := by
  rcases (show e = 0 ∨ e = 1 ∨ e = 2 ∨ e = 3 by omega) with rfl | rfl | rfl | rfl <;> decide
theorem ver8 (D : DDo σ d f w h n) {s k o e : Nat} (hs : s < n) (hk : k < w * h) (ho : o < 8) (he : e < 4) : fX0_verdict σ d (nI s) (nI k) (nI o) (nI e) = some (rs f w h n s k o e) := by
  obtain ⟨w1, w6, h1, h6, n12⟩ := D.2.1.2.1
  have hwh := wh_le w6 h6
  unfold fX0_verdict
  rw [pro8 D hs ho he, Option.bind_some, beh8d D (by omega) he, Option.bind_some]
  unfold rs
  cases hb : bh w h k e with
  | none =>
    rw [if_pos oI_n, rsP_n]
    split <;> rfl
  | some q =>
    have hq : q < w * h := bh_lt w1 hk hb
    rw [oI_s, if_neg (m1_ne (by omega)), rsP_s, sca8s D (by omega), Option.bind_some]
    cases hv : sc f n q with
    | none => rw [if_pos oI_n]; rfl
    | some v =>
      have hvn := (sc_lt hv).1
      rw [rsQ_s, oI_s, if_neg (m1_ne (by omega))]
      by_cases c : v = s
      · rw [if_pos (show nI v = nI s by rw [c]), if_pos c]
      · have hov := D.2.1.ov hvn
        rw [if_neg (show ¬ nI v = nI s from fun q => c ((nI_eq (by omega) (by omega)).mp q)), if_neg c, ori8 D hvn, Option.bind_some, gl_e, a2_3 he, pro8 D hvn hov.1 (by omega), Option.bind_some, lin8 D hs ho he, Option.bind_some, lin8 D hvn hov.1 (by omega), Option.bind_some]
        unfold vd
        by_cases c1 : tP f s o e = -1
        · rw [if_pos c1, if_pos c1]
        · rw [if_neg c1, if_neg c1]
          by_cases c2 : tP f v (ovN f v) ((e + 2) % 4) = -1
          · rw [if_pos c2, if_pos c2]
          · rw [if_neg c2, if_neg c2]
            by_cases c3 : tP f s o e + tP f v (ovN f v) ((e + 2) % 4) = 999
            · rw [if_pos c3, if_pos c3]
              by_cases c4 : tL f s o e = tL f v (ovN f v) ((e + 2) % 4)
              · rw [if_pos c4, if_pos c4]
              · rw [if_neg c4, if_neg c4]
            · rw [if_neg c3, if_neg c3]
