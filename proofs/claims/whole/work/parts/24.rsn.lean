/-! WHY AN EDGE DOES NOT FIT -/
theorem bp {α : Type} {v : Int32} {σ : gM} {F : Int32 → gM → Option α} : ((some (v, σ) : Option (Int32 × gM)).bind fun pv => gl pv.1 fun a => gl pv.2 fun b => F a b) = F v σ := rfl
def ovN (f : Nat → Int32) (v : Nat) : Nat := (f (111 + v)).toNatClampNeg
def vd (f : Nat → Int32) (s o e v : Nat) : Int32 := if tP f s o e = -1 then 1 else if tP f v (ovN f v) ((e + 2) % 4) = -1 then 1 else if tP f s o e + tP f v (ovN f v) ((e + 2) % 4) = 999 then (if tL f s o e = tL f v (ovN f v) ((e + 2) % 4) then 0 else 3) else 2
def rsQ (f : Nat → Int32) (n s o e : Nat) : Option Nat → Int32
  | none => -1
  | some v => if v = s then -1 else vd f s o e v
def rsP (f : Nat → Int32) (n s o e : Nat) : Option Nat → Int32
  | none => if tP f s o e = -1 then 0 else 4
  | some q => rsQ f n s o e (sc f n q)
theorem rsQ_n {f : Nat → Int32} {n s o e : Nat} : rsQ f n s o e none = -1 := rfl
theorem rsQ_s {f : Nat → Int32} {n s o e v : Nat} : rsQ f n s o e (some v) = if v = s then -1 else vd f s o e v := rfl
theorem rsP_n {f : Nat → Int32} {n s o e : Nat} : rsP f n s o e none = if tP f s o e = -1 then 0 else 4 := rfl
theorem rsP_s {f : Nat → Int32} {n s o e q : Nat} : rsP f n s o e (some q) = rsQ f n s o e (sc f n q) := rfl
theorem e2_4 {e : Nat} (he : e < 4) : (nI e + 2) - (nI e + 2) / 4 * 4 = nI ((e + 2) % 4) := by
  rw [show (2 : Int32) = nI 2 from rfl, nIa, show (4 : Int32) = nI 4 from rfl, pk_rem (by omega) (by omega) (by omega)]
/-- 0 fits, 1 to 4 why not, -1 nothing there -/
def rs (f : Nat → Int32) (w h n s k o e : Nat) : Int32 := rsP f n s o e (bh w h k e)
theorem OKf.pv {f : Nat → Int32} {w h n s e : Nat} (O : OKf f w h n) (hs : s < n) (he : e < 4) : pv (f (3 + 4 * s + e)) := O.2.2.2.1 s e hs he
theorem OKf.ov {f : Nat → Int32} {w h n s : Nat} (O : OKf f w h n) (hs : s < n) : ovN f s < 8 ∧ f (111 + s) = nI (ovN f s) := by
  obtain ⟨o, h1, h2⟩ := O.2.2.2.2.2.1 s hs
  unfold ovN
  rw [h2, nI_cl (by omega)]
  exact ⟨h1, rfl⟩
theorem pro9 {τ : gM} {w h n s o e : Nat} (O : OKf (τ 125) w h n) (hs : s < n) (ho : o < 8) (he : e < 4) : ∃ τ', fX9_profileOf τ 124 (nI s) (nI o) (nI e) = some (tP (τ 125) s o e, τ') ∧ Off2 τ τ' ∧ τ' 129 e = tL (τ 125) s o e := by
  have hn : n ≤ 12 := O.2.1.2.2.2.2
  obtain ⟨τ', h1, h2, h3⟩ := trn (τ := τ) (s := s) (o := o) (by omega) ho (fun e he => O.pv hs he)
  refine ⟨τ', ?_, h2, (h3 e he).2⟩
  unfold fX9_profileOf
  rw [h1, Option.bind_some, if_pos (c128 he), nI_cl (by omega)]
  rw [show τ' (124 + 4) e = tP (τ 125) s o e from (h3 e he).1]
theorem lin9 {τ : gM} {w h n s o e : Nat} (O : OKf (τ 125) w h n) (hs : s < n) (ho : o < 8) (he : e < 4) : ∃ τ', fX9_lineOf τ 124 (nI s) (nI o) (nI e) = some (tL (τ 125) s o e, τ') ∧ Off2 τ τ' := by
  have hn : n ≤ 12 := O.2.1.2.2.2.2
  obtain ⟨τ', h1, h2, h3⟩ := trn (τ := τ) (s := s) (o := o) (by omega) ho (fun e he => O.pv hs he)
  refine ⟨τ', ?_, h2⟩
  unfold fX9_lineOf
  rw [h1, Option.bind_some, if_pos (c129 he), nI_cl (by omega)]
  rw [show τ' (124 + 5) e = tL (τ 125) s o e from (h3 e he).2]
theorem rsn9 {τ : gM} {w h n s k o e : Nat} (O : OKf (τ 125) w h n) (hs : s < n) (hk : k < w * h) (ho : o < 8) (he : e < 4) : ∃ τ', fX9_reasonOf τ 124 (nI s) (nI k) (nI o) (nI e) = some (rs (τ 125) w h n s k o e, τ') ∧ Off2 τ τ' := by
  obtain ⟨⟨f0, f1, f2⟩, ⟨w1, w6, h1, h6, n12⟩, -⟩ := id O
  obtain ⟨τ1, p1, o1, l1⟩ := pro9 O hs ho he
  have e1 : τ1 125 = τ 125 := o1 125 (by decide) (by decide)
  have O1 : OKf (τ1 125) w h n := by rw [e1]; exact O
  unfold fX9_reasonOf
  rw [p1, bp, beh9 (by rw [e1]; exact f0) (by rw [e1]; exact f1) w1 w6 h1 h6 hk he, Option.bind_some]
  unfold rs
  cases hb : bh w h k e with
  | none =>
    refine ⟨τ1, ?_, o1⟩
    rw [if_pos oI_n, rsP_n]
    by_cases c : tP (τ 125) s o e = -1
    · rw [if_pos c, if_pos c]
    · rw [if_neg c, if_neg c]
  | some q =>
    have hq : q < w * h := bh_lt w1 hk hb
    have hwh := wh_le w6 h6
    rw [oI_s, if_neg (m1_ne (by omega)), sca9 (by rw [e1]; exact f2) n12, Option.bind_some, e1, rsP_s]
    cases hv : sc (τ 125) n q with
    | none =>
      refine ⟨τ1, ?_, o1⟩
      rw [if_pos oI_n]
      rfl
    | some v =>
      have hvn := (sc_lt hv).1
      rw [oI_s, if_neg (m1_ne (by omega))]
      rw [rsQ_s]
      by_cases c : v = s
      · refine ⟨τ1, ?_, o1⟩
        rw [c, if_pos rfl, if_pos rfl]
      · have hov := O.ov hvn
        obtain ⟨τ2, p2, o2, l2⟩ := pro9 (τ := τ1) (s := v) (o := ovN (τ 125) v) (e := (e + 2) % 4) O1 hvn hov.1 (by omega)
        rw [e1] at p2 l2
        refine ⟨τ2, ?_, o1.tr o2⟩
        rw [if_neg (fun q => c ((nI_eq (by omega) (by omega)).mp q)), if_pos (c129 he), gl_e, gl_e, e2_4 he, ix111, if_pos (c125 (by omega)), nI_cl (n := 111 + v) (by omega), hov.2, p2, bp, if_neg c]
        unfold vd
        by_cases c1 : tP (τ 125) s o e = -1
        · rw [if_pos c1, if_pos c1]
        · rw [if_neg c1, if_neg c1]
          by_cases c2 : tP (τ 125) v (ovN (τ 125) v) ((e + 2) % 4) = -1
          · rw [if_pos c2, if_pos c2]
          · rw [if_neg c2, if_neg c2]
            by_cases c3 : tP (τ 125) s o e + tP (τ 125) v (ovN (τ 125) v) ((e + 2) % 4) = 999
            · rw [if_pos c3, if_pos c3, if_pos (c129 (by omega)), nI_cl (n := (e + 2) % 4) (by omega), nI_cl (n := e) (by omega), show τ1 (124 + 5) e = tL (τ 125) s o e from l1, show τ2 (124 + 5) ((e + 2) % 4) = tL (τ 125) v (ovN (τ 125) v) ((e + 2) % 4) from l2]
              by_cases c4 : tL (τ 125) s o e = tL (τ 125) v (ovN (τ 125) v) ((e + 2) % 4)
              · rw [if_pos c4, if_pos c4]
              · rw [if_neg c4, if_neg c4]
            · rw [if_neg c3, if_neg c3]
