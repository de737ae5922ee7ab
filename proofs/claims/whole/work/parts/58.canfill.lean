/-! CANFILL -/
theorem RR.cg {σ τ σ' τ' : gM} (R : RR σ τ) (A : ∀ c, (c ≤ 15 ∨ (31 ≤ c ∧ c ≤ 107) ∨ c = 111 ∨ c = 113) → σ' c = σ c) (E : ∀ j, j < 135 → τ' 125 j = τ 125 j) (e4 : τ' 124 = τ 124) (e6 : τ' 126 = τ 126) (e7 : τ' 127 = τ 127) : RR σ' τ' := by
  have T : TT σ τ := R.2.2
  have H : HB σ τ := R.2.1
  obtain ⟨w, h, n, D⟩ := R.1
  exact ⟨⟨w, h, n, (D.mv (fun c _ h2 => A c (by omega))).cong E⟩, H.mv (fun c h1 h2 => A c (by omega)) e6 (by rw [e4]), T.mv (by rw [A 111 (by omega)]) (A 113 (by omega)) (by rw [e4]) e7⟩
theorem c133 {k : Nat} (h : k < 135) : ¬ (nI k < 0 ∨ gln (124 + 9) ≤ (nI k).toNatClampNeg) := nI_in (show k < 135 from h) (by decide)
theorem n135 {i : Nat} (h : i < 135) : ¬ (135 : Int32) ≤ nI i := nI_ge (b := 135) (by omega) (by decide)
theorem n135e : (135 : Int32) ≤ nI 135 := by decide
theorem cn28 : ∀ (d i m : Nat) (τ : gM), i + d = 135 → d < m → ∃ τ', fX9_canFill_28 124 m τ (nI i) = fX9_canFill_55 124 gF τ' 0 ∧ (∀ c, c ≠ 133 → τ' c = τ c) ∧ (∀ y, i ≤ y → y < 135 → τ' 133 y = τ 125 y) ∧ (∀ y, y < i → τ' 133 y = τ 133 y) := by
  intro d
  induction d with
  | zero =>
    intro i m τ hi hm
    obtain ⟨m, rfl⟩ : ∃ q, m = q + 1 := ⟨m - 1, by omega⟩
    obtain rfl : i = 135 := by omega
    refine ⟨τ, ?_, fun _ _ => rfl, fun y h1 h2 => by omega, fun _ _ => rfl⟩
    rw [fX9_canFill_28, if_pos n135e]
  | succ d ih =>
    intro i m τ hi hm
    obtain ⟨m, rfl⟩ : ∃ q, m = q + 1 := ⟨m - 1, by omega⟩
    obtain ⟨τ', p, a, b, c⟩ := ih (i + 1) m (gset τ 133 (upd (τ 133) i (τ 125 i))) (by omega) (by omega)
    refine ⟨τ', ?_, fun x h1 => (a x h1).trans (gset_ne h1), fun y h1 h2 => ?_, fun y hy => ?_⟩
    · rw [fX9_canFill_28, if_neg (n135 (by omega)), if_pos (c125 (by omega)), if_pos (c133 (by omega)), gl_e, gl_e, nI_cl (n := i) (by omega), nIa1]
      exact p
    · by_cases ci : y = i
      · subst ci
        rw [c y (by omega), gset_at, pk_us]
      · rw [b y (by omega) h2, gset_ne (by decide)]
    · rw [c y (by omega), gset_at, pk_un (by omega)]
def rG (f : Nat → Int32) (i j : Nat) : Int32 := if 111 ≤ j ∧ j < 111 + i then 0 else if 123 ≤ j ∧ j < 123 + i then -1 else f j
theorem rG_0 (f : Nat → Int32) : rG f 0 = f := by
  funext j
  unfold rG
  rw [if_neg (by omega), if_neg (by omega)]
theorem rG_s {f : Nat → Int32} {i : Nat} (hi : i < 12) : pF (rG f i) i (-1) 0 = rG f (i + 1) := by
  funext j
  by_cases c1 : j = 111 + i
  · rw [c1, pF_o]
    unfold rG
    rw [if_pos (by omega)]
  · by_cases c2 : j = 123 + i
    · rw [c2, pF_p]
      unfold rG
      rw [if_neg (by omega), if_pos (by omega)]
    · rw [pF_ne c2 c1]
      unfold rG
      by_cases c3 : 111 ≤ j ∧ j < 111 + i
      · rw [if_pos c3, if_pos (by omega)]
      · rw [if_neg c3, if_neg (show ¬ (111 ≤ j ∧ j < 111 + (i + 1)) by omega)]
        by_cases c4 : 123 ≤ j ∧ j < 123 + i
        · rw [if_pos c4, if_pos (by omega)]
        · rw [if_neg c4, if_neg (by omega)]
theorem rG_n {f : Nat → Int32} {w h n : Nat} (O : OKf f w h n) : rG f n = rF f w h n := by
  funext j
  unfold rG rF
  by_cases c0 : j = 0
  · rw [if_pos c0, c0, if_neg (by omega), if_neg (by omega)]
    exact O.1.1
  · by_cases c1 : j = 1
    · rw [if_neg c0, if_pos c1, c1, if_neg (by omega), if_neg (by omega)]
      exact O.1.2.1
    · rw [if_neg c0, if_neg c1]
theorem cn55 {f : Nat → Int32} {n : Nat} (z : f 2 = nI n) (n12 : n ≤ 12) : ∀ (d i m : Nat) (τ : gM), i + d = n → d < m → τ 125 = rG f i → ∃ τ', fX9_canFill_55 124 m τ (nI i) = ((fX9_fillsAll τ' 124).bind fun pv9 => gl pv9.1 fun v9 => gl pv9.2 fun σ10 => fX9_canFill_85 124 gF σ10 v9 0) ∧ (∀ c, c ≠ 125 → τ' c = τ c) ∧ τ' 125 = rG f n := by
  intro d
  induction d with
  | zero =>
    intro i m τ hi hm e5
    obtain ⟨m, rfl⟩ : ∃ q, m = q + 1 := ⟨m - 1, by omega⟩
    obtain rfl : i = n := by omega
    refine ⟨τ, ?_, fun _ _ => rfl, e5⟩
    rw [fX9_canFill_55, if_pos k12, show τ (124 + 1) (2 : Int32).toNatClampNeg = nI i by rw [cl_2, show τ (124 + 1) = _ from e5]; exact z, if_pos (Int32.le_refl _)]
  | succ d ih =>
    intro i m τ hi hm e5
    obtain ⟨m, rfl⟩ : ∃ q, m = q + 1 := ⟨m - 1, by omega⟩
    obtain ⟨τ', p, a, b⟩ := ih (i + 1) m (gset τ 125 (rG f (i + 1))) (by omega) (by omega) gset_at
    refine ⟨τ', ?_, fun c hc => (a c hc).trans (gset_ne hc), b⟩
    rw [fX9_canFill_55, if_pos k12, show τ (124 + 1) (2 : Int32).toNatClampNeg = nI n by rw [cl_2, show τ (124 + 1) = _ from e5]; exact z, if_neg (nI_ge (by omega) (by omega)), put9 (by omega), Option.bind_some, gl_e, nIa1, e5, rG_s (by omega)]
    exact p
theorem cn85 {v : Int32} : ∀ (d i m : Nat) (τ : gM), i + d = 135 → d < m → ∃ τ', fX9_canFill_85 124 m τ v (nI i) = some (if v = 0 then 0 else 1, τ') ∧ (∀ c, c ≠ 125 → τ' c = τ c) ∧ (∀ y, i ≤ y → y < 135 → τ' 125 y = τ 133 y) ∧ (∀ y, y < i → τ' 125 y = τ 125 y) := by
  intro d
  induction d with
  | zero =>
    intro i m τ hi hm
    obtain ⟨m, rfl⟩ : ∃ q, m = q + 1 := ⟨m - 1, by omega⟩
    obtain rfl : i = 135 := by omega
    refine ⟨τ, ?_, fun _ _ => rfl, fun y h1 h2 => by omega, fun _ _ => rfl⟩
    rw [fX9_canFill_85, if_pos n135e]
    split <;> rfl
  | succ d ih =>
    intro i m τ hi hm
    obtain ⟨m, rfl⟩ : ∃ q, m = q + 1 := ⟨m - 1, by omega⟩
    obtain ⟨τ', p, a, b, c⟩ := ih (i + 1) m (gset τ 125 (upd (τ 125) i (τ 133 i))) (by omega) (by omega)
    refine ⟨τ', ?_, fun x h1 => (a x h1).trans (gset_ne h1), fun y h1 h2 => ?_, fun y hy => ?_⟩
    · rw [fX9_canFill_85, if_neg (n135 (by omega)), if_pos (c133 (by omega)), if_pos (c125 (by omega)), gl_e, gl_e, nI_cl (n := i) (by omega), nIa1]
      exact p
    · by_cases ci : y = i
      · subst ci
        rw [c y (by omega), gset_at, pk_us]
      · rw [b y (by omega) h2, gset_ne (by decide)]
    · rw [c y (by omega), gset_at, pk_un (by omega)]
theorem step_canFill : gs_canFill RR := by
  intro σ τ R
  obtain ⟨w, h, n, D⟩ := R.1
  have O := D.2.1
  obtain ⟨w1, w6, h1, h6, n12⟩ := O.2.1
  have hwh := wh_le w6 h6
  have hpos : 1 ≤ w * h := Nat.mul_pos w1 h1
  unfold fX8_canFill fX9_canFill
  rw [show fX4_places σ (0 + 1 + 8) = _ from pls8 D, Option.bind_some, show fX6_size σ (0 + 1 + 1) = _ from siz8 D, Option.bind_some, if_pos k12, pls9 O, Option.bind_some, Option.bind_some, show τ (124 + 1) (2 : Int32).toNatClampNeg = nI n by rw [cl_2]; exact O.1.2.2]
  by_cases c1 : nI n = nI (w * h)
  · have hn : n = w * h := (nI_eq (by omega) (by omega)).mp c1
    rw [if_pos c1, if_pos c1]
    by_cases c2 : nI (w * h) ≤ 6
    · have h66 : w * h ≤ 6 := by
        rcases Nat.lt_or_ge 6 (w * h) with q | q
        · exact absurd c2 (show ¬ nI (w * h) ≤ 6 from nI_ge (a := 6) q (by omega))
        · exact q
      obtain ⟨σ1, p1, A1, D1⟩ := dcp (σ := σ) (t := 16) (o := 1) gD_16 gD_1 (by omega)
      have D1 := D1 D
      have e9 : σ1 9 = σ 9 := A1 9 (by omega)
      obtain ⟨σ2, p2, A2, D2⟩ := clr8 D1 w1 w6 h1 h6
      have P0 : PL (rF (τ 125) w h n) n 0 := fun s hs => Or.inl (rF_p hs n12)
      obtain ⟨σ3, p3, A3, -⟩ := fr8 (w := w) (h := h) (n := n) h66 (w * h) 0 8 σ2 _ (by omega) (by omega) D2 P0
      obtain ⟨τ1, q1, B1, C1, -⟩ := cn28 135 0 gF τ rfl (gF_lt (by decide))
      have e51 : τ1 125 = τ 125 := B1 125 (by decide)
      obtain ⟨τ2, q2, B2, C2⟩ := cn55 (f := τ 125) O.1.2.2 n12 n 0 gF τ1 (by omega) (gF_lt (by omega)) (by rw [rG_0]; exact e51)
      rw [rG_n O] at C2
      obtain ⟨τ3, q3, B3⟩ := fall (w := w) (h := h) (n := n) h66 (by omega) hpos D2.2.1 P0 C2
      obtain ⟨τ4, q4, B4, C4, -⟩ := cn85 (v := if wt w h n (w * h) (rF (τ 125) w h n) 0 = true then 1 else 0) 135 0 gF τ3 rfl (gF_lt (by decide))
      have far : ∀ c, c ≠ 125 → c ≠ 128 → c ≠ 129 → c ≠ 132 → c ≠ 133 → τ4 c = τ c := fun c h1 h2 h3 h4 h5 => by rw [B4 c h1, B3 c h1 h2 h3 h4, B2 c h1, B1 c h5]
      refine ⟨if wt w h n (w * h) (rF (τ 125) w h n) 0 = true then 1 else 0, σ3, τ4, ?_, ?_, R.cg (fun c hc => ?_) (fun j hj => ?_) (far 124 (by decide) (by decide) (by decide) (by decide) (by decide)) (far 126 (by decide) (by decide) (by decide) (by decide) (by decide)) (far 127 (by decide) (by decide) (by decide) (by decide) (by decide))⟩
      · rw [if_pos c2, show fX0_copy σ (0 + 16) (0 + 1) = _ from p1, Option.bind_some]
        unfold fX4_width fX4_height
        rw [Option.bind_some, Option.bind_some, show σ1 (0 + 1 + 8) 3 = nI w from (congrFun e9 3).trans D.2.2.1.2.1, show σ1 (0 + 1 + 8) 4 = nI h from (congrFun e9 4).trans D.2.2.1.2.2, show fX4_clear σ1 (0 + 16 + 8) (nI w) (nI h) = _ from p2, Option.bind_some, show fX8_fillsFrom 8 σ2 (0 + 16) 0 = _ from p3, bp]
        by_cases cw : wt w h n (w * h) (rF (τ 125) w h n) 0 = true
        · rw [if_pos cw, if_neg n10]
        · rw [if_neg cw, if_pos rfl]
      · rw [if_pos c2, show fX9_canFill_28 124 gF τ 0 = _ from q1, show fX9_canFill_55 124 gF τ1 0 = _ from q2, q3, bp, show fX9_canFill_85 124 gF τ3 _ 0 = _ from q4]
        by_cases cw : wt w h n (w * h) (rF (τ 125) w h n) 0 = true
        · rw [if_pos cw, if_neg n10]
        · rw [if_neg cw, if_pos rfl]
      · rw [A3 c (by omega) (by omega) (by omega), A2 c (by omega), A1 c (by omega)]
      · rw [C4 j (by omega) hj, B3 133 (by decide) (by decide) (by decide) (by decide), B2 133 (by decide), C1 j (by omega) hj]
    · rw [if_neg c2, if_neg c2]
      exact ⟨_, _, _, rfl, rfl, R⟩
  · rw [if_neg c1, if_neg c1]
    exact ⟨_, _, _, rfl, rfl, R⟩
