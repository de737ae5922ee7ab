/-! p25: THE LAW IN NUMBERS -/
variable {w h n k L : Nat} {f : Nat → Int32} {g : Nat → Nat → Int32} {xs : Nat → Int32}
theorem and_nn (x : Int32) : ¬ (x &&& 2147483647) < 0 := by
  intro h
  have h1 : (x.toBitVec &&& 2147483647#32).toInt < 0 := Int32.lt_iff_toInt_lt.mp h
  have h3 : (2147483647#32).msb = false := by decide
  rw [BitVec.toInt_eq_msb_cond, BitVec.msb_and, h3, Bool.and_false, if_neg (by decide)] at h1
  omega
theorem cel (hL : L ≤ 260) {j : Nat} (hj : j < 1000) : ∃ N, N < 2 ^ 31 ∧ fL_cell L xs (nI j) = some (nI N) := by
  unfold fL_cell
  by_cases c : L ≤ j
  · obtain ⟨N, hN, e⟩ := nI_of (and_nn ((15485959 * nI j) + 109))
    rw [if_pos (show Int32.ofNat L ≤ nI j from nI_le c (by omega)), e]
    exact ⟨N, hN, rfl⟩
  · obtain ⟨N, hN, e⟩ := nI_of (and_nn (xs (nI j).toNatClampNeg))
    rw [if_neg (show ¬ Int32.ofNat L ≤ nI j from nI_ge (show j < L by omega) (by omega)), if_pos (nI_in (by omega) (by omega)), e]
    exact ⟨N, hN, rfl⟩
theorem rm {N d : Nat} (hN : N < 2 ^ 31) (h0 : 0 < d) (hd : d < 2 ^ 31) : nI N - nI N / nI d * nI d = nI (N % d) := pk_rem hN h0 hd
theorem h591 {σ : gM} {K : gM → Int32 → Int32 → Option gM} {x3 : Int32} {i : Nat} (P : PP σ f w h n k g) : ∃ σ', PP σ' f w h n k g ∧ fL_law_591 K L xs 0 gF σ x3 (nI i) = K σ' x3 (nI (i + 1)) := by
  obtain ⟨q, e⟩ := gF_s
  obtain ⟨σ', F, p⟩ := holds_ok P.1
  refine ⟨σ', P.fr F, ?_⟩
  rw [e, fL_law_591, p, bp, if_neg n10, gl_e, nIa1]
theorem kN_5 (k : Nat) : kN k ≤ 5 := by unfold kN; split <;> omega
/-- the end: fill, undo, remove, undo -/
theorem l_end {σ : gM} {m : Nat} {x3 : Int32} (P : PP σ f w h 8 k g) : ∃ σ', fL_law_192 L xs 0 (m + 1) σ x3 (nI 30) = some σ' := by
  have D := P.1
  have ly := nLy_le f 8
  obtain ⟨r, σ1, f1, hr, p1, P1, e1⟩ := fil_p P
  obtain ⟨σ2, F2, p2⟩ := holds_ok P1.1
  obtain ⟨σ3, p3, P3⟩ := und_k (P1.fr F2) D.2.1
  have D3 := P3.1
  obtain ⟨σ5, p5, P5⟩ := rem_p P3 (s := 0) (by decide)
  have D5 := P5.1
  obtain ⟨σ6, F6, p6⟩ := holds_ok D5
  obtain ⟨σ7, p7, P7⟩ := und_k (P5.fr F6) D.2.1
  have D7 := P7.1
  have rem : nLy f 8 = (if f 123 = -1 then 0 else 1) + nLy (zF f 8 0) 7 := nLy_rem (f := f) (n := 8) (by decide) (by decide)
  have ly1 := nLy_le f1 8
  have kk : kN k ≤ 5 := kN_5 _
  have kk2 : kN (kN k - 1) ≤ 5 := kN_5 _
  have e4 : ∃ x, fX8_scrap σ3 0 0 2 = some (x, σ3) ∧ (if 0 ≤ x then (nI (nLy f 8) - 1) else nI (nLy f 8)) = nI (nLy (zF f 8 0) 7) := by
    have hwh := wh_le D.2.1.2.1.2.1 D.2.1.2.1.2.2.2.1
    rcases D.2.1.pn (s := 0) (by decide) with c | ⟨hp, c⟩
    · refine ⟨-1004, scr_no D3 (s := 0) (by decide) c (Or.inl rfl), ?_⟩
      have c : f 123 = -1 := c
      rw [if_pos c, Nat.zero_add] at rem
      rw [if_neg neg4, rem]
    · have c0 : f (123 + 0) ≠ -1 := by rw [c]; exact m1_ne (by omega)
      refine ⟨f (123 + 0), scr_2 D3 (s := 0) (by decide) c0, ?_⟩
      have c0 : ¬ f 123 = -1 := c0
      rw [if_neg c0] at rem
      rw [c, if_pos (nI_0le (by omega)), nIs1 (by omega)]
      exact congrArg nI (by omega)
  obtain ⟨x, p4, e4⟩ := e4
  rw [fL_law_192, if_pos (show (30 : Int32) ≤ nI 30 by decide), cnt_1 D, bp, p1, bp, if_neg (nI_pos (by omega)), cnt_1 P1.1, bp, if_pos (show nI (nLy f1 8) = nI (nLy f 8) + nI r by rw [nIa, e1]), p2, bp, if_neg n10, p3, bp, if_neg (nI_pos (by omega)), cnt_1 D3, bp, if_pos rfl, cnt_0 D3, bp, p4, bp, gl_e, e4, show fX8_removeScrap σ3 0 0 = _ from p5, bp, if_pos (show nI (8 - 1) = nI 8 - 1 by decide), cnt_1 D5, bp, if_pos rfl, p6, bp, if_neg n10, p7, bp, if_neg (nI_pos (by omega)), cnt_0 D7, bp, if_pos rfl, cnt_1 D7, bp, if_pos rfl]
  exact ⟨_, rfl⟩
theorem scr_q {σ : gM} (D : DDo σ 1 f w h n) {s : Nat} (hs : s < n) : ∃ q, fX8_scrap σ 0 (nI s) 2 = some (q, σ) ∧ (f (123 + s) = -1 → (if q < 0 then (0 : Int32) else (1 : Int32)) = 0) ∧ (f (123 + s) ≠ -1 → (if q < 0 then (0 : Int32) else (1 : Int32)) = 1 ∧ q = f (123 + s)) := by
  have hwh := wh_le D.2.1.2.1.2.1 D.2.1.2.1.2.2.2.1
  rcases D.2.1.pn hs with c | ⟨hp, c⟩
  · exact ⟨-1004, scr_no D hs c (Or.inl rfl), fun _ => if_pos lt4, fun q => absurd c q⟩
  · have c0 : f (123 + s) ≠ -1 := by rw [c]; exact m1_ne (by omega)
    exact ⟨f (123 + s), scr_2 D hs c0, fun q => absurd q c0, fun _ => ⟨if_neg (by rw [c]; exact nI_pos (by omega)), rfl⟩⟩
theorem l_192 (hL : L ≤ 260) : ∀ (d i m : Nat) (σ : gM) (f : Nat → Int32) (k : Nat) (g : Nat → Nat → Int32), PP σ f w h 8 k g → i + d = 30 → d < m → ∃ σ', fL_law_192 L xs 0 m σ (nI (w * h)) (nI i) = some σ' := by
  intro d
  induction d with
  | zero =>
    intro i m σ f k g P hi hm
    obtain ⟨m, rfl⟩ : ∃ q, m = q + 1 := ⟨m - 1, by omega⟩
    obtain rfl : i = 30 := by omega
    exact l_end P
  | succ d ih =>
    intro i m σ f k g P hi hm
    obtain ⟨m, rfl⟩ : ∃ q, m = q + 1 := ⟨m - 1, by omega⟩
    have D := P.1
    have O := D.2.1
    obtain ⟨w1, w6, h1, h6, n12⟩ := O.2.1
    have hwh := wh_le w6 h6
    have wh1 : 0 < w * h := Nat.mul_pos w1 h1
    have fin : ∀ (σ1 : gM) (f1 : Nat → Int32) (k1 : Nat) (g1 : Nat → Nat → Int32), PP σ1 f1 w h 8 k1 g1 → ∃ σ', fL_law_591 (fun σ2 y3 y4 => fL_law_192 L xs 0 m σ2 y3 y4) L xs 0 gF σ1 (nI (w * h)) (nI i) = some σ' := by
      intro σ1 f1 k1 g1 P1
      obtain ⟨σ2, P2, e2⟩ := h591 (L := L) (xs := xs) (K := fun σ2 y3 y4 => fL_law_192 L xs 0 m σ2 y3 y4) (x3 := nI (w * h)) (i := i) P1
      rw [e2]
      exact ih (i + 1) m σ2 f1 k1 g1 P2 (by omega) (by omega)
    obtain ⟨N, hN, ec⟩ := cel (L := L) (xs := xs) hL (j := 10 + i) (by omega)
    have e8 : nI N - nI N / 8 * 8 = nI (N % 8) := rm (d := 8) hN (by decide) (by decide)
    have ep : (nI N / 8) - (nI N / 8) / nI (w * h) * nI (w * h) = nI (N / 8 % (w * h)) := by
      rw [show nI N / 8 = nI (N / 8) from pk_div (d := 8) hN (by decide) (by decide)]
      exact rm (by omega) wh1 (by omega)
    have eo : (nI N / 200) - (nI N / 200) / 8 * 8 = nI (N / 200 % 8) := by
      rw [show nI N / 200 = nI (N / 200) from pk_div (d := 200) hN (by decide) (by decide)]
      exact rm (d := 8) (by omega) (by decide) (by decide)
    have hs : N % 8 < 8 := Nat.mod_lt _ (by decide)
    have hp : N / 8 % (w * h) < w * h := Nat.mod_lt _ wh1
    have ho : N / 200 % 8 < 8 := Nat.mod_lt _ (by decide)
    rw [fL_law_192, if_neg (show ¬ (30 : Int32) ≤ nI i from nI_ge (b := 30) (by omega) (by decide)), show (10 : Int32) + nI i = nI (10 + i) from nIa 10 i, ec, Option.bind_some, gl_e, if_pos (nI_ne0 wh1 (by omega)), gl_e, gl_e, e8, ep, eo]
    generalize N % 8 = s at hs
    generalize N / 8 % (w * h) = p at hp
    generalize N / 200 % 8 = o at ho
    obtain ⟨q, q1, q2, q3⟩ := scr_q D hs
    rw [q1, bp, gl_e, at_p D hp, Option.bind_some, gl_e, cnt_10 P.2, bp]
    by_cases c3 : (nI N - nI N / 3 * 3) = 0
    · rw [if_pos c3]
      obtain ⟨v, v1, v2⟩ := way_p D hs hp
      rw [v1, Option.bind_some]
      by_cases cc : f (123 + s) = -1 ∧ sc f 8 p = none ∧ nFlt f w h 8 s p o = 0
      · obtain ⟨a1, a2, a3⟩ := cc
        obtain ⟨σ1, r, p1, hr, P1⟩ := lay_y P hs hp ho a1 a2 a3
        have D1 := P1.1
        have e5 : nFlt (pF f s (nI p) (nI o)) w h 8 s p (ovN (pF f s (nI p) (nI o)) s) = 0 := by
          rw [ovN_put ho, nFlt_put O D1.2.1 hs hp a1]
          exact a3
        have ea : sc (pF f s (nI p) (nI o)) 8 p = some s := by
          rw [sc_put O D1.2.1 hs (by omega), if_pos rfl]
        have wb := nWay_bd ho a3
        rw [p1, bp, if_neg (nI_pos (by omega)), if_pos (q2 a1), a2, sO_n, if_pos (show (if (-1004 : Int32) < 0 then (0 : Int32) else (1 : Int32)) = 0 from if_pos lt4), v2 a2, if_neg (nI_nle wb.1 (by omega)), scr_5 D1 hs hp pF_p, bp, e5, if_pos (show nI 0 = 0 from rfl), at_p D1 hp, ea, Option.bind_some, sO_s, if_pos rfl]
        exact fin _ _ _ _ P1
      · rw [lay_n D hs hp ho cc, bp, if_pos (show (-1002 : Int32) < 0 by decide), if_pos rfl, cnt_10 P.2, bp, if_pos rfl]
        exact fin _ _ _ _ P
    · rw [if_neg c3]
      by_cases c4 : (nI N - nI N / 3 * 3) = 1
      · rw [if_pos c4]
        by_cases a1 : f (123 + s) = -1
        · by_cases a2 : sc f 8 p = none
          · obtain ⟨σ1, p1, P1⟩ := for_y P hs hp ho a1 a2
            have D1 := P1.1
            have eo1 : (nI o + 1) - (nI o + 1) / 8 * 8 = nI ((o + 1) % 8) := by
              rw [nIa1]
              exact rm (d := 8) (by omega) (by decide) (by decide)
            have ho2 : (o + 1) % 8 < 8 := Nat.mod_lt _ (by decide)
            obtain ⟨σ2, p2, P2⟩ := tur_y P1 hs hp ho2 pF_p
            have D2 := P2.1
            obtain ⟨σ3, p3, P3⟩ := tur_y P2 hs hp ho pF_p
            rw [pF_3] at p3
            rw [p1, bp, if_pos (q2 a1), a2, sO_n, if_pos (show (if (-1004 : Int32) < 0 then (0 : Int32) else (1 : Int32)) = 0 from if_pos lt4), scr_5 D1 hs hp pF_p, bp, ovN_put ho, if_pos rfl, scr_1 D1 hs, bp, ovN_put ho, if_pos rfl, eo1, p2, bp, scr_5 D2 hs hp pF_p, bp, ovN_put ho2, if_pos rfl, p3, bp, if_pos rfl]
            exact fin _ _ _ _ P3
          · obtain ⟨v, hv⟩ : ∃ v, sc f 8 p = some v := by
              cases hv : sc f 8 p with
              | none => exact absurd hv a2
              | some v => exact ⟨v, rfl⟩
            have hvn := (sc_lt hv).1
            rw [for_n D hs hp ho (Or.inr a2), bp, if_pos (q2 a1), hv, sO_s, if_neg (show ¬ (if nI v < 0 then (0 : Int32) else (1 : Int32)) = 0 by rw [if_neg (nI_pos (by omega))]; decide), if_pos rfl]
            exact fin _ _ _ _ P
        · rw [for_n D hs hp ho (Or.inl a1), bp, if_neg (show ¬ (if q < 0 then (0 : Int32) else (1 : Int32)) = 0 by rw [(q3 a1).1]; decide), if_pos rfl]
          exact fin _ _ _ _ P
      · rw [if_neg c4, q1, bp]
        rcases O.pn hs with a1 | ⟨hk, a1⟩
        · rw [lif_n D hs a1, bp, if_pos (q2 a1), if_pos rfl]
          exact fin _ _ _ _ P
        · have a0 : f (123 + s) ≠ -1 := by rw [a1]; exact m1_ne (by omega)
          obtain ⟨σ1, p1, P1⟩ := lif_y P hs hk a1
          have D1 := P1.1
          have e1 : sc (pF f s (-1) 0) 8 (pN f s) = none := by
            rw [sc_put O D1.2.1 hs (by omega), if_neg (m1_ne' (by omega)), if_pos a1]
          have kk : kN k ≤ 5 := by unfold kN; split <;> omega
          rw [p1, bp, if_neg (show ¬ (if q < 0 then (0 : Int32) else (1 : Int32)) = 0 by rw [(q3 a0).1]; decide), (q3 a0).2, a1, if_pos rfl, at_p D1 hk, e1, Option.bind_some, sO_n, if_pos rfl]
          by_cases c5 : (nI N - nI N / 2 * 2) = 0
          · rw [if_pos c5]
            exact fin _ _ _ _ P1
          · obtain ⟨σ2, p2, P2⟩ := und_k P1 O
            rw [if_neg c5, p2, bp, if_neg (nI_pos (by omega)), at_p P2.1 hk, sc_at O (by omega) hs a1, Option.bind_some, sO_s, if_pos rfl]
            exact fin _ _ _ _ P2
theorem l_61 (hL : L ≤ 260) {x3 : Int32} : ∀ (d i m : Nat) (σ : gM) (f : Nat → Int32) (k : Nat) (g : Nat → Nat → Int32), PP σ f w h i k g → i + d = 8 → d < m → ∃ (σ' : gM) (f' : Nat → Int32) (k' : Nat) (g' : Nat → Nat → Int32), PP σ' f' w h 8 k' g' ∧ fL_law_61 L xs 0 m σ x3 (nI i) = fL_law_192 L xs 0 gF σ' x3 0 := by
  intro d
  induction d with
  | zero =>
    intro i m σ f k g P hi hm
    obtain ⟨m, rfl⟩ : ∃ q, m = q + 1 := ⟨m - 1, by omega⟩
    obtain rfl : i = 8 := by omega
    refine ⟨σ, f, k, g, P, ?_⟩
    rw [fL_law_61, if_pos i8e]
  | succ d ih =>
    intro i m σ f k g P hi hm
    obtain ⟨m, rfl⟩ : ∃ q, m = q + 1 := ⟨m - 1, by omega⟩
    obtain ⟨N, hN, ec⟩ := cel (L := L) (xs := xs) hL (j := 2 + i) (by omega)
    have v1 : pv (if (nI N - nI N / 4 * 4) = 0 then ((-1) : Int32) else (nI N - nI N / 1000 * 1000)) := by
      split
      · exact Or.inl rfl
      · exact Or.inr ⟨N % 1000, by omega, rm (d := 1000) hN (by decide) (by decide)⟩
    have v2 : pv (if ((nI N / 4) - (nI N / 4) / 4 * 4) = 0 then ((-1) : Int32) else ((nI N / 7) - (nI N / 7) / 1000 * 1000)) := by
      split
      · exact Or.inl rfl
      · refine Or.inr ⟨N / 7 % 1000, by omega, ?_⟩
        rw [show nI N / 7 = nI (N / 7) from pk_div (d := 7) hN (by decide) (by decide)]
        exact rm (d := 1000) (by omega) (by decide) (by decide)
    have v3 : pv (if ((nI N / 16) - (nI N / 16) / 3 * 3) = 0 then ((-1) : Int32) else (454 : Int32)) := by
      split
      · exact Or.inl rfl
      · exact Or.inr ⟨454, by omega, rfl⟩
    have v4 : pv (if ((nI N / 48) - (nI N / 48) / 3 * 3) = 0 then ((-1) : Int32) else (545 : Int32)) := by
      split
      · exact Or.inl rfl
      · exact Or.inr ⟨545, by omega, rfl⟩
    have v5 : (nI N - nI N / 2 * 2) = 0 ∨ (nI N - nI N / 2 * 2) = 1 := by
      rw [show nI N - nI N / 2 * 2 = nI (N % 2) from rm (d := 2) hN (by decide) (by decide)]
      rcases (show N % 2 = 0 ∨ N % 2 = 1 by omega) with c | c
      · rw [c]; exact Or.inl rfl
      · rw [c]; exact Or.inr rfl
    obtain ⟨σ1, p1, P1⟩ := add_p P (by omega) v1 v2 v3 v4 v5
    obtain ⟨σ', f', k', g', P', e'⟩ := ih (i + 1) m σ1 _ _ _ P1 (by omega) (by omega)
    refine ⟨σ', f', k', g', P', ?_⟩
    rw [fL_law_61, if_neg (i8 (by omega)), show (2 : Int32) + nI i = nI (2 + i) from nIa 2 i, ec, Option.bind_some, gl_e, gl_e, gl_e, gl_e, p1, bp, if_pos rfl, turns_ok P1.1 (show i < i + 1 by omega), bp, if_neg n10, gl_e, nIa1]
    exact e'
theorem law_ok (hL : L ≤ 260) {σ : gM} (P : PP σ f 4 4 0 k g) : ∃ σ', fL_law σ L xs 0 = some σ' := by
  obtain ⟨σ1, F1, p1⟩ := holds_ok P.1
  obtain ⟨N0, hN0, e0⟩ := cel (L := L) (xs := xs) hL (j := 0) (by decide)
  obtain ⟨N1, hN1, e1⟩ := cel (L := L) (xs := xs) hL (j := 1) (by decide)
  obtain ⟨σ2, p2, P2⟩ := rst_p (P.fr F1) (w' := 1 + N0 % 4) (h' := 1 + N1 % 4) (by omega) (by omega) (by omega) (by omega)
  have D2 := P2.1
  have m0 : 1 + (nI N0 - nI N0 / 4 * 4) = nI (1 + N0 % 4) := by
    rw [show nI N0 - nI N0 / 4 * 4 = nI (N0 % 4) from rm (d := 4) hN0 (by decide) (by decide)]
    exact nIa 1 _
  have m1 : 1 + (nI N1 - nI N1 / 4 * 4) = nI (1 + N1 % 4) := by
    rw [show nI N1 - nI N1 / 4 * 4 = nI (N1 % 4) from rm (d := 4) hN1 (by decide) (by decide)]
    exact nIa 1 _
  obtain ⟨σ3, f3, k3, g3, P3, e3⟩ := l_61 (xs := xs) hL (x3 := nI ((1 + N0 % 4) * (1 + N1 % 4))) 8 0 gF σ2 _ _ _ P2 rfl (gF_lt (by decide))
  obtain ⟨σ4, e4⟩ := l_192 (xs := xs) hL 30 0 gF σ3 f3 k3 g3 P3 rfl (gF_lt (by decide))
  refine ⟨σ4, ?_⟩
  unfold fL_law
  rw [p1, bp, if_neg n10, show fL_cell L xs 0 = _ from e0, Option.bind_some, show fL_cell L xs 1 = _ from e1, Option.bind_some, m0, m1, p2, bp, if_pos (show nI (nLy f 0) = 0 from rfl), cnt_2 D2, bp, cnt_3 D2, bp, gl_e, pk_mul]
  exact e3.trans e4
/-- the start -/
theorem start_p : ∃ σ1 f, fX8_init (fun _ _ => 0) 0 = some σ1 ∧ PP σ1 f 4 4 0 0 (fun _ _ => 0) := by
  obtain ⟨s1, p1, a1, D1⟩ := clr0 (σ := fun _ _ => 0) (f := fun j => if j = 0 then (4 : Int32) else if j = 1 then 4 else 0) gD_1 rfl rfl rfl rfl
  obtain ⟨s2, p2, a2, -⟩ := clr0 (σ := s1) (f := fun j => if j = 0 then (4 : Int32) else if j = 1 then 4 else 0) gD_16 (by rw [a1 17 (by omega)]) rfl rfl rfl
  obtain ⟨s3, p3, a3, -⟩ := clr0 (σ := s2) (d := 33) (f := fun j => if j = 0 then (4 : Int32) else if j = 1 then 4 else 0) (gD_h (j := 0) (by decide)) (by rw [a2 34 (by omega), a1 34 (by omega)]) rfl rfl rfl
  obtain ⟨s4, p4, a4, -⟩ := clr0 (σ := s3) (d := 48) (f := fun j => if j = 0 then (4 : Int32) else if j = 1 then 4 else 0) (gD_h (j := 1) (by decide)) (by rw [a3 49 (by omega), a2 49 (by omega), a1 49 (by omega)]) rfl rfl rfl
  obtain ⟨s5, p5, a5, -⟩ := clr0 (σ := s4) (d := 63) (f := fun j => if j = 0 then (4 : Int32) else if j = 1 then 4 else 0) (gD_h (j := 2) (by decide)) (by rw [a4 64 (by omega), a3 64 (by omega), a2 64 (by omega), a1 64 (by omega)]) rfl rfl rfl
  obtain ⟨s6, p6, a6, -⟩ := clr0 (σ := s5) (d := 78) (f := fun j => if j = 0 then (4 : Int32) else if j = 1 then 4 else 0) (gD_h (j := 3) (by decide)) (by rw [a5 79 (by omega), a4 79 (by omega), a3 79 (by omega), a2 79 (by omega), a1 79 (by omega)]) rfl rfl rfl
  obtain ⟨s7, p7, a7, -⟩ := clr0 (σ := s6) (d := 93) (f := fun j => if j = 0 then (4 : Int32) else if j = 1 then 4 else 0) (gD_h (j := 4) (by decide)) (by rw [a6 94 (by omega), a5 94 (by omega), a4 94 (by omega), a3 94 (by omega), a2 94 (by omega), a1 94 (by omega)]) rfl rfl rfl
  have old : ∀ c, (c = 31 ∨ 108 ≤ c) → s7 c = fun _ => 0 := fun c hc => by rw [a7 c (by omega), a6 c (by omega), a5 c (by omega), a4 c (by omega), a3 c (by omega), a2 c (by omega), a1 c (by omega)]
  have far : ∀ c, c ≤ 15 → s7 c = s1 c := fun c hc => by rw [a7 c (by omega), a6 c (by omega), a5 c (by omega), a4 c (by omega), a3 c (by omega), a2 c (by omega)]
  refine ⟨s7, (fun j => if j = 0 then (4 : Int32) else if j = 1 then 4 else 0), ?_, D1.mv (fun c h1 h2 => far c (by omega)), 0, by decide, by decide, ?_, ?_, fun i hi => by omega⟩
  · unfold fX8_init fX3_init
    rw [show fX0_init (fun _ _ => 0) (0 + 1) = _ from p1, Option.bind_some, show fX0_init s1 (0 + 16) = _ from p2, Option.bind_some, show fX0_init s2 (0 + 31 + 1 + (1 + 15 * 0)) = _ from p3, Option.bind_some, show fX0_init s3 (0 + 31 + 1 + (1 + 15 * 1)) = _ from p4, Option.bind_some, show fX0_init s4 (0 + 31 + 1 + (1 + 15 * 2)) = _ from p5, Option.bind_some, show fX0_init s5 (0 + 31 + 1 + (1 + 15 * 3)) = _ from p6, Option.bind_some]
    exact p7
  · rw [old 31 (by omega)]
    rfl
  · rw [old 31 (by omega)]
    rfl
