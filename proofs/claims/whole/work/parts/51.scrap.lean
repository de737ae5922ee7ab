/-! SCRAP, MEMBER -/
theorem in5 (x : Int32) : inI x 0 5 = 0 ∨ ∃ s, s < 6 ∧ x = nI s ∧ inI x 0 5 = 1 := inN x (n := 6) (by decide)
theorem step_scrap : gs_scrap RR := by
  intro σ τ a1 a2 R
  obtain ⟨w, h, n, D⟩ := R.1
  have O := D.2.1
  obtain ⟨w1, w6, h1, h6, n12⟩ := O.2.1
  have hwh := wh_le w6 h6
  unfold fX8_scrap fX9_scrap
  rw [isc8 D, isc9 O, Option.bind_some, Option.bind_some]
  rcases inN a1 (n := n) (by omega) with c | ⟨s, hs, rfl, c⟩
  · rw [c, if_pos rfl, if_pos rfl]
    exact ⟨_, _, _, rfl, rfl, R⟩
  · rw [c, if_neg n10, if_neg n10, in8e, in9e, Option.bind_some, Option.bind_some]
    rcases in5 a2 with c | ⟨j, hj, rfl, c⟩
    · rw [c, if_pos rfl, if_pos rfl]
      exact ⟨_, _, _, rfl, rfl, R⟩
    · rw [c, if_neg n10, if_neg n10]
      rcases (show j = 0 ∨ j = 1 ∨ 2 ≤ j by omega) with rfl | rfl | h2
      · rw [if_pos (show nI 0 ≤ 1 by decide), if_pos (show nI 0 = 0 from rfl), if_neg (show ¬ (2 : Int32) ≤ nI 0 by decide), show fX6_kind σ (0 + 1 + 1) (nI s) = _ from knd8 D hs, Option.bind_some, show (99 : Int32) + 12 * nI 0 = nI 99 by decide, nIa, if_pos (c125 (by omega)), nI_cl (n := 99 + s) (by omega)]
        exact ⟨_, _, _, rfl, rfl, R⟩
      · rw [if_pos (show nI 1 ≤ 1 by decide), if_neg (show ¬ nI 1 = 0 by decide), if_pos (show nI 1 = 1 from rfl), if_neg (show ¬ (2 : Int32) ≤ nI 1 by decide), show fX4_orientationOf σ (0 + 1 + 8) (nI s) = _ from ori8 D hs, Option.bind_some, show (99 : Int32) + 12 * nI 1 = nI 111 by decide, nIa, if_pos (c125 (by omega)), nI_cl (n := 111 + s) (by omega), show τ (124 + 1) (111 + s) = _ from (O.ov hs).2]
        exact ⟨_, _, _, rfl, rfl, R⟩
      · rw [if_neg (show ¬ nI j ≤ 1 from nI_ge (show 1 < j by omega) (by omega)), if_pos (show (2 : Int32) ≤ nI j from nI_le (a := 2) h2 (by omega)), show fX4_lies σ (0 + 1 + 8) (nI s) = _ from lie8 D hs, Option.bind_some, on9 O hs, Option.bind_some]
        rcases O.pn hs with c0 | ⟨hk, pk⟩
        · rw [if_pos c0, if_pos rfl, if_pos rfl]
          exact ⟨_, _, _, rfl, rfl, R⟩
        · have c0 : ¬ τ 125 (123 + s) = -1 := by rw [pk]; exact m1_ne (by omega)
          have hov := O.ov hs
          rw [if_neg c0, if_neg n10, if_neg n10]
          rcases (show j = 2 ∨ j = 3 ∨ j = 4 ∨ j = 5 by omega) with rfl | rfl | rfl | rfl
          · rw [if_neg (show ¬ nI 2 = 0 by decide), if_neg (show ¬ nI 2 = 1 by decide), if_pos (show nI 2 = 2 from rfl), if_pos (show nI 2 = 2 from rfl), show fX4_placeOf σ (0 + 1 + 8) (nI s) = _ from plc8 D hs, Option.bind_some, ix123, if_pos (c125 (by omega)), nI_cl (n := 123 + s) (by omega)]
            exact ⟨_, _, _, rfl, rfl, R⟩
          · obtain ⟨σ', p8, A8, z8, G⟩ := gat8 D
            obtain ⟨τ', p9, M9, z9, H9⟩ := gat9 O G
            obtain ⟨a, q, b1, b2, b3, b4, b5, b6⟩ := G.2.1 s hs c0
            have e9 : τ' 131 s = nI (nRt (σ' 110) a) := ((H9 s hs).2 a (by omega) b1).trans (if_pos b3)
            rw [if_neg (show ¬ nI 3 = 0 by decide), if_neg (show ¬ nI 3 = 1 by decide), if_neg (show ¬ nI 3 = 2 by decide), if_neg (show ¬ nI 3 = 2 by decide), if_pos (show nI 3 = 3 from rfl), if_pos (show nI 3 = 3 from rfl), show fX2_gather σ (0 + 108) (0 + 1) = _ from p8, Option.bind_some, p9, Option.bind_some, if_pos (c131 (by omega)), nI_cl (n := s) (by omega), show τ' (124 + 7) s = _ from e9]
            unfold fX2_groupOf
            rw [get_in (show s < gln (0 + 108 + 1 + 1) by rw [show gln (0 + 108 + 1 + 1) = 12 from g110]; omega), Option.bind_some, show σ' (0 + 108 + 1 + 1) s = nI a from b1, show fX2_countBelow σ' (0 + 108) (nI a) = _ from cbw z8 n12 (by omega), Option.bind_some, Option.bind_some]
            exact ⟨_, _, _, rfl, rfl, R.grp A8 M9⟩
          · obtain ⟨τ', p, F⟩ := fit9 (τ := τ) O hs hk hov.1
            rw [if_neg (show ¬ nI 4 = 0 by decide), if_neg (show ¬ nI 4 = 1 by decide), if_neg (show ¬ nI 4 = 2 by decide), if_neg (show ¬ nI 4 = 2 by decide), if_neg (show ¬ nI 4 = 3 by decide), if_neg (show ¬ nI 4 = 3 by decide), if_pos (show nI 4 = 4 from rfl), if_pos (show nI 4 = 4 from rfl), ix123, ix111, if_pos (c125 (by omega)), if_pos (c125 (by omega)), nI_cl (n := 123 + s) (by omega), nI_cl (n := 111 + s) (by omega), show τ (124 + 1) (123 + s) = _ from pk, show τ (124 + 1) (111 + s) = _ from hov.2, p, bp, show fX0_countFits σ (0 + 1) (nI s) = _ from cft8 D hs hk pk, Option.bind_some]
            exact ⟨_, _, _, rfl, rfl, R.off F⟩
          · obtain ⟨τ', p, F⟩ := flt9 (τ := τ) O hs hk hov.1
            rw [if_neg (show ¬ nI 5 = 0 by decide), if_neg (show ¬ nI 5 = 1 by decide), if_neg (show ¬ nI 5 = 2 by decide), if_neg (show ¬ nI 5 = 2 by decide), if_neg (show ¬ nI 5 = 3 by decide), if_neg (show ¬ nI 5 = 3 by decide), if_neg (show ¬ nI 5 = 4 by decide), if_neg (show ¬ nI 5 = 4 by decide), ix123, ix111, if_pos (c125 (by omega)), if_pos (c125 (by omega)), nI_cl (n := 123 + s) (by omega), nI_cl (n := 111 + s) (by omega), show τ (124 + 1) (123 + s) = _ from pk, show τ (124 + 1) (111 + s) = _ from hov.2, p, bp, show fX0_countFaults σ (0 + 1) (nI s) = _ from cfl8 D hs hk pk, Option.bind_some]
            exact ⟨_, _, _, rfl, rfl, R.off F⟩
def mO : Option Nat → Int32
  | none => -1004
  | some v => nI v
theorem memL {σ τ : gM} {n g A : Nat} (n12 : n ≤ 12) (hA : A < 2 ^ 31) (hg : g ≤ n) (z8 : σ 108 1 = nI n) (z9 : τ 125 2 = nI n) (H : ∀ s, s < n → (σ 110 s = -1 ∧ τ 131 s = -1) ∨ ∃ r, r < n ∧ σ 110 s = nI r ∧ τ 131 s = nI (nRt (σ 110) r)) : ∀ (d i m m' j : Nat), i + d = n → d < m → d < m' → j ≤ A → ∃ p : Option Nat, (∀ v, p = some v → v < n) ∧ fX2_scrapOf_5 σ 108 (nI g) (nI A) m (nI j) (nI i) = some (oI p) ∧ fX9_member_31 124 (nI g) (nI A) m' τ (nI (A - j)) (nI i) = some (mO p, τ) := by
  intro d
  induction d with
  | zero =>
    intro i m m' j hi hm hm' hj
    obtain ⟨m, rfl⟩ : ∃ q, m = q + 1 := ⟨m - 1, by omega⟩
    obtain ⟨m', rfl⟩ : ∃ q, m' = q + 1 := ⟨m' - 1, by omega⟩
    refine ⟨none, (fun v q => by cases q), ?_, ?_⟩
    · rw [fX2_scrapOf_5, z8, if_pos (nI_le (by omega) (by omega))]
      rfl
    · rw [fX9_member_31, if_pos k12, show τ (124 + 1) (2 : Int32).toNatClampNeg = nI n from z9, if_pos (nI_le (by omega) (by omega))]
      rfl
  | succ d ih =>
    intro i m m' j hi hm hm' hj
    obtain ⟨m, rfl⟩ : ∃ q, m = q + 1 := ⟨m - 1, by omega⟩
    obtain ⟨m', rfl⟩ : ∃ q, m' = q + 1 := ⟨m' - 1, by omega⟩
    rw [fX2_scrapOf_5, z8, if_neg (nI_ge (by omega) (by omega)), get_in (show i < gln (108 + 1 + 1) by rw [show gln (108 + 1 + 1) = 12 from g110]; omega), Option.bind_some, fX9_member_31, if_pos k12, show τ (124 + 1) (2 : Int32).toNatClampNeg = nI n from z9, if_neg (nI_ge (by omega) (by omega)), if_pos (c131 (by omega)), nI_cl (n := i) (by omega)]
    rcases H i (by omega) with ⟨h1, h2⟩ | ⟨r, hr, h1, h2⟩
    · obtain ⟨p, p1, p2, p3⟩ := ih (i + 1) m m' j (by omega) (by omega) (by omega) hj
      rw [if_pos (show σ (108 + 1 + 1) i = -1 from h1), gl_e, nIa1, if_neg (show ¬ τ (124 + 7) i = nI g from fun q => m1_ne' (show g < 2 ^ 31 by omega) (h2.symm.trans q)), gl_e]
      exact ⟨p, p1, p2, p3⟩
    · have br := nRt_le (σ 110) r
      rw [if_neg (show ¬ σ (108 + 1 + 1) i = -1 from fun q => m1_ne (show r < 2 ^ 31 by omega) (h1.symm.trans q))]
      unfold fX2_groupOf
      rw [get_in (show i < gln (108 + 1 + 1) by rw [show gln (108 + 1 + 1) = 12 from g110]; omega), Option.bind_some, show σ (108 + 1 + 1) i = nI r from h1, cbw z8 n12 (by omega), Option.bind_some, Option.bind_some, show τ (124 + 7) i = _ from h2]
      by_cases cg : nI (nRt (σ 110) r) = nI g
      · rw [if_pos cg, if_pos cg]
        by_cases cj : j = A
        · subst cj
          rw [if_pos rfl, Nat.sub_self, if_pos (show nI 0 = 0 from rfl)]
          exact ⟨some i, (fun v q => by cases q; omega), rfl, rfl⟩
        · obtain ⟨p, p1, p2, p3⟩ := ih (i + 1) m m' (j + 1) (by omega) (by omega) (by omega) (by omega)
          rw [if_neg (show ¬ nI j = nI A from fun q => cj ((nI_eq (by omega) (by omega)).mp q)), if_neg (show ¬ nI (A - j) = 0 from nI_ne0 (by omega) (by omega)), gl_e, gl_e, gl_e, gl_e, nIa1, nIa1, show A - j = (A - (j + 1)) + 1 by omega, pk_m1]
          exact ⟨p, p1, p2, p3⟩
      · obtain ⟨p, p1, p2, p3⟩ := ih (i + 1) m m' j (by omega) (by omega) (by omega) hj
        rw [if_neg cg, if_neg cg, gl_e, gl_e, nIa1]
        exact ⟨p, p1, p2, p3⟩
theorem step_member : gs_member RR := by
  intro σ τ a1 a2 R
  obtain ⟨w, h, n, D⟩ := R.1
  have O := D.2.1
  obtain ⟨w1, w6, h1, h6, n12⟩ := O.2.1
  obtain ⟨σ', p8, A8, z8, G⟩ := gat8 D
  obtain ⟨τ', p9, M9, z9, H9⟩ := gat9 O G
  have R' := R.grp A8 M9
  have b := nRt_le (σ' 110) n
  unfold fX8_member fX9_member fX2_size
  rw [show fX2_gather σ (0 + 108) (0 + 1) = _ from p8, Option.bind_some, show σ' (0 + 108) 1 = nI n from z8, show fX2_countBelow σ' (0 + 108) (nI n) = _ from cbw z8 n12 (Nat.le_refl _), Option.bind_some, Option.bind_some, in8e, Option.bind_some, p9, Option.bind_some, show τ' 124 9 = _ from z9, in9e, Option.bind_some]
  rcases inN a1 (n := nRt (σ' 110) n) (by omega) with c | ⟨g, hg, rfl, c⟩
  · rw [c, if_pos rfl, if_pos rfl]
    exact ⟨_, _, _, rfl, rfl, R'⟩
  · rw [c, if_neg n10, if_neg n10]
    by_cases c0 : 0 ≤ a2
    · obtain ⟨A, hA, rfl⟩ := nI_of (x := a2) (fun q => by
        have h1 : 0 ≤ a2.toInt := Int32.le_iff_toInt_le.mp c0
        have h2 : a2.toInt < 0 := Int32.lt_iff_toInt_lt.mp q
        omega)
      rw [if_pos c0, if_pos c0]
      obtain ⟨p, p1, p2, p3⟩ := memL (σ := σ') (τ := τ') (g := g) n12 hA (by omega) z8 (by rw [M9.d]; exact O.1.2.2) (fun s hs => by
        by_cases cl : τ 125 (123 + s) = -1
        · have := G.1 s hs cl
          exact Or.inl ⟨this, (H9 s hs).1 this⟩
        · obtain ⟨a, q, b1, b2, b3, -⟩ := G.2.1 s hs cl
          exact Or.inr ⟨a, b3, b1, ((H9 s hs).2 a (by omega) b1).trans (if_pos b3)⟩) n 0 gF gF 0 (by omega) (gF_lt (by omega)) (gF_lt (by omega)) (Nat.zero_le _)
      unfold fX2_scrapOf
      rw [show fX2_scrapOf_5 σ' (0 + 108) (nI g) (nI A) gF 0 0 = _ from p2, Option.bind_some, show fX9_member_31 124 (nI g) (nI A) gF τ' (nI A) 0 = _ from p3]
      cases p with
      | none =>
        rw [if_pos oI_n]
        exact ⟨_, _, _, rfl, rfl, R'⟩
      | some v =>
        have := p1 v rfl
        rw [oI_s, if_neg (m1_ne (by omega))]
        exact ⟨_, _, _, rfl, rfl, R'⟩
    · rw [if_neg c0, if_neg c0]
      exact ⟨_, _, _, rfl, rfl, R'⟩
