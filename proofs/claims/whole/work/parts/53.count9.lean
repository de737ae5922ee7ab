/-! COUNTS, THE REFERENCE'S; COUNT -/
theorem d_b {f : Nat → Int32} {w h n s e : Nat} (c : f (123 + s) ≠ -1) (hb : bh w h (pN f s) e = none) : dS f w h n s e = 0 ∧ dF f w h n s e = 0 ∧ dA f w h n s e = (if rs f w h n s (pN f s) (ovN f s) e = 0 then 1 else 0) ∧ dB f w h n s e = (if rs f w h n s (pN f s) (ovN f s) e = 0 then 0 else 1) := by
  have e1 : nb f w h n s (pN f s) e = none := by unfold nb; rw [hb]; rfl
  refine ⟨?_, ?_, ?_, ?_⟩
  · unfold dS
    rw [if_neg c, e1, if_pos rfl, ite_self]
  · unfold dF jn
    rw [if_neg c, e1, ite_self, if_pos rfl, ite_self]
  · unfold dA
    rw [if_neg c, hb, if_pos rfl]
  · unfold dB
    rw [if_neg c, hb, if_pos rfl]
theorem d_i {f : Nat → Int32} {w h n s e q : Nat} (c : f (123 + s) ≠ -1) (hb : bh w h (pN f s) e = some q) : dA f w h n s e = 0 ∧ dB f w h n s e = 0 ∧ ((rs f w h n s (pN f s) (ovN f s) e = -1 ∧ dS f w h n s e = 0 ∧ dF f w h n s e = 0) ∨ (rs f w h n s (pN f s) (ovN f s) e ≠ -1 ∧ dS f w h n s e = (if e = 1 ∨ e = 2 then 1 else 0) ∧ dF f w h n s e = (if e = 1 ∨ e = 2 then (if rs f w h n s (pN f s) (ovN f s) e = 0 then 1 else 0) else 0))) := by
  have e0 : ¬ (some q : Option Nat) = none := fun q => by cases q
  refine ⟨by unfold dA; rw [if_neg c, hb, if_neg e0], by unfold dB; rw [if_neg c, hb, if_neg e0], ?_⟩
  cases hv : nb f w h n s (pN f s) e with
  | none =>
    refine Or.inl ⟨?_, ?_, ?_⟩
    · unfold nb at hv
      rw [hb, scO_s] at hv
      unfold rs
      rw [hb, rsP_s]
      cases hc : sc f n q with
      | none => rfl
      | some v =>
        rw [hc, nbQ_s] at hv
        by_cases cv : v = s
        · rw [rsQ_s, if_pos cv]
        · rw [if_neg cv] at hv; cases hv
    · unfold dS
      rw [if_neg c, hv, if_pos rfl, ite_self]
    · unfold dF jn
      rw [if_neg c, hv, ite_self, if_pos rfl, ite_self]
  | some v =>
    have e1 : ¬ (some v : Option Nat) = none := fun q => by cases q
    obtain ⟨q', h1, h2, h3⟩ := nb_in hv
    refine Or.inr ⟨?_, ?_, ?_⟩
    · rw [rs_mk h1 h2 h3]
      rcases vd_in f s (ovN f s) e v with z | z | z | z <;> rw [z] <;> decide
    · unfold dS
      rw [if_neg c, hv, if_neg e1]
    · unfold dF jn
      rw [if_neg c, hv]
      by_cases c2 : rs f w h n s (pN f s) (ovN f s) e = 0
      · rw [if_pos c2, if_pos c2, if_neg e1]
      · rw [if_neg c2, if_neg c2, if_pos rfl]
theorem c61o {τ : gM} {K : gM → Int32 → Int32 → Int32 → Int32 → Int32 → Int32 → Option (Int32 × gM)} {a1 l a b c e : Int32} {s : Nat} (hs : s < 12) (c0 : τ 125 (123 + s) = -1) : fX9_count_61 K 124 a1 gF τ l a b c e (nI s) 0 = K τ l a b c e (nI (s + 1)) := by
  obtain ⟨m, hm⟩ : ∃ m, gF = m + 1 := ⟨gF - 1, by unfold gF; omega⟩
  rw [hm, fX9_count_61, if_neg (show ¬ (4 : Int32) ≤ 0 by decide), on9' hs, Option.bind_some, if_pos c0, if_pos rfl, gl_e, nIa1]
theorem c61 {τ0 : gM} {w h n s : Nat} (O : OKf (τ0 125) w h n) (hs : s < n) (c0 : τ0 125 (123 + s) ≠ -1) (K : gM → Int32 → Int32 → Int32 → Int32 → Int32 → Int32 → Option (Int32 × gM)) (a1 l : Int32) : ∀ (d i m a b c e : Nat) (τ : gM), i + d = 4 → d < m → Off2 τ0 τ → ∃ τ', fX9_count_61 K 124 a1 m τ l (nI a) (nI b) (nI c) (nI e) (nI s) (nI i) = K τ' l (nI (up (aE (dS (τ0 125) w h n) s) d i a)) (nI (up (aE (dF (τ0 125) w h n) s) d i b)) (nI (up (aE (dA (τ0 125) w h n) s) d i c)) (nI (up (aE (dB (τ0 125) w h n) s) d i e)) (nI (s + 1)) ∧ Off2 τ0 τ' := by
  obtain ⟨w1, w6, h1, h6, n12⟩ := O.2.1
  have hwh := wh_le w6 h6
  intro d
  induction d with
  | zero =>
    intro i m a b c e τ hi hm F
    obtain ⟨m, rfl⟩ : ∃ q, m = q + 1 := ⟨m - 1, by omega⟩
    obtain rfl : i = 4 := by omega
    refine ⟨τ, ?_, F⟩
    rw [fX9_count_61, if_pos i4e, gl_e, nIa1, up_0, up_0, up_0, up_0]
  | succ d ih =>
    intro i m a b c e τ hi hm F
    obtain ⟨m, rfl⟩ : ∃ q, m = q + 1 := ⟨m - 1, by omega⟩
    have e5 : τ 125 = τ0 125 := F 125 (by decide) (by decide)
    rcases O.pn hs with q | ⟨hk, pk⟩
    · exact absurd q c0
    · have hov := O.ov hs
      obtain ⟨τ1, p1, F1⟩ := rsn9 (τ := τ) (s := s) (k := pN (τ0 125) s) (o := ovN (τ0 125) s) (e := i) (by rw [e5]; exact O) hs hk hov.1 (by omega)
      have F2 := F.tr F1
      have e6 : τ1 125 = τ0 125 := F2 125 (by decide) (by decide)
      have key : ∀ a' b' c' e', a' = a + dS (τ0 125) w h n s i → b' = b + dF (τ0 125) w h n s i → c' = c + dA (τ0 125) w h n s i → e' = e + dB (τ0 125) w h n s i → ∀ x, x = fX9_count_61 K 124 a1 m τ1 l (nI a') (nI b') (nI c') (nI e') (nI s) (nI (i + 1)) → ∃ τ', x = K τ' l (nI (up (aE (dS (τ0 125) w h n) s) d (i + 1) (aE (dS (τ0 125) w h n) s i a))) (nI (up (aE (dF (τ0 125) w h n) s) d (i + 1) (aE (dF (τ0 125) w h n) s i b))) (nI (up (aE (dA (τ0 125) w h n) s) d (i + 1) (aE (dA (τ0 125) w h n) s i c))) (nI (up (aE (dB (τ0 125) w h n) s) d (i + 1) (aE (dB (τ0 125) w h n) s i e))) (nI (s + 1)) ∧ Off2 τ0 τ' := by
        intro a' b' c' e' ha hb hc he x hx
        obtain ⟨τ', p, F'⟩ := ih (i + 1) m a' b' c' e' τ1 (by omega) (by omega) F2
        rw [ha, hb, hc, he] at p
        rw [ha, hb, hc, he] at hx
        exact ⟨τ', hx.trans p, F'⟩
      rw [fX9_count_61, if_neg (i4 (by omega)), on9' (by omega), Option.bind_some, e5, if_neg c0, if_neg n10, ix123, ix111, if_pos (c125 (by omega)), if_pos (c125 (by omega)), nI_cl (n := 123 + s) (by omega), nI_cl (n := 111 + s) (by omega), show τ0 125 (123 + s) = _ from pk, show τ0 125 (111 + s) = _ from hov.2, p1, bp, if_pos (c125b (by omega)), e5, show τ1 (124 + 1) (123 + s) = nI (pN (τ0 125) s) by rw [← pk, ← e6], beh9 (w := w) (h := h) (by rw [e6]; exact O.1.1) (by rw [e6]; exact O.1.2.1) w1 w6 h1 h6 hk (by omega), Option.bind_some, up_s, up_s, up_s, up_s]
      cases hb : bh w h (pN (τ0 125) s) i with
      | none =>
        obtain ⟨g1, g2, g3, g4⟩ := d_b (n := n) c0 hb
        rw [if_pos oI_n]
        by_cases c2 : rs (τ0 125) w h n s (pN (τ0 125) s) (ovN (τ0 125) s) i = 0
        · rw [if_pos c2] at g3 g4
          refine key a b (c + 1) e (by rw [g1]; rfl) (by rw [g2]; rfl) (by rw [g3]) (by rw [g4]; rfl) _ ?_
          rw [gl_e, gl_e, if_pos c2]
          simp only [gl_e, Int32.add_zero, nIa1]
        · rw [if_neg c2] at g3 g4
          refine key a b c (e + 1) (by rw [g1]; rfl) (by rw [g2]; rfl) (by rw [g3]; rfl) (by rw [g4]) _ ?_
          rw [gl_e, gl_e, if_neg c2]
          simp only [gl_e, Int32.add_zero, nIa1]
      | some q =>
        have hq := bh_lt w1 hk hb
        obtain ⟨g3, g4, g⟩ := d_i (n := n) c0 hb
        rw [oI_s, if_neg (m1_ne (by omega))]
        rcases g with ⟨g0, g1, g2⟩ | ⟨g0, g1, g2⟩
        · refine key a b c e (by rw [g1]; rfl) (by rw [g2]; rfl) (by rw [g3]; rfl) (by rw [g4]; rfl) _ ?_
          rw [if_pos g0]
          simp only [gl_e, Int32.add_zero, nIa1]
        · rw [if_neg g0]
          rcases (show i = 0 ∨ i = 1 ∨ i = 2 ∨ i = 3 by omega) with rfl | rfl | rfl | rfl
          · refine key a b c e (by rw [g1]; rfl) (by rw [g2]; rfl) (by rw [g3]; rfl) (by rw [g4]; rfl) _ ?_
            rw [if_neg (show ¬ nI 0 = 1 by decide), if_neg (show ¬ nI 0 = 2 by decide)]
            simp only [gl_e, Int32.add_zero, nIa1]
          · rw [if_pos (show (1 : Nat) = 1 ∨ (1 : Nat) = 2 from Or.inl rfl)] at g1 g2
            rw [if_pos (show nI 1 = 1 from rfl)]
            by_cases c2 : rs (τ0 125) w h n s (pN (τ0 125) s) (ovN (τ0 125) s) 1 = 0
            · rw [if_pos c2] at g2
              refine key (a + 1) (b + 1) c e (by rw [g1]) (by rw [g2]) (by rw [g3]; rfl) (by rw [g4]; rfl) _ ?_
              rw [gl_e, if_pos c2]
              simp only [gl_e, Int32.add_zero, nIa1]
            · rw [if_neg c2] at g2
              refine key (a + 1) b c e (by rw [g1]) (by rw [g2]; rfl) (by rw [g3]; rfl) (by rw [g4]; rfl) _ ?_
              rw [gl_e, if_neg c2]
              simp only [gl_e, Int32.add_zero, nIa1]
          · rw [if_pos (show (2 : Nat) = 1 ∨ (2 : Nat) = 2 from Or.inr rfl)] at g1 g2
            rw [if_neg (show ¬ nI 2 = 1 by decide), if_pos (show nI 2 = 2 from rfl)]
            by_cases c2 : rs (τ0 125) w h n s (pN (τ0 125) s) (ovN (τ0 125) s) 2 = 0
            · rw [if_pos c2] at g2
              refine key (a + 1) (b + 1) c e (by rw [g1]) (by rw [g2]) (by rw [g3]; rfl) (by rw [g4]; rfl) _ ?_
              rw [gl_e, if_pos c2]
              simp only [gl_e, Int32.add_zero, nIa1]
            · rw [if_neg c2] at g2
              refine key (a + 1) b c e (by rw [g1]) (by rw [g2]; rfl) (by rw [g3]; rfl) (by rw [g4]; rfl) _ ?_
              rw [gl_e, if_neg c2]
              simp only [gl_e, Int32.add_zero, nIa1]
          · refine key a b c e (by rw [g1]; rfl) (by rw [g2]; rfl) (by rw [g3]; rfl) (by rw [g4]; rfl) _ ?_
            rw [if_neg (show ¬ nI 3 = 1 by decide), if_neg (show ¬ nI 3 = 2 by decide)]
            simp only [gl_e, Int32.add_zero, nIa1]
theorem c30 {τ0 : gM} {w h n : Nat} (O : OKf (τ0 125) w h n) (a1 : Int32) : ∀ (d i m l a b c e : Nat) (τ : gM), i + d = n → d < m → Off2 τ0 τ → ∃ τ' m', fX9_count_30 124 a1 m τ (nI l) (nI a) (nI b) (nI c) (nI e) (nI i) = fX9_count_30 124 a1 (m' + 1) τ' (nI (up (gLy (τ0 125)) d i l)) (nI (up (u4 (dS (τ0 125) w h n)) d i a)) (nI (up (u4 (dF (τ0 125) w h n)) d i b)) (nI (up (u4 (dA (τ0 125) w h n)) d i c)) (nI (up (u4 (dB (τ0 125) w h n)) d i e)) (nI n) ∧ Off2 τ0 τ' := by
  obtain ⟨w1, w6, h1, h6, n12⟩ := O.2.1
  intro d
  induction d with
  | zero =>
    intro i m l a b c e τ hi hm F
    obtain ⟨m, rfl⟩ : ∃ q, m = q + 1 := ⟨m - 1, by omega⟩
    obtain rfl : i = n := by omega
    exact ⟨τ, m, rfl, F⟩
  | succ d ih =>
    intro i m l a b c e τ hi hm F
    obtain ⟨m, rfl⟩ : ∃ q, m = q + 1 := ⟨m - 1, by omega⟩
    have e5 : τ 125 = τ0 125 := F 125 (by decide) (by decide)
    rw [fX9_count_30, if_pos k12, show τ (124 + 1) (2 : Int32).toNatClampNeg = nI n by rw [cl_2, show τ (124 + 1) = τ0 125 from e5]; exact O.1.2.2, if_neg (nI_ge (by omega) (by omega)), on9' (by omega), Option.bind_some, e5, up_s, up_s, up_s, up_s, up_s, show gLy (τ0 125) i l = if τ0 125 (123 + i) = -1 then l else l + 1 from rfl]
    by_cases c0 : τ0 125 (123 + i) = -1
    · rw [if_pos c0, if_pos rfl, if_pos c0, gl_e, Int32.add_zero, c61o (by omega) (by rw [e5]; exact c0), u4_0 (dS_off c0), u4_0 (dF_off c0), u4_0 (dA_off c0), u4_0 (dB_off c0)]
      exact ih (i + 1) m l a b c e τ (by omega) (by omega) F
    · obtain ⟨τ1, p1, F1⟩ := c61 O (by omega) c0 (fun σ2 y2 y3 y4 y5 y6 y7 => fX9_count_30 124 a1 m σ2 y2 y3 y4 y5 y6 y7) a1 (nI (l + 1)) 4 0 gF a b c e τ rfl (gF_lt (by decide)) F
      obtain ⟨τ', m', p, F'⟩ := ih (i + 1) m (l + 1) _ _ _ _ τ1 (by omega) (by omega) F1
      refine ⟨τ', m', ?_, F'⟩
      rw [if_neg c0, if_neg n10, if_neg c0, gl_e, nIa1]
      exact p1.trans p
theorem in11 (x : Int32) : inI x 0 11 = 0 ∨ ∃ s, s < 12 ∧ x = nI s ∧ inI x 0 11 = 1 := inN x (n := 12) (by decide)
theorem cend {τ : gM} {a1 l a b c e : Int32} {m n : Nat} (z : τ 125 2 = nI n) : fX9_count_30 124 a1 (m + 1) τ l a b c e (nI n) = (if a1 = 0 then some (nI n, τ) else if a1 = 1 then some (l, τ) else if a1 = 2 then some (τ 125 0, τ) else if a1 = 3 then some (τ 125 1, τ) else if a1 = 4 then (fX9_gathers τ 124).bind (fun σ14 => some (σ14 124 9, σ14)) else if a1 = 5 then some (a, τ) else if a1 = 6 then some (b, τ) else if a1 = 7 then some (c, τ) else if a1 = 8 then some (e, τ) else if a1 = 9 then (fX9_places τ 124).bind (fun v => some (v - l, τ)) else if a1 = 10 then some (τ 124 2, τ) else some (τ 124 4, τ)) := by
  rw [fX9_count_30, if_pos k12, show τ (124 + 1) (2 : Int32).toNatClampNeg = nI n from z, if_pos (Int32.le_refl _)]
  by_cases c0 : a1 = 0
  · rw [if_pos c0, if_pos c0]
    rfl
  · rw [if_neg c0, if_neg c0]
    by_cases c1 : a1 = 1
    · rw [if_pos c1, if_pos c1]
    · rw [if_neg c1, if_neg c1]
      by_cases c2 : a1 = 2
      · subst c2
        rw [if_pos rfl, if_pos rfl]
        exact if_pos k10
      · rw [if_neg c2, if_neg c2]
        by_cases c3 : a1 = 3
        · subst c3
          rw [if_pos rfl, if_pos rfl]
          exact if_pos k11
        · rw [if_neg c3, if_neg c3]
theorem step_count : gs_count RR := by
  intro σ τ a1 R
  obtain ⟨w, h, n, D⟩ := R.1
  have O := D.2.1
  obtain ⟨w1, w6, h1, h6, n12⟩ := O.2.1
  unfold fX9_count
  rw [in9e, Option.bind_some]
  rcases in11 a1 with c | ⟨j, hj, rfl, c⟩
  · refine ⟨-1001, σ, τ, ?_, by rw [c, if_pos rfl], R⟩
    have no : ∀ x, inI x 0 11 = 1 → ¬ a1 = x := fun x hx q => by rw [q, hx] at c; exact n10 c
    unfold fX8_count
    rw [if_neg (no 0 (by decide)), if_neg (no 1 (by decide)), if_neg (no 2 (by decide)), if_neg (no 3 (by decide)), if_neg (no 4 (by decide)), if_neg (no 5 (by decide)), if_neg (no 6 (by decide)), if_neg (no 7 (by decide)), if_neg (no 8 (by decide)), if_neg (no 9 (by decide)), if_neg (no 10 (by decide)), if_neg (no 11 (by decide))]
  · obtain ⟨τ1, m, p1, F⟩ := c30 O (nI j) n 0 gF 0 0 0 0 0 τ (by omega) (gF_lt (by omega)) Off2.rf
    have e5 : τ1 125 = τ 125 := F 125 (by decide) (by decide)
    have e24 : τ1 124 = τ 124 := F 124 (by decide) (by decide)
    have R1 := R.off F
    have O1 : OKf (τ1 125) w h n := by rw [e5]; exact O
    have D1 : DDo σ 1 (τ1 125) w h n := by rw [e5]; exact D
    rw [c, if_neg n10, show fX9_count_30 124 (nI j) gF τ 0 0 0 0 0 0 = _ from p1, cend O1.1.2.2]
    obtain ⟨⟨kk, oo, hkk, hoo, t1, t2, t3, -⟩, ⟨Lt, hLt, u1, u2, -⟩⟩ := R1.2
    unfold fX8_count
    rcases (show j = 0 ∨ j = 1 ∨ j = 2 ∨ j = 3 ∨ j = 4 ∨ j = 5 ∨ j = 6 ∨ j = 7 ∨ j = 8 ∨ j = 9 ∨ j = 10 ∨ j = 11 by omega) with rfl | rfl | rfl | rfl | rfl | rfl | rfl | rfl | rfl | rfl | rfl | rfl
    · rw [if_pos (show nI 0 = 0 from rfl), if_pos (show nI 0 = 0 from rfl), show fX6_size σ (0 + 1 + 1) = _ from siz8 D, Option.bind_some]
      exact ⟨_, _, _, rfl, rfl, R1⟩
    · rw [if_neg (show ¬ nI 1 = 0 by decide), if_neg (show ¬ nI 1 = 0 by decide), if_pos (show nI 1 = 1 from rfl), if_pos (show nI 1 = 1 from rfl), show fX0_countLying σ (0 + 1) = _ from cly8 D, Option.bind_some]
      exact ⟨_, _, _, rfl, rfl, R1⟩
    · refine ⟨nI w, σ, τ1, ?_, ?_, R1⟩
      · exact congrArg (fun x => some (x, σ)) D.2.2.1.2.1
      · exact congrArg (fun x => some (x, τ1)) O1.1.1
    · refine ⟨nI h, σ, τ1, ?_, ?_, R1⟩
      · exact congrArg (fun x => some (x, σ)) D.2.2.1.2.2
      · exact congrArg (fun x => some (x, τ1)) O1.1.2.1
    · obtain ⟨σ', p8, A8, z8, G⟩ := gat8 D1
      obtain ⟨τ', p9, M9, z9, H9⟩ := gat9 O1 G
      have R' := R1.grp A8 M9
      refine ⟨nI (nRt (σ' 110) n), σ', τ', ?_, ?_, R'⟩
      · show (fX2_gather σ 108 1).bind _ = _
        unfold fX2_size
        rw [p8, Option.bind_some, show σ' (0 + 108) 1 = nI n from z8, show fX2_countBelow σ' (0 + 108) (nI n) = _ from cbw z8 n12 (Nat.le_refl _), Option.bind_some, Option.bind_some]
      · show (fX9_gathers τ1 124).bind _ = _
        rw [p9, Option.bind_some, z9]
    · refine ⟨_, σ, τ1, ?_, rfl, R1⟩
      show (fX0_countSeams σ 1).bind _ = _
      rw [show fX0_countSeams σ 1 = _ from cs4 D n 0 gF 0 (by omega) (gF_lt (by omega)), Option.bind_some]
    · refine ⟨_, σ, τ1, ?_, rfl, R1⟩
      show (fX0_countFittingSeams σ 1).bind _ = _
      rw [show fX0_countFittingSeams σ 1 = _ from cf4 D n 0 gF 0 (by omega) (gF_lt (by omega)), Option.bind_some]
    · refine ⟨_, σ, τ1, ?_, rfl, R1⟩
      show (fX0_countBorderEdges σ 1 0).bind _ = _
      rw [show fX0_countBorderEdges σ 1 0 = _ from cb4 D (Or.inl ⟨rfl, rfl⟩) n 0 gF 0 (by omega) (gF_lt (by omega)), Option.bind_some]
    · refine ⟨_, σ, τ1, ?_, rfl, R1⟩
      show (fX0_countBorderEdges σ 1 4).bind _ = _
      rw [show fX0_countBorderEdges σ 1 4 = _ from cb4 D (Or.inr ⟨rfl, rfl⟩) n 0 gF 0 (by omega) (gF_lt (by omega)), Option.bind_some]
    · refine ⟨nI (w * h) - nI (nLy (τ 125) n), σ, τ1, ?_, ?_, R1⟩
      · rw [if_neg (show ¬ nI 9 = 0 by decide), if_neg (show ¬ nI 9 = 1 by decide), if_neg (show ¬ nI 9 = 2 by decide), if_neg (show ¬ nI 9 = 3 by decide), if_neg (show ¬ nI 9 = 4 by decide), if_neg (show ¬ nI 9 = 5 by decide), if_neg (show ¬ nI 9 = 6 by decide), if_neg (show ¬ nI 9 = 7 by decide), if_neg (show ¬ nI 9 = 8 by decide), if_pos (show nI 9 = 9 from rfl), show fX4_places σ (0 + 1 + 8) = _ from pls8 D, Option.bind_some, show fX0_countLying σ (0 + 1) = _ from cly8 D, Option.bind_some]
      · rw [if_neg (show ¬ nI 9 = 0 by decide), if_neg (show ¬ nI 9 = 1 by decide), if_neg (show ¬ nI 9 = 2 by decide), if_neg (show ¬ nI 9 = 3 by decide), if_neg (show ¬ nI 9 = 4 by decide), if_neg (show ¬ nI 9 = 5 by decide), if_neg (show ¬ nI 9 = 6 by decide), if_neg (show ¬ nI 9 = 7 by decide), if_neg (show ¬ nI 9 = 8 by decide), if_pos (show nI 9 = 9 from rfl), pls9 O1, Option.bind_some]
        rfl
    · refine ⟨nI kk, σ, τ1, ?_, ?_, R1⟩
      · exact congrArg (fun x => some (x, σ)) t1
      · exact congrArg (fun x => some (x, τ1)) t2
    · refine ⟨nI Lt, σ, τ1, ?_, ?_, R1⟩
      · exact congrArg (fun x => some (x, σ)) u1
      · exact congrArg (fun x => some (x, τ1)) u2
