/-! THE REFERENCE GATHERS -/
variable {τ0 : gM} {f : Nat → Int32} {w h n : Nat} {L : Nat → Int32}
theorem sp10 (O : OKf (τ0 125) w h n) (G : GI (τ0 125) w h n L) {x1 : Nat} (hx : x1 < n) (lx : L x1 = nI x1) (K2 : gM → Int32 → Option gM) : ∀ (d i m : Nat) (τ : gM) (fl : Int32), i + d = n → d < m → MI τ0 L n x1 τ → ∃ τ' fl', fX9_spreads_10 K2 124 m τ fl (nI i) = K2 τ' fl' ∧ MI τ0 L n x1 τ' ∧ MG L n τ fl τ' fl' ∧ (τ' 131 = τ 131 → ∀ s, i ≤ s → s < n → τ 131 s = nI (nRt L x1) → ∀ e, e < 4 → ∀ t, jn (τ0 125) w h n s e = some t → τ 131 t ≠ -1) := by
  have n12 := O.2.1.2.2.2.2
  intro d
  induction d with
  | zero =>
    intro i m τ fl hi hm M
    obtain ⟨m, rfl⟩ : ∃ q, m = q + 1 := ⟨m - 1, by omega⟩
    refine ⟨τ, fl, ?_, M, MG.rf rfl, fun _ s h1 h2 => by omega⟩
    rw [fX9_spreads_10, if_pos k12, show τ (124 + 1) (2 : Int32).toNatClampNeg = nI n by rw [cl_2, show τ (124 + 1) = τ0 125 from M.1.d]; exact O.1.2.2, if_pos (nI_le (by omega) (by omega))]
  | succ d ih =>
    intro i m τ fl hi hm M
    obtain ⟨m, rfl⟩ : ∃ q, m = q + 1 := ⟨m - 1, by omega⟩
    obtain ⟨τ1, fl1, p1, M1, G1, C1⟩ := sp22 O G hx lx (s := i) (by omega) K2 (fun σ2 y1 y2 => fX9_spreads_10 K2 124 m σ2 y1 y2) 4 0 gF τ fl rfl (gF_lt (by decide)) M
    obtain ⟨τ', fl', p, M', G', C⟩ := ih (i + 1) m τ1 fl1 (by omega) (by omega) M1
    refine ⟨τ', fl', ?_, M', G1.tr G', fun a s h1 h2 b e he t ht => ?_⟩
    · rw [fX9_spreads_10, if_pos k12, show τ (124 + 1) (2 : Int32).toNatClampNeg = nI n by rw [cl_2, show τ (124 + 1) = τ0 125 from M.1.d]; exact O.1.2.2, if_neg (nI_ge (by omega) (by omega))]
      exact p1.trans p
    · have e1 := G1.back G' a
      by_cases cs : s = i
      · subst cs
        exact C1 e1 b e (Nat.zero_le _) he t ht
      · have := C (a.trans e1.symm) s (by omega) h2 (by rw [e1]; exact b) e he t ht
        rw [e1] at this
        exact this
theorem sp2 (O : OKf (τ0 125) w h n) (G : GI (τ0 125) w h n L) {x1 : Nat} (hx : x1 < n) (lx : L x1 = nI x1) : ∀ (u m : Nat) (τ : gM), cU (τ 131) n ≤ u → u + 1 < m → MI τ0 L n x1 τ → ∃ τ', fX9_spreads_2 124 m τ 1 = some τ' ∧ MI τ0 L n x1 τ' ∧ (∀ x, τ 131 x ≠ -1 → τ' 131 x = τ 131 x) ∧ ∀ s, s < n → τ' 131 s = nI (nRt L x1) → ∀ e, e < 4 → ∀ t, jn (τ0 125) w h n s e = some t → τ' 131 t ≠ -1 := by
  intro u
  have n12 := O.2.1.2.2.2.2
  induction u with
  | zero =>
    intro m τ hc hm M
    obtain ⟨m, rfl⟩ : ∃ q, m = q + 2 := ⟨m - 2, by omega⟩
    obtain ⟨τ1, fl1, p1, M1, G1, C1⟩ := sp10 O G hx lx (fun σ2 y1 => fX9_spreads_2 124 (m + 1) σ2 y1) n 0 gF τ 0 (by omega) (gF_lt (by omega)) M
    rcases G1.2 with ⟨a1, a2⟩ | ⟨a1, a2⟩
    · refine ⟨τ1, ?_, M1, G1.1, fun s h2 b e he t ht => ?_⟩
      · rw [fX9_spreads_2, if_neg n10]
        refine p1.trans ?_
        show fX9_spreads_2 124 (m + 1) τ1 fl1 = _
        rw [fX9_spreads_2, if_pos a1]
      · rw [a2] at b ⊢
        exact C1 a2 s (Nat.zero_le _) h2 b e he t ht
    · omega
  | succ u ih =>
    intro m τ hc hm M
    obtain ⟨m, rfl⟩ : ∃ q, m = q + 2 := ⟨m - 2, by omega⟩
    obtain ⟨τ1, fl1, p1, M1, G1, C1⟩ := sp10 O G hx lx (fun σ2 y1 => fX9_spreads_2 124 (m + 1) σ2 y1) n 0 gF τ 0 (by omega) (gF_lt (by omega)) M
    rcases G1.2 with ⟨a1, a2⟩ | ⟨a1, a2⟩
    · refine ⟨τ1, ?_, M1, G1.1, fun s h2 b e he t ht => ?_⟩
      · rw [fX9_spreads_2, if_neg n10]
        refine p1.trans ?_
        show fX9_spreads_2 124 (m + 1) τ1 fl1 = _
        rw [fX9_spreads_2, if_pos a1]
      · rw [a2] at b ⊢
        exact C1 a2 s (Nat.zero_le _) h2 b e he t ht
    · obtain ⟨τ', p, M', A', C⟩ := ih (m + 1) τ1 (by omega) (by omega) M1
      refine ⟨τ', ?_, M', fun x hx => ?_, C⟩
      · rw [fX9_spreads_2, if_neg n10]
        refine p1.trans ?_
        rw [a1]
        exact p
      · have := G1.1 x hx
        rw [← this] at hx ⊢
        exact A' x hx
/-- the spread group is the whole of it -/
theorem MI.all (O : OKf (τ0 125) w h n) (G : GI (τ0 125) w h n L) {x1 : Nat} {τ : gM} (hx : x1 < n) (M : MI τ0 L n x1 τ) (C : ∀ s, s < n → τ 131 s = nI (nRt L x1) → ∀ e, e < 4 → ∀ t, jn (τ0 125) w h n s e = some t → τ 131 t ≠ -1) : ∀ s, s < n → L s = nI x1 → τ 131 s = nI (nRt L x1) := by
  have n12 := O.2.1.2.2.2.2
  have walk : ∀ q s, rch (Jn (τ0 125) w h n) q x1 s → L s = nI x1 → τ 131 s = nI (nRt L x1) := by
    intro q
    induction q with
    | zero =>
      intro s hr _
      rw [rch_0] at hr
      rw [← hr]
      exact M.2.2.1
    | succ q ih =>
      intro s hr hl
      rcases hr with hr | ⟨u, hr, hj⟩
      · exact ih s hr hl
      · have hu := ih u hr ((G.2.2 u s hj).trans hl)
        obtain ⟨h1, h2, -, -⟩ := hj.lies O
        obtain ⟨-, e, he, hje⟩ := id hj
        have c := C u h1 hu e he s hje
        rcases M.2.2.2 s h2 with q | ⟨r, r1, r2, r3, r4⟩
        · exact absurd q c
        · have : r = x1 := by
            have hr : r < 2 ^ 31 := by omega
            exact (nI_eq hr (by omega)).mp (r1.symm.trans hl)
          rw [r4, this]
  intro s hs hl
  have ls : τ0 125 (123 + s) ≠ -1 := fun q => by
    rw [G.1 s hs q] at hl
    exact m1_ne' (by omega) hl
  obtain ⟨a, q, a1, a2, a3, a4, a5, a6⟩ := G.2.1 s hs ls
  have : a = x1 := (nI_eq (by omega) (by omega)).mp (a1.symm.trans hl)
  subst this
  exact walk q s a5 hl
/-- groups up to i are told -/
def OI (τ0 : gM) (L : Nat → Int32) (n i : Nat) (τ : gM) : Prop := MF τ0 τ ∧ τ 124 9 = nI (nRt L i) ∧ ∀ s, s < n → (L s = -1 → τ 131 s = -1) ∧ ∀ r, r < 12 → L s = nI r → τ 131 s = if r < i then nI (nRt L r) else -1
theorem g28 (O : OKf (τ0 125) w h n) (G : GI (τ0 125) w h n L) : ∀ (d i m : Nat) (τ : gM), i + d = n → d < m → OI τ0 L n i τ → ∃ τ', fX9_gathers_28 124 m τ (nI i) = some τ' ∧ OI τ0 L n n τ' := by
  have n12 := O.2.1.2.2.2.2
  intro d
  induction d with
  | zero =>
    intro i m τ hi hm M
    obtain ⟨m, rfl⟩ : ∃ q, m = q + 1 := ⟨m - 1, by omega⟩
    obtain rfl : i = n := by omega
    refine ⟨τ, ?_, M⟩
    rw [fX9_gathers_28, if_pos k12, show τ (124 + 1) (2 : Int32).toNatClampNeg = nI i by rw [cl_2, show τ (124 + 1) = τ0 125 from M.1.d]; exact O.1.2.2, if_pos (Int32.le_refl _)]
  | succ d ih =>
    intro i m τ hi hm M
    obtain ⟨m, rfl⟩ : ∃ q, m = q + 1 := ⟨m - 1, by omega⟩
    have e5 := M.1.d
    have bi := nRt_le L i
    have notroot : L i ≠ nI i → OI τ0 L n (i + 1) τ := by
      intro hl
      refine ⟨M.1, ?_, fun s hs => ⟨(M.2.2 s hs).1, fun r hr hL => ?_⟩⟩
      · rw [nRt_s, show gRt L i (nRt L i) = nRt L i from if_neg hl]
        exact M.2.1
      · have := (M.2.2 s hs).2 r hr hL
        by_cases c : r < i
        · rw [if_pos c] at this
          rw [if_pos (by omega), this]
        · have c2 : r ≠ i := fun q => by
            have ls : τ0 125 (123 + s) ≠ -1 := fun z => by
              rw [G.1 s hs z] at hL
              exact m1_ne' (by omega) hL
            obtain ⟨a, -, a1, -, a3, -, -, a6⟩ := G.2.1 s hs ls
            have : a = r := (nI_eq (by omega) (by omega)).mp (a1.symm.trans hL)
            rw [this, q] at a6
            exact hl a6
          rw [if_neg c] at this
          rw [if_neg (by omega), this]
    rw [fX9_gathers_28, if_pos k12, show τ (124 + 1) (2 : Int32).toNatClampNeg = nI n by rw [cl_2, show τ (124 + 1) = τ0 125 from e5]; exact O.1.2.2, if_neg (nI_ge (by omega) (by omega)), on9' (by omega), Option.bind_some, e5]
    by_cases c0 : τ0 125 (123 + i) = -1
    · have hl : L i ≠ nI i := fun q => by
        rw [G.1 i (by omega) c0] at q
        exact m1_ne' (by omega) q
      rw [if_pos c0, if_pos rfl, gl_e, nIa1]
      exact ih (i + 1) m τ (by omega) (by omega) (notroot hl)
    · obtain ⟨a, q, a1, a2, a3, a4, a5, a6⟩ := G.2.1 i (by omega) c0
      have v := (M.2.2 i (by omega)).2 a (by omega) a1
      rw [if_neg c0, if_neg n10, if_pos (c131 (by omega)), nI_cl (n := i) (by omega)]
      by_cases c1 : a < i
      · have hl : L i ≠ nI i := fun q => by
          have := (nI_eq (show a < 2 ^ 31 by omega) (show i < 2 ^ 31 by omega)).mp (a1.symm.trans q)
          omega
        have ba := nRt_le L a
        rw [if_pos c1] at v
        rw [if_neg (show ¬ τ (124 + 7) i = -1 from fun q => m1_ne (show nRt L a < 2 ^ 31 by omega) (v.symm.trans q)), gl_e, nIa1]
        exact ih (i + 1) m τ (by omega) (by omega) (notroot hl)
      · obtain rfl : a = i := by omega
        rw [if_neg c1] at v
        have M0 : MI τ0 L n a (gset τ 131 (upd (τ 131) a (nI (nRt L a)))) := by
          refine ⟨M.1.g, by rw [gset_ne (by decide)]; exact M.2.1, by rw [gset_at, pk_us], fun s hs => ?_⟩
          rw [gset_at]
          by_cases cs : s = a
          · rw [cs, pk_us]
            exact Or.inr ⟨a, a1, Nat.le_refl _, a1, rfl⟩
          · rw [pk_un cs]
            by_cases cl : τ0 125 (123 + s) = -1
            · exact Or.inl ((M.2.2 s hs).1 (G.1 s hs cl))
            · obtain ⟨b, -, b1, b2, b3, -, -, b6⟩ := G.2.1 s hs cl
              have vb := (M.2.2 s hs).2 b (by omega) b1
              by_cases cb : b < a
              · rw [if_pos cb] at vb
                exact Or.inr ⟨b, b1, by omega, b6, vb⟩
              · rw [if_neg cb] at vb
                exact Or.inl vb
        obtain ⟨τ1, p1, M1, A1, C1⟩ := sp2 O G (by omega) a1 n gF _ (cU_le _ n) (gF_lt (by omega)) M0
        have all := M1.all O G (by omega) C1
        have N : OI τ0 L n (a + 1) (gset τ1 124 (upd (τ1 124) 9 (nI (nRt L (a + 1))))) := by
          refine ⟨M1.1.n, by rw [gset_at, pk_us], fun s hs => ⟨fun hl => ?_, fun r hr hL => ?_⟩⟩
          · rw [gset_ne (by decide)]
            rcases M1.2.2.2 s hs with z | ⟨r, r1, r2, -⟩
            · exact z
            · rw [hl] at r1
              exact absurd r1 (m1_ne' (by omega))
          · rw [gset_ne (by decide)]
            by_cases cr : r < a + 1
            · rw [if_pos cr]
              by_cases cr2 : r = a
              · subst cr2
                exact all s hs hL
              · have vs := (M.2.2 s hs).2 r hr hL
                have br := nRt_le L r
                rw [if_pos (by omega)] at vs
                have sa : s ≠ a := fun z => by
                  rw [z] at hL
                  exact cr2 ((nI_eq (by omega) (by omega)).mp (hL.symm.trans a1))
                have v0 : gset τ 131 (upd (τ 131) a (nI (nRt L a))) 131 s = nI (nRt L r) := by rw [gset_at, pk_un sa, vs]
                rw [A1 s (by rw [v0]; exact m1_ne (by omega)), v0]
            · rw [if_neg cr]
              rcases M1.2.2.2 s hs with z | ⟨r', r1, r2, -⟩
              · exact z
              · have := (nI_eq (by omega) (by omega)).mp (r1.symm.trans hL)
                omega
        have e9 : nI (nRt L a) + 1 = nI (nRt L (a + 1)) := by
          rw [nIa1, nRt_s, show gRt L a (nRt L a) = nRt L a + 1 from if_pos a1]
        rw [if_pos (show τ (124 + 7) a = -1 from v), if_pos (c131b (by omega)), gl_e, show τ 124 9 = _ from M.2.1]
        unfold fX9_spreads
        rw [show fX9_spreads_2 124 gF (gset τ (124 + 7) (upd (τ (124 + 7)) a (nI (nRt L a)))) 1 = _ from p1, Option.bind_some, gl_e, gl_e, M1.2.1, nIa1 a, e9]
        exact ih (a + 1) m _ (by omega) (by omega) N
theorem g2L : ∀ (d i m : Nat) (τ : gM), i + d = 12 → d < m → MF τ0 τ → (∀ s, s < i → τ 131 s = -1) → ∃ τ', fX9_gathers_2 124 m τ (nI i) = fX9_gathers_28 124 gF τ' 0 ∧ MF τ0 τ' ∧ τ' 124 9 = 0 ∧ ∀ s, s < 12 → τ' 131 s = -1 := by
  intro d
  induction d with
  | zero =>
    intro i m τ hi hm M H
    obtain ⟨m, rfl⟩ : ∃ q, m = q + 1 := ⟨m - 1, by omega⟩
    obtain rfl : i = 12 := by omega
    refine ⟨gset τ 124 (upd (τ 124) 9 0), ?_, M.n, by rw [gset_at, pk_us], fun s hs => by rw [gset_ne (by decide)]; exact H s hs⟩
    rw [fX9_gathers_2, if_pos (show (12 : Int32) ≤ nI 12 by decide), gl_e]
  | succ d ih =>
    intro i m τ hi hm M H
    obtain ⟨m, rfl⟩ : ∃ q, m = q + 1 := ⟨m - 1, by omega⟩
    obtain ⟨τ', p, r⟩ := ih (i + 1) m (gset τ 131 (upd (τ 131) i (-1))) (by omega) (by omega) M.g (fun s hs => by
      rw [gset_at]
      by_cases c : s = i
      · rw [c, pk_us]
      · rw [pk_un c]; exact H s (by omega))
    refine ⟨τ', ?_, r⟩
    rw [fX9_gathers_2, if_neg (show ¬ (12 : Int32) ≤ nI i from nI_ge (b := 12) (by omega) (by decide)), if_pos (c131 (by omega)), gl_e, gl_e, nI_cl (n := i) (by omega), nIa1]
    exact p
theorem gat9 (O : OKf (τ0 125) w h n) (G : GI (τ0 125) w h n L) : ∃ τ', fX9_gathers τ0 124 = some τ' ∧ OI τ0 L n n τ' := by
  have n12 := O.2.1.2.2.2.2
  obtain ⟨τ1, p1, M1, z1, H1⟩ := g2L (τ0 := τ0) 12 0 gF τ0 rfl (gF_lt (by decide)) MF.rf (fun s hs => by omega)
  obtain ⟨τ2, p2, M2⟩ := g28 O G n 0 gF τ1 (by omega) (gF_lt (by omega)) ⟨M1, z1, fun s hs => ⟨fun _ => H1 s (by omega), fun r hr _ => by rw [if_neg (by omega)]; exact H1 s (by omega)⟩⟩
  exact ⟨τ2, p1.trans p2, M2⟩
theorem RR.grp {σ τ σ' τ' : gM} (R : RR σ τ) (A : ∀ c, c ≠ 108 → c ≠ 110 → σ' c = σ c) (M : MF τ τ') : RR σ' τ' := by
  have R1 : RR σ' τ := R.cls (fun k hk => A k (by omega) (by omega)) (by rw [A 111 (by decide) (by decide)]) (A 113 (by decide) (by decide))
  exact R1.ref M.d (M.1 126 (by decide) (by decide) (by decide) (by decide)) (M.1 127 (by decide) (by decide) (by decide) (by decide)) (M.2 2 (by decide)) (M.2 4 (by decide))
