/-! ADDSCRAP -/
theorem in999 (x : Int32) : inI x (-1) 999 = 0 ∨ (inI x (-1) 999 = 1 ∧ pv x) := by
  unfold inI
  by_cases c1 : x < -1
  · exact Or.inl (if_pos c1)
  · by_cases c2 : 999 < x
    · rw [if_neg c1, if_pos c2]
      exact Or.inl rfl
    · rw [if_neg c1, if_neg c2]
      refine Or.inr ⟨rfl, ?_⟩
      have e1 : ¬ x.toInt < -1 := fun q => c1 (Int32.lt_iff_toInt_lt.mpr q)
      have e2 : ¬ 999 < x.toInt := fun q => c2 (Int32.lt_iff_toInt_lt.mpr q)
      by_cases c3 : x < 0
      · have e3 : x.toInt < 0 := Int32.lt_iff_toInt_lt.mp c3
        refine Or.inl ?_
        have : x.toInt = (-1 : Int32).toInt := by
          show x.toInt = -1
          omega
        exact Int32.toInt_inj.mp this
      · obtain ⟨j, hj, rfl⟩ := nI_of (x := x) c3
        rw [nI_toInt hj] at e2
        exact Or.inr ⟨j, by omega, rfl⟩
theorem ipr8 {σ : gM} {x : Int32} : fX8_isProfile σ x = some (inI x (-1) 999) := by
  unfold fX8_isProfile
  rw [in8e, Option.bind_some, if_pos (inI_01 _ _ _)]
/-- the draft of addScrap -/
def dA5 (a1 a2 a3 a4 a5 : Int32) (j : Nat) : Int32 := if j = 0 then a1 else if j = 1 then a2 else if j = 2 then a3 else if j = 3 then a4 else if j = 8 then a5 else 0
theorem se1 {σ : gM} {e : Nat} {a b : Int32} (he : e < 4) : fX1_setEdge σ 119 (nI e) a b = some (gset (gset σ 121 (upd (σ 121) e a)) 123 (upd (σ 123) e b)) := by
  unfold fX1_setEdge
  rw [set_in (show e < gln (119 + 1 + 1) by rw [show gln (119 + 1 + 1) = 4 by decide]; exact he), Option.bind_some, set_in (show e < gln (119 + 3 + 1) by rw [show gln (119 + 3 + 1) = 4 by decide]; exact he), Option.bind_some, show gset σ (119 + 1 + 1) (upd (σ (119 + 1 + 1)) e a) (119 + 3 + 1) = σ 123 from gset_ne (by decide)]
theorem as91 {a1 a2 a3 a4 a5 : Int32} : ∀ (d i m : Nat) (τ : gM), i + d = 8 → 4 ≤ i → d < m → τ 130 0 = a1 → τ 130 1 = a2 → τ 130 2 = a3 → τ 130 3 = a4 → (∀ x, 4 ≤ x → x < i → τ 130 x = 0) → ∃ τ', fX9_addScrap_91 124 a1 a2 a3 a4 a5 m τ (nI i) = ((fX9_adds τ' 124).bind fun pv22 => gl pv22.1 fun v22 => gl pv22.2 fun σ23 => some (v22, σ23)) ∧ (∀ c, c ≠ 130 → τ' c = τ c) ∧ ∀ x, x < 9 → τ' 130 x = dA5 a1 a2 a3 a4 a5 x := by
  intro d
  induction d with
  | zero =>
    intro i m τ hi h4 hm b0 b1 b2 b3 b4
    obtain ⟨m, rfl⟩ : ∃ q, m = q + 1 := ⟨m - 1, by omega⟩
    obtain rfl : i = 8 := by omega
    refine ⟨gset τ 130 (upd (τ 130) 8 a5), ?_, fun c hc => gset_ne hc, fun x hx => ?_⟩
    · rw [fX9_addScrap_91, if_pos i8e, if_pos k68, gl_e, cl_8]
    · rw [gset_at]
      unfold dA5
      rcases (show x = 0 ∨ x = 1 ∨ x = 2 ∨ x = 3 ∨ x = 8 ∨ (4 ≤ x ∧ x < 8) by omega) with rfl | rfl | rfl | rfl | rfl | q
      · exact (pk_un (by decide)).trans b0
      · exact (pk_un (by decide)).trans b1
      · exact (pk_un (by decide)).trans b2
      · exact (pk_un (by decide)).trans b3
      · exact pk_us
      · rw [pk_un (by omega), b4 x q.1 q.2, if_neg (by omega), if_neg (by omega), if_neg (by omega), if_neg (by omega), if_neg (by omega)]
  | succ d ih =>
    intro i m τ hi h4 hm b0 b1 b2 b3 b4
    obtain ⟨m, rfl⟩ : ∃ q, m = q + 1 := ⟨m - 1, by omega⟩
    obtain ⟨τ', p, a, b⟩ := ih (i + 1) m (gset τ 130 (upd (τ 130) i 0)) (by omega) (by omega) (by omega) (by rw [gset_at, pk_un (by omega)]; exact b0) (by rw [gset_at, pk_un (by omega)]; exact b1) (by rw [gset_at, pk_un (by omega)]; exact b2) (by rw [gset_at, pk_un (by omega)]; exact b3) (fun x h1 h2 => by
      rw [gset_at]
      by_cases c : x = i
      · rw [c, pk_us]
      · rw [pk_un c]; exact b4 x h1 (by omega))
    refine ⟨τ', ?_, fun c hc => (a c hc).trans (gset_ne hc), b⟩
    rw [fX9_addScrap_91, if_neg (i8 (by omega)), if_pos (c130 (by omega)), gl_e, gl_e, nI_cl (n := i) (by omega), nIa1]
    exact p
theorem step_addScrap : gs_addScrap RR := by
  intro σ τ a1 a2 a3 a4 a5 R
  obtain ⟨w, h, n, D⟩ := R.1
  have O := D.2.1
  have n12 := O.2.1.2.2.2.2
  unfold fX8_addScrap fX9_addScrap
  rw [ipr8, in9e, Option.bind_some, Option.bind_some]
  rcases in999 a1 with c | ⟨c, v1⟩
  · rw [c, if_pos rfl, if_pos rfl]
    exact ⟨_, _, _, rfl, rfl, R⟩
  · rw [c, if_neg n10, if_neg n10, ipr8, in9e, Option.bind_some, Option.bind_some]
    rcases in999 a2 with c | ⟨c, v2⟩
    · rw [c, if_pos rfl, if_pos rfl]
      exact ⟨_, _, _, rfl, rfl, R⟩
    · rw [c, if_neg n10, if_neg n10, ipr8, in9e, Option.bind_some, Option.bind_some]
      rcases in999 a3 with c | ⟨c, v3⟩
      · rw [c, if_pos rfl, if_pos rfl]
        exact ⟨_, _, _, rfl, rfl, R⟩
      · rw [c, if_neg n10, if_neg n10, ipr8, in9e, Option.bind_some, Option.bind_some]
        rcases in999 a4 with c | ⟨c, v4⟩
        · rw [c, if_pos rfl, if_pos rfl]
          exact ⟨_, _, _, rfl, rfl, R⟩
        · rw [c, if_neg n10, if_neg n10, in8e, in9e, Option.bind_some, Option.bind_some]
          rcases in1 a5 with c | ⟨q, hq, hq5, c⟩
          · rw [c, if_pos rfl, if_pos rfl]
            exact ⟨_, _, _, rfl, rfl, R⟩
          · have v5 : a5 = 0 ∨ a5 = 1 := by
              rcases (show q = 0 ∨ q = 1 by omega) with rfl | rfl
              · exact Or.inl hq5
              · exact Or.inr hq5
            obtain ⟨τ1, p1, A1, B1⟩ := as91 (a1 := a1) (a2 := a2) (a3 := a3) (a4 := a4) (a5 := a5) 4 4 gF (gset τ 130 (upd (upd (upd (upd (τ 130) 0 a1) 1 a2) 2 a3) 3 a4)) rfl (by decide) (gF_lt (by decide)) (by rw [gset_at]; rfl) (by rw [gset_at]; rfl) (by rw [gset_at]; rfl) (by rw [gset_at]; rfl) (fun x h1 h2 => by omega)
            have far : ∀ c, c ≠ 130 → τ1 c = τ c := fun c hc => (A1 c hc).trans (gset_ne hc)
            have e5 : τ1 125 = τ 125 := far 125 (by decide)
            have R1 : RR σ τ1 := R.ref e5 (far 126 (by decide)) (far 127 (by decide)) (by rw [far 124 (by decide)]) (by rw [far 124 (by decide)])
            have D1 : DDo σ 1 (τ1 125) w h n := by rw [e5]; exact D
            rw [c, if_neg n10, if_neg n10, show fX6_size σ (0 + 1 + 1) = _ from siz8 D, Option.bind_some, if_pos (show ¬ ((0 : Int32) < 0 ∨ gln (124 + 6) ≤ (0 : Int32).toNatClampNeg) by decide), gl_e, if_pos (show ¬ ((1 : Int32) < 0 ∨ gln (124 + 6) ≤ (1 : Int32).toNatClampNeg) by decide), gl_e, if_pos (show ¬ ((2 : Int32) < 0 ∨ gln (124 + 6) ≤ (2 : Int32).toNatClampNeg) by decide), gl_e, if_pos (show ¬ ((3 : Int32) < 0 ∨ gln (124 + 6) ≤ (3 : Int32).toNatClampNeg) by decide), gl_e, cl_0, cl_1, cl_2, show (3 : Int32).toNatClampNeg = 3 by decide, show (124 + 6 : Nat) = 130 from rfl, gset_at, gset2, gset_at, gset2, gset_at, gset2, show fX9_addScrap_91 124 a1 a2 a3 a4 a5 gF _ 4 = _ from p1]
            by_cases cn : n = 12
            · subst cn
              rw [if_neg (show ¬ nI 12 < 12 by decide), adds_full (by rw [e5]; exact O.1.2.2), bp]
              exact ⟨_, _, _, rfl, rfl, R1⟩
            · have hn : n < 12 := by omega
              have key : ∃ s5, (((fX1_setEdge σ (0 + 119) 0 a1 0).bind fun σ14 => ((fX1_setEdge σ14 (0 + 119) 1 a2 0).bind fun σ16 => ((fX1_setEdge σ16 (0 + 119) 2 a3 0).bind fun σ18 => ((fX1_setEdge σ18 (0 + 119) 3 a4 0).bind fun σ20 => ((fX1_setKind σ20 (0 + 119) a5).bind fun σ22 => ((fX8_append σ22 0 (0 + 119)).bind fun pv23 => gl pv23.1 fun v23 => gl pv23.2 fun σ24 => some (v23, σ24))))))) = (fX8_append s5 0 119).bind fun pv23 => gl pv23.1 fun v23 => gl pv23.2 fun σ24 => some (v23, σ24)) ∧ (∀ c, c ≠ 119 → c ≠ 121 → c ≠ 123 → s5 c = σ c) ∧ (s5 121 0 = a1 ∧ s5 121 1 = a2 ∧ s5 121 2 = a3 ∧ s5 121 3 = a4) ∧ (s5 123 0 = 0 ∧ s5 123 1 = 0 ∧ s5 123 2 = 0 ∧ s5 123 3 = 0) ∧ s5 119 2 = a5 := by
                refine ⟨gset (gset (gset σ 121 (upd (upd (upd (upd (σ 121) 0 a1) 1 a2) 2 a3) 3 a4)) 123 (upd (upd (upd (upd (σ 123) 0 0) 1 0) 2 0) 3 0)) 119 (upd (σ 119) 2 a5), ?_, fun c h1 h2 h3 => by rw [gset_ne h1, gset_ne h3, gset_ne h2], ⟨rfl, rfl, rfl, rfl⟩, ⟨rfl, rfl, rfl, rfl⟩, rfl⟩
                have s2 : ∀ (a b c d e : Nat → Int32), gset (gset (gset (gset σ 121 a) 123 b) 121 c) 123 d = gset (gset σ 121 c) 123 d := by
                  intro a b c d e
                  funext x
                  by_cases x1 : x = 123
                  · rw [x1, gset_at, gset_at]
                  · by_cases x2 : x = 121
                    · rw [x2, gset_ne (by decide), gset_at, gset_ne (by decide), gset_at]
                    · rw [gset_ne x1, gset_ne x2, gset_ne x1, gset_ne x2, gset_ne x1, gset_ne x2]
                have g1 : ∀ (a b : Nat → Int32), gset (gset σ 121 a) 123 b 121 = a := fun a b => by rw [gset_ne (by decide), gset_at]
                have g3 : ∀ (a b : Nat → Int32), gset (gset σ 121 a) 123 b 123 = b := fun a b => by rw [gset_at]
                unfold fX1_setKind
                rw [show (0 + 119 : Nat) = 119 from rfl, show fX1_setEdge σ 119 0 a1 0 = _ from se1 (e := 0) (by decide), Option.bind_some, show ∀ s : gM, fX1_setEdge s 119 1 a2 0 = _ from fun s => se1 (e := 1) (by decide), Option.bind_some, g1, g3, s2 _ _ _ _ (fun _ => 0), show ∀ s : gM, fX1_setEdge s 119 2 a3 0 = _ from fun s => se1 (e := 2) (by decide), Option.bind_some, g1, g3, s2 _ _ _ _ (fun _ => 0), show ∀ s : gM, fX1_setEdge s 119 3 a4 0 = _ from fun s => se1 (e := 3) (by decide), Option.bind_some, g1, g3, s2 _ _ _ _ (fun _ => 0), gl_e, Option.bind_some]
                rfl
              obtain ⟨s5, k1, k2, ⟨x0, x1, x2, x3⟩, ⟨y0, y1, y2, y3⟩, z5⟩ := key
              have R5 : RR s5 τ1 := R1.cls (fun k hk => k2 k (by omega) (by omega) (by omega)) (by rw [k2 111 (by decide) (by decide) (by decide)]) (k2 113 (by decide) (by decide) (by decide))
              have D5 : DDo s5 1 (τ1 125) w h n := D1.mv (fun c _ h2 => k2 c (by omega) (by omega) (by omega))
              have A5 : DR s5 119 (τ1 130) := by
                refine ⟨fun x hx => ?_, fun x hx => ?_, ?_⟩
                · rw [B1 x (by omega)]
                  rcases (show x = 0 ∨ x = 1 ∨ x = 2 ∨ x = 3 by omega) with rfl | rfl | rfl | rfl
                  · exact x0
                  · exact x1
                  · exact x2
                  · exact x3
                · rw [B1 (4 + x) (by omega)]
                  rcases (show x = 0 ∨ x = 1 ∨ x = 2 ∨ x = 3 by omega) with rfl | rfl | rfl | rfl
                  · exact y0
                  · exact y1
                  · exact y2
                  · exact y3
                · rw [B1 8 (by decide)]
                  exact z5
              obtain ⟨σ', τ', r8, r9, R'⟩ := app_both R5 D5 hn gR_2 A5 (fun e he => by
                rw [B1 e (by omega)]
                rcases (show e = 0 ∨ e = 1 ∨ e = 2 ∨ e = 3 by omega) with rfl | rfl | rfl | rfl
                · exact v1
                · exact v2
                · exact v3
                · exact v4) (by rw [B1 8 (by decide)]; exact v5)
              rw [if_pos (show nI n < 12 from nI_lt (b := 12) hn (by decide)), k1, r8, bp, r9, bp]
              exact ⟨_, _, _, rfl, rfl, R'⟩
