/-! p25: ADDSCRAP -/
variable {n o1 k w h : Nat} {f dr : Nat → Int32} {g : Nat → Nat → Int32}
theorem app_8 {σ : gM} (P : PP σ f w h n k g) (hn : n < 12) (G : gR o1) (A : DR σ o1 dr) (hp : ∀ e, e < 4 → pv (dr e)) (hk : dr 8 = 0 ∨ dr 8 = 1) : ∃ σ', fX8_append σ 0 o1 = some (nI n, σ') ∧ PP σ' (qF f n dr) w h (n + 1) (kN k) (kG k g f) := by
  have D := P.1
  obtain ⟨σ1, q8, K, H1, D1⟩ := kep P
  have gg := G.2.2
  have O' := okf_app D1.2.1 hn hp hk
  obtain ⟨-, O, ⟨z1, z2, z3⟩, y1, y2, y3, y4, y5⟩ := id D1
  have A1 : DR σ1 o1 (dr) := A.mv (K _ (by omega)) (K _ (by omega)) (K _ (by omega))
  obtain ⟨σ2, p8, a8, b8, c8, d8⟩ := ap27 G hn 8 0 gF (gset σ1 4 (upd (σ1 4) n (dr 8))) rfl (gF_lt (by decide)) (by rw [gset_ne (by decide)]; exact z1) (A1.mv (gset_ne (by omega)) (gset_ne (by omega)) (gset_ne (by omega)))
  refine ⟨σ2, ?_, ?_, H1.mv (fun c h1 h2 => (a8 c (by omega) (by omega) (by omega)).trans (gset_ne (by omega)))⟩
  · unfold fX8_append fX6_append
    rw [show fX3_keep σ (0 + 31) (0 + 1) = _ from q8, Option.bind_some, show σ1 (0 + 1 + 1) 3 = nI n from z1, if_pos (show nI n < 12 from nI_lt (b := 12) hn (by decide)), show fX1_kind σ1 o1 = some (dr 8) from congrArg some A1.2.2, Option.bind_some, set_in (show n < gln (0 + 1 + 1 + 1 + 1) by rw [show gln (0 + 1 + 1 + 1 + 1) = 12 by decide]; exact hn), Option.bind_some, show fX6_append_27 (0 + 1 + 1) o1 gF (gset σ1 (0 + 1 + 1 + 1 + 1) (upd (σ1 (0 + 1 + 1 + 1 + 1)) n (dr 8))) 0 = _ from p8, Option.bind_some, show fX6_size σ2 (0 + 1 + 1) = some (nI (n + 1)) from congrArg some b8, Option.bind_some, show nI (n + 1) - 1 = nI n from nI_pred n]
  · refine ⟨gD_1, O', ⟨b8, ?_, ?_⟩, ?_, ?_, ?_, ?_, ?_⟩
    · rw [a8 (1 + 8) (by decide) (by decide) (by decide), gset_ne (by decide)]
      exact z2
    · rw [a8 (1 + 8) (by decide) (by decide) (by decide), gset_ne (by decide)]
      exact z3
    · intro s hs
      rw [a8 (1 + 3) (by decide) (by decide) (by decide)]
      show gset σ1 4 (upd (σ1 4) n (dr 8)) 4 s = _
      rw [gset_at]
      by_cases cs : s = n
      · rw [cs, pk_us, qF_k hn]
      · rw [pk_un cs, qF_lo hn (by omega) (by omega) (by omega) (by omega) (by omega) (by omega)]
        exact y1 s (by omega)
    · intro s o e hs ho he
      have hg := og_lt o e
      by_cases cs : s = n
      · subst cs
        have := c8 o e (Nat.zero_le _) ho he
        refine ⟨this.1.trans ?_, this.2.trans ?_⟩
        · unfold PV tP
          rw [qF_p hn hg]
        · unfold LV tL
          rw [qF_k hn, qF_l hn hg]
      · have h2 := d8 (s * 32 + o * 4 + e) (by omega)
        have h3 := y2 s o e (by omega) ho he
        have e6 : gset σ1 4 (upd (σ1 4) n (dr 8)) 6 = σ1 6 := gset_ne (by decide)
        have e8 : gset σ1 4 (upd (σ1 4) n (dr 8)) 8 = σ1 8 := gset_ne (by decide)
        rw [e6, e8] at h2
        refine ⟨h2.1.trans (h3.1.trans ?_), h2.2.trans (h3.2.trans ?_)⟩
        · unfold tP
          rw [qF_lo hn (by omega) (by omega) (by omega) (by omega) (by omega) (by omega)]
        · unfold tL
          rw [qF_lo hn (by omega) (by omega) (by omega) (by omega) (by omega) (by omega), qF_lo hn (by omega) (by omega) (by omega) (by omega) (by omega) (by omega)]
    · intro s hs
      rw [a8 (1 + 10) (by decide) (by decide) (by decide), gset_ne (by decide)]
      refine (y3 s hs).trans ?_
      by_cases c1 : s < n
      · rw [if_pos c1, if_pos (by omega), qF_lo hn (by omega) (by omega) (by omega) (by omega) (by omega) (by omega)]
      · rw [if_neg c1]
        by_cases c2 : s < n + 1
        · rw [if_pos c2, show s = n by omega, qF_pl hn]
        · rw [if_neg c2]
    · intro s hs
      rw [a8 (1 + 12) (by decide) (by decide) (by decide), gset_ne (by decide)]
      refine (y4 s hs).trans ?_
      by_cases c1 : s < n
      · rw [if_pos c1, if_pos (by omega), qF_lo hn (by omega) (by omega) (by omega) (by omega) (by omega) (by omega)]
      · rw [if_neg c1]
        by_cases c2 : s < n + 1
        · rw [if_pos c2, show s = n by omega, qF_or hn]
        · rw [if_neg c2]
    · intro k hk'
      rw [a8 (1 + 14) (by decide) (by decide) (by decide), gset_ne (by decide), sc_app O' hn hk']
      exact y5 k hk'
theorem add_p {σ : gM} {a1 a2 a3 a4 a5 : Int32} (P : PP σ f w h n k g) (hn : n < 12) (v1 : pv a1) (v2 : pv a2) (v3 : pv a3) (v4 : pv a4) (v5 : a5 = 0 ∨ a5 = 1) : ∃ σ', fX8_addScrap σ 0 a1 a2 a3 a4 a5 = some (nI n, σ') ∧ PP σ' (qF f n (dA5 a1 a2 a3 a4 a5)) w h (n + 1) (kN k) (kG k g f) := by
  have D := P.1
  have key : ∃ s5, (((fX1_setEdge σ (0 + 119) 0 a1 0).bind fun σ14 => ((fX1_setEdge σ14 (0 + 119) 1 a2 0).bind fun σ16 => ((fX1_setEdge σ16 (0 + 119) 2 a3 0).bind fun σ18 => ((fX1_setEdge σ18 (0 + 119) 3 a4 0).bind fun σ20 => ((fX1_setKind σ20 (0 + 119) a5).bind fun σ22 => ((fX8_append σ22 0 (0 + 119)).bind fun pv23 => gl pv23.1 fun v23 => gl pv23.2 fun σ24 => some (v23, σ24))))))) = (fX8_append s5 0 119).bind fun pv23 => gl pv23.1 fun v23 => gl pv23.2 fun σ24 => some (v23, σ24)) ∧ (∀ c, c ≠ 119 → c ≠ 121 → c ≠ 123 → s5 c = σ c) ∧ (s5 121 0 = a1 ∧ s5 121 1 = a2 ∧ s5 121 2 = a3 ∧ s5 121 3 = a4) ∧ (s5 123 0 = 0 ∧ s5 123 1 = 0 ∧ s5 123 2 = 0 ∧ s5 123 3 = 0) ∧ s5 119 2 = a5 := by
    refine ⟨gset (gset (gset σ 121 (upd (upd (upd (upd (σ 121) 0 a1) 1 a2) 2 a3) 3 a4)) 123 (upd (upd (upd (upd (σ 123) 0 0) 1 0) 2 0) 3 0)) 119 (upd (σ 119) 2 a5), ?_, fun c h1 h2 h3 => by rw [gset_ne h1, gset_ne h3, gset_ne h2], ⟨rfl, rfl, rfl, rfl⟩, ⟨rfl, rfl, rfl, rfl⟩, rfl⟩
    have s2 : ∀ (a b c d e : Nat → Int32), gset (gset (gset (gset σ 121 a) 123 b) 121 c) 123 d = gset (gset σ 121 c) 123 d := by
      intro a b c d e
      funext x
      by_cases x1 : x = 123
      · rw [x1, gset_at, gset_at]
      · by_cases x2 : x = 121
        · rw [x2, gset_ne (by decide), gset_at, gset_ne (by decide), gset_at]
        · rw [gset_ne x1, gset_ne x2, gset_ne x1, gset_ne x2, gset_ne x1, gset_ne x2]
    have g1 : ∀ (a b : Nat → Int32), gset (gset σ 121 a) 123 b 121 = a := fun a b => by rw [gset_ne (by decide), gset_at]
    have g3 : ∀ (a b : Nat → Int32), gset (gset σ 121 a) 123 b 123 = b := fun a b => by rw [gset_at]
    unfold fX1_setKind
    rw [show (0 + 119 : Nat) = 119 from rfl, show fX1_setEdge σ 119 0 a1 0 = _ from se1 (e := 0) (by decide), Option.bind_some, show ∀ s : gM, fX1_setEdge s 119 1 a2 0 = _ from fun s => se1 (e := 1) (by decide), Option.bind_some, g1, g3, s2 _ _ _ _ (fun _ => 0), show ∀ s : gM, fX1_setEdge s 119 2 a3 0 = _ from fun s => se1 (e := 2) (by decide), Option.bind_some, g1, g3, s2 _ _ _ _ (fun _ => 0), show ∀ s : gM, fX1_setEdge s 119 3 a4 0 = _ from fun s => se1 (e := 3) (by decide), Option.bind_some, g1, g3, s2 _ _ _ _ (fun _ => 0), gl_e, Option.bind_some]
    rfl
  obtain ⟨s5, k1, k2, ⟨x0, x1, x2, x3⟩, ⟨y0, y1, y2, y3⟩, z5⟩ := key
  have P5 : PP s5 f w h n k g := ⟨D.mv (fun c _ h2 => k2 c (by omega) (by omega) (by omega)), P.2.mv (fun c _ h2 => k2 c (by omega) (by omega) (by omega))⟩
  have A5 : DR s5 119 (dA5 a1 a2 a3 a4 a5) := by
    refine ⟨fun x hx => ?_, fun x hx => ?_, z5⟩
    · rcases (show x = 0 ∨ x = 1 ∨ x = 2 ∨ x = 3 by omega) with rfl | rfl | rfl | rfl
      · exact x0
      · exact x1
      · exact x2
      · exact x3
    · rcases (show x = 0 ∨ x = 1 ∨ x = 2 ∨ x = 3 by omega) with rfl | rfl | rfl | rfl
      · exact y0
      · exact y1
      · exact y2
      · exact y3
  obtain ⟨σ', r8, P'⟩ := app_8 P5 hn gR_2 A5 (fun e he => by
    rcases (show e = 0 ∨ e = 1 ∨ e = 2 ∨ e = 3 by omega) with rfl | rfl | rfl | rfl
    · exact v1
    · exact v2
    · exact v3
    · exact v4) v5
  have i9 : ∀ x, pv x → inI x (-1) 999 = 1 := fun x hx => by
    rcases in999 x with c | ⟨c, -⟩
    · rcases hx with rfl | ⟨v, hv, rfl⟩
      · rfl
      · unfold inI at c
        rw [if_neg (show ¬ nI v < -1 from fun q => by
          have q1 := Int32.lt_iff_toInt_lt.mp q
          rw [nI_toInt (by omega)] at q1
          have q2 : (v : Int) < -1 := q1
          omega), if_neg (show ¬ (999 : Int32) < nI v from nI_nlt (a := 999) (by omega) (by decide))] at c
        cases c
    · exact c
  have i5 : inI a5 0 1 = 1 := by
    rcases v5 with rfl | rfl <;> rfl
  refine ⟨σ', ?_, P'⟩
  unfold fX8_addScrap
  rw [ipr8, Option.bind_some, i9 a1 v1, if_neg n10, ipr8, Option.bind_some, i9 a2 v2, if_neg n10, ipr8, Option.bind_some, i9 a3 v3, if_neg n10, ipr8, Option.bind_some, i9 a4 v4, if_neg n10, in8e, Option.bind_some, i5, if_neg n10, show fX6_size σ (0 + 1 + 1) = _ from siz8 D, Option.bind_some, if_pos (show nI n < 12 from nI_lt (b := 12) hn (by decide)), k1, r8, bp]
