/-! READING THE TEXT: the whole; FAULT and ADD -/
variable {L : Nat} {tc : Nat → Nat}
theorem pv_3 {a b c : Nat} (ha : a ≤ 9) (hb : b ≤ 9) (hc : c ≤ 9) : pv (nI (10 * (10 * (10 * 0 + a) + b) + c)) := Or.inr ⟨_, by omega, rfl⟩
theorem edg {σ τ : gM} {p e m : Nat} (Xc : TXc σ L tc) (Xr : TXr τ L tc) (hp : p < 800) (he : e < 4) (h3 : σ 111 3 = nI p) (h4 : σ 111 4 = 1) : ∃ σ', fX7_takeEdge σ 111 (nI e) = some σ' ∧ ((∃ q, q ≤ p + 4 ∧ CF σ q σ' ∧ RF τ q (fX9_fault_4 124 (m + 1) τ (nI p) (nI e))) ∨ ∃ q P Ln, q ≤ p + 5 ∧ pv P ∧ CY σ q e P Ln σ' ∧ RY L tc m τ q e P Ln (fX9_fault_4 124 (m + 1) τ (nI p) (nI e))) := by
  by_cases c0 : ch L tc p = 45
  · obtain ⟨σ', s1, a1, a2, a3⟩ := cMin Xc (by omega) he h3 h4 c0
    obtain ⟨b1, b2, b3⟩ := rMin (m := m) Xr (by omega) he c0
    refine ⟨σ', s1, ?_⟩
    by_cases c1 : ch L tc (p + 1) = 47
    · by_cases c2 : ch L tc (p + 2) = 48
      · exact Or.inr ⟨p + 3, -1, 0, by omega, Or.inl rfl, a3 c1 c2, b3 c1 c2⟩
      · exact Or.inl ⟨p + 2, by omega, a2 c1 c2, b2 c1 c2⟩
    · exact Or.inl ⟨p + 1, by omega, a1 c1, b1 c1⟩
  · obtain ⟨σ', s1, a1, a2, a3, a4, a5, a6⟩ := cDig Xc (by omega) he h3 h4 c0
    obtain ⟨b1, b2, b3, b4, b5, b6⟩ := rDig (m := m) Xr hp he c0
    refine ⟨σ', s1, ?_⟩
    by_cases d0 : dg L tc p
    · by_cases d1 : dg L tc (p + 1)
      · by_cases d2 : dg L tc (p + 2)
        · by_cases d3 : ch L tc (p + 3) = 47
          · by_cases d4 : dg L tc (p + 4)
            · refine Or.inr ⟨p + 5, _, _, by omega, pv_3 ?_ ?_ ?_, a6 d0 d1 d2 d3 d4, b6 d0 d1 d2 d3 d4⟩
              · have := d0.2; omega
              · have := d1.2; omega
              · have := d2.2; omega
            · exact Or.inl ⟨p + 4, by omega, a5 d0 d1 d2 d3 d4, b5 d0 d1 d2 d3 d4⟩
          · exact Or.inl ⟨p + 3, by omega, a4 d0 d1 d2 d3, b4 d0 d1 d2 d3⟩
        · exact Or.inl ⟨p + 2, by omega, a3 d0 d1 d2, b3 d0 d1 d2⟩
      · exact Or.inl ⟨p + 1, by omega, a2 d0 d1, b2 d0 d1⟩
    · exact Or.inl ⟨p, by omega, a1 d0, b1 d0⟩
theorem FT.kd {σ : gM} {x : Int32} : FT σ (gset σ 114 (upd (σ 114) 2 x)) := ⟨fun c h1 h2 _ _ => gset_ne h2, fun j _ _ => congrFun (gset_ne (by decide)) j⟩
theorem RUn : ∀ (d e m : Nat) (σ : gM) (q : Nat), e + d = 4 → d < m → TXc σ L tc → σ 111 4 = 0 → σ 111 3 = nI q → q < 1000 → ∃ σ', fX7_read_12 111 m σ (nI e) = some σ' ∧ CF σ q σ' := by
  intro d
  induction d with
  | zero =>
    intro e m σ q hi hm X h4 h3 hq
    obtain ⟨m, rfl⟩ : ∃ z, m = z + 1 := ⟨m - 1, by omega⟩
    obtain rfl : e = 4 := by omega
    refine ⟨UN (gset (UN σ) 114 (upd (UN σ 114) 2 0)), ?_, FT.un.tr (FT.kd.tr FT.un), un4, ?_⟩
    · rw [fX7_read_12, if_pos i4e, tSu h4, Option.bind_some, tDu (X.ft FT.un) hq (un3.trans h3) un4, bp, UNUN]
      unfold fX1_setKind
      rw [gl_e, Option.bind_some, if_pos (show gset (UN σ) (111 + 3) (upd (UN σ (111 + 3)) 2 0) 111 4 = 0 from (congrFun (gset_ne (by decide)) 4).trans un4), gl_e]
      rfl
    · rw [un3, gset_ne (by decide), un3, h3]
  | succ d ih =>
    intro e m σ q hi hm X h4 h3 hq
    obtain ⟨m, rfl⟩ : ∃ z, m = z + 1 := ⟨m - 1, by omega⟩
    by_cases c : e = 0
    · subst c
      obtain ⟨σ1, s1, F1, z4, z3⟩ := tEu (e := 0) X hq (by decide) h3 h4
      obtain ⟨σ', s2, F2, y4, y3⟩ := ih 1 m σ1 q (by omega) (by omega) (X.ft F1) z4 z3 hq
      refine ⟨σ', ?_, F1.tr F2, y4, y3⟩
      rw [fX7_read_12, if_neg (i4 (by decide)), if_pos (show nI 0 ≤ 0 by decide), s1, Option.bind_some, gl_e, nIa1]
      exact s2
    · obtain ⟨σ1, s1, F1, z4, z3⟩ := tEu (σ := UN σ) (e := e) (X.ft FT.un) hq (by omega) (un3.trans h3) un4
      obtain ⟨σ', s2, F2, y4, y3⟩ := ih (e + 1) m σ1 q (by omega) (by omega) ((X.ft FT.un).ft F1) z4 z3 hq
      refine ⟨σ', ?_, FT.un.tr (F1.tr F2), y4, y3⟩
      rw [fX7_read_12, if_neg (i4 (by omega)), if_neg (show ¬ nI e ≤ 0 from nI_nle (by omega) (by omega)), tSu h4, Option.bind_some, s1, Option.bind_some, gl_e, nIa1]
      exact s2
def DE (σ τ : gM) (e : Nat) : Prop := ∀ x, x < e → σ 116 x = τ 130 x ∧ σ 118 x = τ 130 (4 + x) ∧ pv (τ 130 x)
theorem DE.up {σ τ σ' τ' : gM} {e q : Nat} {P Ln : Int32} (A : DE σ τ e) (he : e < 4) (Y : CY σ q e P Ln σ') (h9 : τ' 130 = upd (upd (τ 130) e P) (4 + e) Ln) (hP : pv P) : DE σ' τ' (e + 1) := by
  intro x hx
  rw [Y.2.2.2.1, Y.2.2.2.2.1, h9]
  by_cases c : x = e
  · subst c
    rw [pk_us, pk_us, pk_un (by omega), pk_us, pk_us]
    exact ⟨rfl, rfl, hP⟩
  · obtain ⟨a1, a2, a3⟩ := A x (by omega)
    rw [pk_un c, pk_un c, pk_un (by omega), pk_un c, pk_un (by omega), pk_un (by omega)]
    exact ⟨a1, a2, a3⟩
/-- both have read the text -/
def EN (σ τ σ' τ' : gM) (r : Int32) : Prop := FT σ σ' ∧ FR τ τ' ∧ ((r = -1004 ∧ σ' 111 4 = 1 ∧ DR σ' 114 (τ' 130) ∧ (∀ e, e < 4 → pv (τ' 130 e)) ∧ (τ' 130 8 = 0 ∨ τ' 130 8 = 1)) ∨ ∃ q, q < 1000 ∧ r = nI q ∧ σ' 111 4 = 0 ∧ σ' 111 3 = nI q)
theorem EN.mv {σ τ σ1 τ1 σ' τ' : gM} {r : Int32} (E : EN σ1 τ1 σ' τ' r) (F : FT σ σ1) (G : FR τ τ1) : EN σ τ σ' τ' r := ⟨F.tr E.1, G.tr E.2.1, E.2.2⟩
theorem R4 {σ τ : gM} {p m m' : Nat} (Xc : TXc σ L tc) (Xr : TXr τ L tc) (hp : p < 800) (h3 : σ 111 3 = nI p) (h4 : σ 111 4 = 1) (A : DE σ τ 4) : ∃ σ' τ' r, fX7_read_12 111 (m + 1) σ (nI 4) = some σ' ∧ (if ch L tc p = 59 then fX9_fault_4 124 (m' + 1) τ (nI (p + 1)) (nI 4) else some (nI p, τ)) = some (r, τ') ∧ EN σ τ σ' τ' r := by
  have hL := Xc.1
  rw [fX7_read_12, if_pos i4e, show fX7_takeSign σ 111 59 = _ from tS (a := 59) Xc (by omega) h3 h4 (by decide) (by decide), Option.bind_some]
  unfold fX1_setKind
  by_cases c0 : ch L tc p = 59
  · have X1 := Xc.ft (FT.ad (p := p + 1))
    have hc := ch_lt Xc (p + 1)
    rw [if_pos c0, if_pos c0, show fX7_takeDigit (AD σ (p + 1)) 111 1 = _ from tD (m := 1) X1 (by omega) ad3 ad4 (by decide)]
    by_cases c1 : 48 ≤ ch L tc (p + 1) ∧ ch L tc (p + 1) ≤ 49
    · obtain ⟨rd, gd⟩ := rd9 Xr (p := p + 1) rfl (by omega)
      have lt1 : p + 1 < L := ch_in (a := ch L tc (p + 1)) rfl (by omega)
      have z4 : gset (AD (AD σ (p + 1)) (p + 1 + 1)) (111 + 3) (upd (AD (AD σ (p + 1)) (p + 1 + 1) (111 + 3)) 2 (nI (ch L tc (p + 1) - 48))) 111 = AD (AD σ (p + 1)) (p + 1 + 1) 111 := gset_ne (by decide)
      rw [if_pos (show 48 ≤ ch L tc (p + 1) ∧ ch L tc (p + 1) ≤ 48 + 1 from c1), bp, gl_e, Option.bind_some, z4, ad4, if_neg n10, ad3, fX9_fault_4, if_pos i4e, sig9 Xr (by omega), Option.bind_some, in9e, Option.bind_some, show inI (nI (ch L tc (p + 1))) 48 49 = if 48 ≤ ch L tc (p + 1) ∧ ch L tc (p + 1) ≤ 49 then 1 else 0 from inD (lo := 48) (hi := 49) hc (by decide) (by decide), if_pos c1, if_neg n10, if_pos gd, if_pos k68, gl_e, nIa1, gl_e, cl_8, nI_cl (n := p + 1) (by omega), show τ (124 + 3) (p + 1) = _ from rd, sub48 c1.1, gl_e, gl_e, show gset τ (124 + 6) (upd (τ (124 + 6)) 8 (nI (ch L tc (p + 1) - 48))) 124 4 = nI L from (congrFun (gset_ne (by decide)) 4).trans Xr.2.1, show AD (AD σ (p + 1)) (p + 1 + 1) 111 2 = nI L from ((FT.ad.tr FT.ad : FT σ (AD (AD σ (p + 1)) (p + 1 + 1))).2 2 (by decide) (by decide)).trans Xc.2.1]
      by_cases c2 : p + 2 = L
      · rw [if_pos (show nI (p + 1 + 1) = nI L by rw [show p + 1 + 1 = L by omega]), if_pos (show nI (p + 1 + 1) = nI L by rw [show p + 1 + 1 = L by omega])]
        refine ⟨_, _, _, rfl, rfl, ?_, FR.g, Or.inl ⟨rfl, ?_, ⟨fun x hx => ?_, fun x hx => ?_, ?_⟩, fun e he => ?_, ?_⟩⟩
        · refine FT.ad.tr (FT.ad.tr (FT.kd.tr ⟨fun c h1 _ _ _ => gset_ne h1, fun j h1 h2 => ?_⟩))
          rw [gset_at, pk_un h2]
          exact congrFun z4.symm j
        · rw [gset_at, pk_us]
        · show gset _ 111 _ 116 x = gset τ 130 _ 130 x
          rw [gset_ne (by decide), gset_ne (by decide), ad_c (by decide), ad_c (by decide), gset_at, pk_un (by omega)]
          exact (A x hx).1
        · show gset _ 111 _ 118 x = gset τ 130 _ 130 (4 + x)
          rw [gset_ne (by decide), gset_ne (by decide), ad_c (by decide), ad_c (by decide), gset_at, pk_un (by omega)]
          exact (A x hx).2.1
        · show gset _ 111 _ 114 2 = gset τ 130 _ 130 8
          rw [gset_ne (by decide), gset_at, pk_us, gset_at, pk_us]
        · show pv (gset τ 130 _ 130 e)
          rw [gset_at, pk_un (by omega)]
          exact (A e he).2.2
        · show gset τ 130 _ 130 8 = 0 ∨ gset τ 130 _ 130 8 = 1
          rw [gset_at, pk_us]
          rcases (show ch L tc (p + 1) = 48 ∨ ch L tc (p + 1) = 49 by omega) with q | q <;> rw [q]
          · exact Or.inl rfl
          · exact Or.inr rfl
      · have n2 : ¬ nI (p + 1 + 1) = nI L := fun q => c2 ((nI_eq (show p + 1 + 1 < 2 ^ 31 by omega) (by omega)).mp q)
        rw [if_neg n2, if_neg n2]
        refine ⟨_, _, _, rfl, rfl, ?_, FR.g, Or.inr ⟨p + 2, by omega, rfl, ?_, ?_⟩⟩
        · refine FT.ad.tr (FT.ad.tr (FT.kd.tr ⟨fun c h1 _ _ _ => gset_ne h1, fun j h1 h2 => ?_⟩))
          rw [gset_at, pk_un h2]
          exact congrFun z4.symm j
        · rw [gset_at, pk_us]
        · rw [gset_at, pk_un (by decide), ad3]
    · have z4 : gset (UN (AD σ (p + 1))) (111 + 3) (upd (UN (AD σ (p + 1)) (111 + 3)) 2 0) 111 = UN (AD σ (p + 1)) 111 := gset_ne (by decide)
      rw [if_neg (show ¬ (48 ≤ ch L tc (p + 1) ∧ ch L tc (p + 1) ≤ 48 + 1) from c1), bp, gl_e, Option.bind_some, z4, un4, if_pos rfl, gl_e, fX9_fault_4, if_pos i4e, sig9 Xr (by omega), Option.bind_some, in9e, Option.bind_some, show inI (nI (ch L tc (p + 1))) 48 49 = if 48 ≤ ch L tc (p + 1) ∧ ch L tc (p + 1) ≤ 49 then 1 else 0 from inD (lo := 48) (hi := 49) hc (by decide) (by decide), if_neg c1, if_pos rfl]
      refine ⟨_, _, _, rfl, rfl, ?_, FR.rf, Or.inr ⟨p + 1, by omega, rfl, ?_, ?_⟩⟩
      · refine FT.ad.tr (FT.un.tr (FT.kd.tr ⟨fun c h1 _ _ _ => gset_ne h1, fun j h1 h2 => ?_⟩))
        rw [gset_at, pk_un h2]
        exact congrFun z4.symm j
      · rw [gset_at, pk_us]
      · rw [gset_at, pk_un (by decide), un3, ad3]
  · have z4 : gset (UN σ) (111 + 3) (upd (UN σ (111 + 3)) 2 0) 111 = UN σ 111 := gset_ne (by decide)
    rw [if_neg c0, if_neg c0, tDu (Xc.ft FT.un) (show p < 1000 by omega) (un3.trans h3) un4, bp, UNUN, gl_e, Option.bind_some, z4, un4, if_pos rfl, gl_e]
    refine ⟨_, _, _, rfl, rfl, ?_, FR.rf, Or.inr ⟨p, by omega, rfl, ?_, ?_⟩⟩
    · refine FT.un.tr (FT.kd.tr ⟨fun c h1 _ _ _ => gset_ne h1, fun j h1 h2 => ?_⟩)
      rw [gset_at, pk_un h2]
      exact congrFun z4.symm j
    · rw [gset_at, pk_us]
    · rw [gset_at, pk_un (by decide), un3, h3]
