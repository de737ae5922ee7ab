/-! FAULT, ADD -/
variable {L : Nat} {tc : Nat → Nat}
/-- behind a sound edge that both have read; the class stands before the sign -/
theorem RM : ∀ (d e m m' : Nat) (σ τ : gM) (p : Nat), e + d = 4 → 1 ≤ e → d < m → d < m' → TXc σ L tc → TXr τ L tc → σ 111 3 = nI p → σ 111 4 = 1 → p + 10 * d ≤ 700 → DE σ τ e → ∃ σ' τ' r, fX7_read_12 111 m σ (nI e) = some σ' ∧ (if ch L tc p = (if e = 4 then 59 else 44) then fX9_fault_4 124 m' τ (nI (p + 1)) (nI e) else some (nI p, τ)) = some (r, τ') ∧ EN σ τ σ' τ' r := by
  intro d
  induction d with
  | zero =>
    intro e m m' σ τ p hi he hm hm' Xc Xr h3 h4 hp A
    obtain ⟨m, rfl⟩ : ∃ z, m = z + 1 := ⟨m - 1, by omega⟩
    obtain ⟨m', rfl⟩ : ∃ z, m' = z + 1 := ⟨m' - 1, by omega⟩
    obtain rfl : e = 4 := by omega
    rw [if_pos (show (4 : Nat) = 4 from rfl)]
    exact R4 Xc Xr (by omega) h3 h4 A
  | succ d ih =>
    intro e m m' σ τ p hi he hm hm' Xc Xr h3 h4 hp A
    obtain ⟨m, rfl⟩ : ∃ z, m = z + 1 := ⟨m - 1, by omega⟩
    obtain ⟨m', rfl⟩ : ∃ z, m' = z + 1 := ⟨m' - 1, by omega⟩
    rw [if_neg (show ¬ e = 4 by omega), fX7_read_12, if_neg (i4 (by omega)), if_neg (show ¬ nI e ≤ 0 from nI_nle (by omega) (by omega)), show fX7_takeSign σ 111 44 = _ from tS (a := 44) Xc (by omega) h3 h4 (by decide) (by decide), Option.bind_some]
    by_cases c0 : ch L tc p = 44
    · rw [if_pos c0, if_pos c0]
      have X1 := Xc.ft (FT.ad (p := p + 1))
      have A1 : DE (AD σ (p + 1)) τ e := fun x hx => by
        rw [ad_c (by decide), ad_c (by decide)]
        exact A x hx
      obtain ⟨σ1, s1, H⟩ := edg (m := m') (e := e) X1 Xr (by omega) (by omega) ad3 ad4
      rw [s1, Option.bind_some, gl_e, nIa1]
      rcases H with ⟨q, hq, C, R⟩ | ⟨q, P, Ln, hq, hP, C, R⟩
      · obtain ⟨σ', s2, C2⟩ := RUn d (e + 1) m σ1 q (by omega) (by omega) (X1.ft C.1) C.2.1 C.2.2 (by omega)
        obtain ⟨τ', r1, r2⟩ := R
        exact ⟨σ', τ', nI q, s2, r1, FT.ad.tr (C.1.tr C2.1), r2, Or.inr ⟨q, by omega, rfl, C2.2.1, C2.2.2⟩⟩
      · obtain ⟨τ1, r1, r2, r3⟩ := R
        obtain ⟨σ', τ', r, s2, r4, E⟩ := ih (e + 1) m m' σ1 τ1 q (by omega) (by omega) (by omega) (by omega) (X1.ft C.1) (Xr.fr r2) C.2.2.1 C.2.1 (by omega) (A1.up (by omega) C r3 hP)
        refine ⟨σ', τ', r, s2, r1.trans ?_, E.mv (FT.ad.tr C.1) r2⟩
        unfold sp
        by_cases c3 : e = 3
        · rw [if_pos (show e + 1 = 4 by omega)] at r4
          rw [if_pos c3]
          exact r4
        · rw [if_neg (show ¬ e + 1 = 4 by omega)] at r4
          rw [if_neg c3]
          exact r4
    · rw [if_neg c0, if_neg c0]
      obtain ⟨σ1, s1, C⟩ := tEu (σ := UN σ) (e := e) (Xc.ft FT.un) (show p < 1000 by omega) (by omega) (un3.trans h3) un4
      obtain ⟨σ', s2, C2⟩ := RUn d (e + 1) m σ1 p (by omega) (by omega) ((Xc.ft FT.un).ft C.1) C.2.1 C.2.2 (by omega)
      rw [s1, Option.bind_some, gl_e, nIa1]
      exact ⟨σ', τ, nI p, s2, rfl, FT.un.tr (C.1.tr C2.1), FR.rf, Or.inr ⟨p, by omega, rfl, C2.2.1, C2.2.2⟩⟩
theorem both_read {σ τ : gM} (T : TT σ τ) : ∃ σ' τ' r, fX7_read σ 111 = some σ' ∧ fX9_fault τ 124 = some (r, τ') ∧ EN σ τ σ' τ' r := by
  obtain ⟨L, tc, Xc, Xr⟩ := T.tx
  have F0 : FT σ (gset (gset σ 111 (upd (σ 111) 3 0)) 111 (upd (gset σ 111 (upd (σ 111) 3 0) 111) 4 1)) := by
    refine ⟨fun c h1 _ _ _ => by rw [gset_ne h1, gset_ne h1], fun j h1 h2 => by rw [gset_at, pk_un h2, gset_at, pk_un h1]⟩
  have z3 : gset (gset σ 111 (upd (σ 111) 3 0)) 111 (upd (gset σ 111 (upd (σ 111) 3 0) 111) 4 1) 111 3 = nI 0 := by
    rw [gset_at, pk_un (by decide), gset_at, pk_us]
    rfl
  have z4 : gset (gset σ 111 (upd (σ 111) 3 0)) 111 (upd (gset σ 111 (upd (σ 111) 3 0) 111) 4 1) 111 4 = 1 := by
    rw [gset_at, pk_us]
  unfold fX7_read fX9_fault
  rw [gl_e, gl_e]
  generalize gset (gset σ 111 (upd (σ 111) 3 0)) 111 (upd (gset σ 111 (upd (σ 111) 3 0) 111) 4 1) = s at F0 z3 z4
  have X1 := Xc.ft F0
  obtain ⟨g, hg⟩ := gF4
  obtain ⟨σ1, s1, H⟩ := edg (m := g + 3) (e := 0) X1 Xr (show (0 : Nat) < 800 by decide) (by decide) z3 z4
  have s1' : fX7_takeEdge s 111 0 = some σ1 := s1
  rw [hg, fX7_read_12, if_neg (show ¬ (4 : Int32) ≤ 0 by decide), if_pos (show (0 : Int32) ≤ 0 by decide), s1', Option.bind_some, gl_e]
  show ∃ σ' τ' r, fX7_read_12 111 (g + 3) σ1 (nI 1) = some σ' ∧ fX9_fault_4 124 (g + 3 + 1) τ (nI 0) (nI 0) = some (r, τ') ∧ EN σ τ σ' τ' r
  rcases H with ⟨q, hq, C, R⟩ | ⟨q, P, Ln, hq, hP, C, R⟩
  · obtain ⟨σ', s2, C2⟩ := RUn 3 1 (g + 3) σ1 q (by decide) (by
      have : gF = 1000000000000000000 := rfl
      omega) (X1.ft C.1) C.2.1 C.2.2 (by omega)
    obtain ⟨τ', r1, r2⟩ := R
    exact ⟨σ', τ', nI q, s2, r1, F0.tr (C.1.tr C2.1), r2, Or.inr ⟨q, by omega, rfl, C2.2.1, C2.2.2⟩⟩
  · obtain ⟨τ1, r1, r2, r3⟩ := R
    have A0 : DE s τ 0 := fun x hx => by omega
    obtain ⟨σ', τ', r, s2, r4, E⟩ := RM 3 1 (g + 3) (g + 3) σ1 τ1 q (by decide) (by decide) (by
      have : gF = 1000000000000000000 := rfl
      omega) (by
      have : gF = 1000000000000000000 := rfl
      omega) (X1.ft C.1) (Xr.fr r2) C.2.2.1 C.2.1 (by omega) (A0.up (by decide) C r3 hP)
    exact ⟨σ', τ', r, s2, r1.trans r4, E.mv (F0.tr C.1) r2⟩
theorem EN.rr {σ τ σ' τ' : gM} {r : Int32} (E : EN σ τ σ' τ' r) (R : RR σ τ) : RR σ' τ' := by
  have F := E.1
  have G := E.2.1
  have R1 : RR σ' τ := R.cls (fun k hk => F.1 k (by omega) (by omega) (by omega) (by omega)) (F.2 2 (by decide) (by decide)) (F.1 113 (by decide) (by decide) (by decide) (by decide))
  exact R1.ref (G 125 (by decide)) (G 126 (by decide)) (G 127 (by decide)) (by rw [G 124 (by decide)]) (by rw [G 124 (by decide)])
theorem nq4 {q : Nat} (hq : q < 1000) : ¬ nI q = -1004 := fun e => by
  have h1 : (nI q).toInt = (-1004 : Int32).toInt := by rw [e]
  rw [nI_toInt (by omega)] at h1
  have h2 : ((q : Nat) : Int) = -1004 := h1
  omega
theorem step_fault : gs_fault RR := by
  intro σ τ R
  obtain ⟨σ', τ', r, s1, r1, E⟩ := both_read R.2.2
  have R' := E.rr R
  unfold fX8_fault fX7_isSound fX7_position
  rw [show fX7_read σ (0 + 111) = _ from s1, Option.bind_some, r1]
  rcases E.2.2 with ⟨hr, h4, -⟩ | ⟨q, hq, hr, h4, h3⟩
  · rw [show σ' (0 + 111) 4 = 1 from h4, if_pos (Or.inr rfl), Option.bind_some, if_neg n10, hr]
    exact ⟨_, _, _, rfl, rfl, R'⟩
  · rw [show σ' (0 + 111) 4 = 0 from h4, if_pos (Or.inl rfl), Option.bind_some, if_pos rfl, Option.bind_some, show σ' (0 + 111) 3 = nI q from h3, hr]
    exact ⟨_, _, _, rfl, rfl, R'⟩
theorem step_add : gs_add RR := by
  intro σ τ R
  obtain ⟨σ', τ', r, s1, r1, E⟩ := both_read R.2.2
  have R' := E.rr R
  obtain ⟨w, h, n, D⟩ := R'.1
  have O := D.2.1
  have n12 := O.2.1.2.2.2.2
  unfold fX8_add fX7_isSound fX9_add
  rw [show fX7_read σ (0 + 111) = _ from s1, Option.bind_some, r1, bp]
  rcases E.2.2 with ⟨hr, h4, A, hp, hk⟩ | ⟨q, hq, hr, h4, h3⟩
  · rw [show σ' (0 + 111) 4 = 1 from h4, if_pos (Or.inr rfl), Option.bind_some, if_neg n10, if_pos hr, show fX6_size σ' (0 + 1 + 1) = _ from siz8 D, Option.bind_some]
    by_cases cn : n = 12
    · subst cn
      rw [if_neg (show ¬ nI 12 < 12 by decide), adds_full O.1.2.2, bp]
      exact ⟨_, _, _, rfl, rfl, R'⟩
    · have hn : n < 12 := by omega
      obtain ⟨σ2, τ2, a8, a9, R2⟩ := app_both R' D hn gR_1 A hp hk
      rw [if_pos (show nI n < 12 from nI_lt (b := 12) hn (by decide)), a9, bp]
      refine ⟨nI n, σ2, τ2, ?_, rfl, R2⟩
      show (fX8_append σ' 0 114).bind _ = _
      rw [a8, bp]
  · rw [show σ' (0 + 111) 4 = 0 from h4, if_pos (Or.inl rfl), Option.bind_some, if_pos rfl, if_neg (by rw [hr]; exact nq4 hq)]
    exact ⟨_, _, _, rfl, rfl, R'⟩
