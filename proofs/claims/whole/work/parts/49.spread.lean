/-! THE REFERENCE SPREADS A GROUP -/
def MF (τ0 τ : gM) : Prop := (∀ c, c ≠ 124 → c ≠ 128 → c ≠ 129 → c ≠ 131 → τ c = τ0 c) ∧ ∀ j, j ≠ 9 → τ 124 j = τ0 124 j
theorem MF.rf {τ : gM} : MF τ τ := ⟨fun _ _ _ _ _ => rfl, fun _ _ => rfl⟩
theorem MF.off {τ0 τ τ' : gM} (M : MF τ0 τ) (F : Off2 τ τ') : MF τ0 τ' := ⟨fun c h1 h2 h3 h4 => (F c h2 h3).trans (M.1 c h1 h2 h3 h4), fun j hj => (congrFun (F 124 (by decide) (by decide)) j).trans (M.2 j hj)⟩
theorem MF.g {τ0 τ : gM} {v : Nat → Int32} (M : MF τ0 τ) : MF τ0 (gset τ 131 v) := ⟨fun c h1 h2 h3 h4 => (gset_ne h4).trans (M.1 c h1 h2 h3 h4), fun j hj => (congrFun (gset_ne (by decide)) j).trans (M.2 j hj)⟩
theorem MF.n {τ0 τ : gM} {x : Int32} (M : MF τ0 τ) : MF τ0 (gset τ 124 (upd (τ 124) 9 x)) := ⟨fun c h1 h2 h3 h4 => (gset_ne h1).trans (M.1 c h1 h2 h3 h4), fun j hj => by rw [gset_at, pk_un hj]; exact M.2 j hj⟩
theorem MF.d {τ0 τ : gM} (M : MF τ0 τ) : τ 125 = τ0 125 := M.1 125 (by decide) (by decide) (by decide) (by decide)
theorem c131 {k : Nat} (h : k < 12) : ¬ (nI k < 0 ∨ gln (124 + 7) ≤ (nI k).toNatClampNeg) := nI_in (show k < 12 from h) (by decide)
theorem c125b {k : Nat} (h : k < 135) : ¬ (nI k < 0 ∨ gln (124 + 1) ≤ k) := fun q => by
  rcases q with q | q
  · exact nI_pos (by omega) q
  · have : gln (124 + 1) = 135 := by decide
    omega
theorem c131b {k : Nat} (h : k < 12) : ¬ (nI k < 0 ∨ gln (124 + 7) ≤ k) := fun q => by
  rcases q with q | q
  · exact nI_pos (by omega) q
  · have : gln (124 + 7) = 12 := by decide
    omega
/-- how many have no group -/
def cU (g : Nat → Int32) : Nat → Nat
  | 0 => 0
  | n + 1 => cU g n + if g n = -1 then 1 else 0
theorem cU_s {g : Nat → Int32} {n : Nat} : cU g (n + 1) = cU g n + if g n = -1 then 1 else 0 := rfl
theorem cU_le (g : Nat → Int32) : ∀ n, cU g n ≤ n := by
  intro n
  induction n with
  | zero => exact Nat.le_refl _
  | succ n ih => rw [cU_s]; split <;> omega
theorem cU_far {g : Nat → Int32} {v : Nat} {x : Int32} : ∀ n, n ≤ v → cU (upd g v x) n = cU g n := by
  intro n
  induction n with
  | zero => intro _; rfl
  | succ n ih => intro hn; rw [cU_s, cU_s, ih (by omega), pk_un (by omega)]
theorem cU_dn {g : Nat → Int32} {v : Nat} {x : Int32} (h1 : g v = -1) (h2 : x ≠ -1) : ∀ n, v < n → cU (upd g v x) n < cU g n := by
  intro n
  induction n with
  | zero => intro q; omega
  | succ n ih =>
    intro hn
    rw [cU_s, cU_s]
    by_cases c : v = n
    · subst c
      rw [cU_far v (Nat.le_refl _), pk_us, if_neg h2, if_pos h1]
      omega
    · have := ih (by omega)
      rw [pk_un (by omega)]
      omega
/-- marks on the way: the group of x1 is spread -/
def MI (τ0 : gM) (L : Nat → Int32) (n x1 : Nat) (τ : gM) : Prop := MF τ0 τ ∧ τ 124 9 = nI (nRt L x1) ∧ τ 131 x1 = nI (nRt L x1) ∧ ∀ s, s < n → τ 131 s = -1 ∨ ∃ r, L s = nI r ∧ r ≤ x1 ∧ L r = nI r ∧ τ 131 s = nI (nRt L r)
/-- what a part of the spreading does -/
def MG (L : Nat → Int32) (n : Nat) (τ : gM) (fl : Int32) (τ' : gM) (fl' : Int32) : Prop := (∀ x, τ 131 x ≠ -1 → τ' 131 x = τ 131 x) ∧ ((fl' = fl ∧ τ' 131 = τ 131) ∨ (fl' = 1 ∧ cU (τ' 131) n < cU (τ 131) n))
theorem MG.rf {L : Nat → Int32} {n : Nat} {τ τ' : gM} {fl : Int32} (e : τ' 131 = τ 131) : MG L n τ fl τ' fl := ⟨fun x _ => by rw [e], Or.inl ⟨rfl, e⟩⟩
theorem MG.tr {L : Nat → Int32} {n : Nat} {τ τ1 τ' : gM} {fl fl1 fl' : Int32} (A : MG L n τ fl τ1 fl1) (B : MG L n τ1 fl1 τ' fl') : MG L n τ fl τ' fl' := by
  refine ⟨fun x hx => ?_, ?_⟩
  · have := A.1 x hx
    rw [← this] at hx ⊢
    exact B.1 x hx
  · rcases A.2 with ⟨a1, a2⟩ | ⟨a1, a2⟩
    · rcases B.2 with ⟨b1, b2⟩ | ⟨b1, b2⟩
      · exact Or.inl ⟨b1.trans a1, b2.trans a2⟩
      · rw [a2] at b2
        exact Or.inr ⟨b1, b2⟩
    · rcases B.2 with ⟨b1, b2⟩ | ⟨b1, b2⟩
      · rw [← b2] at a2
        exact Or.inr ⟨b1.trans a1, a2⟩
      · exact Or.inr ⟨b1, by omega⟩
theorem MG.back {L : Nat → Int32} {n : Nat} {τ τ1 τ' : gM} {fl fl1 fl' : Int32} (A : MG L n τ fl τ1 fl1) (B : MG L n τ1 fl1 τ' fl') (e : τ' 131 = τ 131) : τ1 131 = τ 131 := by
  rcases A.2 with ⟨a1, a2⟩ | ⟨a1, a2⟩
  · exact a2
  · exfalso
    rcases B.2 with ⟨b1, b2⟩ | ⟨b1, b2⟩
    · rw [← e, b2] at a2
      omega
    · rw [← e] at a2
      omega
theorem nRt_lt {L : Nat → Int32} {r x : Nat} (h : r < x) (hr : L r = nI r) : nRt L r < nRt L x := by
  have h1 : nRt L (r + 1) = nRt L r + 1 := by
    rw [nRt_s]
    exact if_pos hr
  have mono : ∀ d, nRt L (r + 1) ≤ nRt L (r + 1 + d) := by
    intro d
    induction d with
    | zero => exact Nat.le_refl _
    | succ d ih =>
      refine Nat.le_trans ih ?_
      rw [← Nat.add_assoc, nRt_s]
      unfold gRt
      split <;> omega
  have := mono (x - (r + 1))
  rw [show r + 1 + (x - (r + 1)) = x by omega] at this
  omega
theorem MI.cur {τ0 τ : gM} {L : Nat → Int32} {n x1 s : Nat} (M : MI τ0 L n x1 τ) (hx : x1 < 12) (hs : s < n) (e : τ 131 s = nI (nRt L x1)) : L s = nI x1 := by
  have b1 := nRt_le L x1
  rcases M.2.2.2 s hs with c | ⟨r, r1, r2, r3, r4⟩
  · rw [c] at e
    exact absurd e (m1_ne' (by omega))
  · have b2 := nRt_le L r
    have := (nI_eq (show nRt L r < 2 ^ 31 by omega) (show nRt L x1 < 2 ^ 31 by omega)).mp (r4.symm.trans e)
    by_cases c : r < x1
    · have := nRt_lt c r3
      omega
    · rw [r1, show r = x1 by omega]
variable {τ0 : gM} {f : Nat → Int32} {w h n : Nat} {L : Nat → Int32}
theorem sp22 (O : OKf (τ0 125) w h n) (G : GI (τ0 125) w h n L) {x1 s : Nat} (hx : x1 < n) (lx : L x1 = nI x1) (hs : s < n) (K2 : gM → Int32 → Option gM) (K10 : gM → Int32 → Int32 → Option gM) : ∀ (d i m : Nat) (τ : gM) (fl : Int32), i + d = 4 → d < m → MI τ0 L n x1 τ → ∃ τ' fl', fX9_spreads_22 K2 K10 124 m τ fl (nI s) (nI i) = K10 τ' fl' (nI (s + 1)) ∧ MI τ0 L n x1 τ' ∧ MG L n τ fl τ' fl' ∧ (τ' 131 = τ 131 → τ 131 s = nI (nRt L x1) → ∀ e, i ≤ e → e < 4 → ∀ t, jn (τ0 125) w h n s e = some t → τ 131 t ≠ -1) := by
  obtain ⟨w1, w6, h1, h6, n12⟩ := O.2.1
  have hwh := wh_le w6 h6
  have bc := nRt_le L x1
  intro d
  induction d with
  | zero =>
    intro i m τ fl hi hm M
    obtain ⟨m, rfl⟩ : ∃ q, m = q + 1 := ⟨m - 1, by omega⟩
    obtain rfl : i = 4 := by omega
    refine ⟨τ, fl, ?_, M, MG.rf rfl, fun _ _ e h1 h2 => by omega⟩
    rw [fX9_spreads_22, if_pos i4e, gl_e, nIa1]
  | succ d ih =>
    intro i m τ fl hi hm M
    obtain ⟨m, rfl⟩ : ∃ q, m = q + 1 := ⟨m - 1, by omega⟩
    have e5 := M.1.d
    rw [fX9_spreads_22, if_neg (i4 (by omega)), if_pos (c131 (by omega)), nI_cl (n := s) (by omega), show τ 124 9 = _ from M.2.1]
    by_cases c0 : τ 131 s = nI (nRt L x1)
    · rw [if_pos (show τ (124 + 7) s = nI (nRt L x1) from c0), ix123, if_pos (c125 (by omega)), nI_cl (n := 123 + s) (by omega)]
      have lS : τ0 125 (123 + s) ≠ -1 := fun q => by
        have := M.cur (by omega) hs c0
        rw [G.1 s hs q] at this
        exact m1_ne' (by omega) this
      rcases O.pn hs with q | ⟨hk, pk⟩
      · exact absurd q lS
      · have skip : ∀ {x : Option gM}, jn (τ0 125) w h n s i = none ∨ (∃ v, nb (τ0 125) w h n s (pN (τ0 125) s) i = some v ∧ τ 131 v ≠ -1) → x = fX9_spreads_22 K2 K10 124 m τ fl (nI s) (nI (i + 1)) → ∃ τ' fl', x = K10 τ' fl' (nI (s + 1)) ∧ MI τ0 L n x1 τ' ∧ MG L n τ fl τ' fl' ∧ (τ' 131 = τ 131 → τ 131 s = nI (nRt L x1) → ∀ e, i ≤ e → e < 4 → ∀ t, jn (τ0 125) w h n s e = some t → τ 131 t ≠ -1) := by
          intro x hj hx
          obtain ⟨τ', fl', p, M', Gm, C⟩ := ih (i + 1) m τ fl (by omega) (by omega) M
          refine ⟨τ', fl', hx.trans p, M', Gm, fun a b e h1 h2 t ht => ?_⟩
          by_cases ce : e = i
          · subst ce
            rcases hj with hj | ⟨v, hj, hv⟩
            · rw [hj] at ht; cases ht
            · have := (jn_in ht).2.2
              rw [hj] at this
              cases this
              exact hv
          · exact C a b e (by omega) h2 t ht
        have jno : nb (τ0 125) w h n s (pN (τ0 125) s) i = none → jn (τ0 125) w h n s i = none := by
          intro q
          unfold jn
          rw [q, ite_self, ite_self]
        rw [show τ (124 + 1) (123 + s) = nI (pN (τ0 125) s) by rw [← pk, ← e5], beh9 (w := w) (h := h) (by rw [e5]; exact O.1.1) (by rw [e5]; exact O.1.2.1) w1 w6 h1 h6 hk (by omega), Option.bind_some]
        cases hb : bh w h (pN (τ0 125) s) i with
        | none =>
          rw [if_pos oI_n, gl_e, nIa1]
          exact skip (Or.inl (jno (by unfold nb; rw [hb]; rfl))) rfl
        | some q =>
          have hq := bh_lt w1 hk hb
          rw [oI_s, if_neg (m1_ne (by omega)), sca9 (by rw [e5]; exact O.1.2.2) n12, Option.bind_some, e5]
          cases hv : sc (τ0 125) n q with
          | none =>
            rw [if_pos oI_n, gl_e, nIa1]
            exact skip (Or.inl (jno (by unfold nb; rw [hb, scO_s, hv]; rfl))) rfl
          | some v =>
            have hvn := (sc_lt hv).1
            rw [oI_s, if_neg (m1_ne (by omega)), if_pos (c131 (by omega)), nI_cl (n := v) (by omega)]
            by_cases cv : τ 131 v = -1
            · have vs : v ≠ s := fun q => by
                rw [q, c0] at cv
                exact m1_ne (by omega) cv
              have hnb := nb_mk hb hv vs
              have hov := O.ov hs
              obtain ⟨τ1, p1, F1⟩ := rsn9 (τ := τ) (s := s) (k := pN (τ0 125) s) (o := ovN (τ0 125) s) (e := i) (by rw [e5]; exact O) hs hk hov.1 (by omega)
              have M1 : MI τ0 L n x1 τ1 := by
                refine ⟨M.1.off F1, ?_, ?_, ?_⟩
                · rw [F1 124 (by decide) (by decide)]; exact M.2.1
                · rw [F1 131 (by decide) (by decide)]; exact M.2.2.1
                · rw [F1 131 (by decide) (by decide)]; exact M.2.2.2
              have e131 : τ1 131 = τ 131 := F1 131 (by decide) (by decide)
              rw [if_pos (show τ (124 + 7) v = -1 from cv), ix111, if_pos (c125b (by omega)), if_pos (c125 (by omega)), nI_cl (n := 111 + s) (by omega), show τ0 125 (111 + s) = nI (ovN (τ0 125) s) from hov.2, p1, bp, e5]
              by_cases c2 : rs (τ0 125) w h n s (pN (τ0 125) s) (ovN (τ0 125) s) i = 0
              · have hjn : jn (τ0 125) w h n s i = some v := by
                  unfold jn
                  rw [if_neg lS, if_pos c2, hnb]
                have hL : L v = nI x1 := (G.2.2 s v ⟨hs, i, by omega, hjn⟩).symm.trans (M.cur (by omega) hs c0)
                have q9 : gset τ1 131 (upd (τ1 131) v (nI (nRt L x1))) 131 = upd (τ 131) v (nI (nRt L x1)) := by rw [gset_at, e131]
                have M2 : MI τ0 L n x1 (gset τ1 131 (upd (τ1 131) v (nI (nRt L x1)))) := by
                  refine ⟨M1.1.g, ?_, ?_, ?_⟩
                  · rw [gset_ne (by decide)]; exact M1.2.1
                  · rw [q9]
                    by_cases cx : x1 = v
                    · rw [cx, pk_us]
                    · rw [pk_un cx]; exact M.2.2.1
                  · intro z hz
                    rw [q9]
                    by_cases cz : z = v
                    · rw [cz, pk_us]
                      exact Or.inr ⟨x1, hL, Nat.le_refl _, lx, rfl⟩
                    · rw [pk_un cz]; exact M.2.2.2 z hz
                have G2 : MG L n τ fl (gset τ1 131 (upd (τ1 131) v (nI (nRt L x1)))) 1 := by
                  refine ⟨fun z hz => ?_, Or.inr ⟨rfl, ?_⟩⟩
                  · rw [q9, pk_un (fun q => hz (by rw [q]; exact cv))]
                  · rw [q9]
                    exact cU_dn cv (m1_ne (by omega)) n hvn
                obtain ⟨τ', fl', p, M', Gm, C⟩ := ih (i + 1) m _ 1 (by omega) (by omega) M2
                rw [if_pos c2, if_pos (c131b (by omega)), gl_e, gl_e, nIa1, show τ1 124 9 = _ from M1.2.1]
                refine ⟨τ', fl', p, M', G2.tr Gm, fun e => ?_⟩
                exfalso
                have := G2.back Gm e
                rw [q9] at this
                have := congrFun this v
                rw [pk_us, cv] at this
                exact m1_ne (by omega) this
              · have hjn : jn (τ0 125) w h n s i = none := by
                  unfold jn
                  rw [if_neg lS, if_neg c2]
                obtain ⟨τ', fl', p, M', Gm, C⟩ := ih (i + 1) m τ1 fl (by omega) (by omega) M1
                rw [if_neg c2, gl_e, nIa1]
                refine ⟨τ', fl', p, M', (MG.rf e131).tr Gm, fun a b e h1 h2 t ht => ?_⟩
                by_cases ce : e = i
                · subst ce
                  rw [hjn] at ht; cases ht
                · have := C (by rw [e131]; exact a) (by rw [e131]; exact b) e (by omega) h2 t ht
                  rw [e131] at this
                  exact this
            · rw [if_neg (show ¬ τ (124 + 7) v = -1 from cv), gl_e, nIa1]
              by_cases vs : v = s
              · refine skip (Or.inl (jno ?_)) rfl
                unfold nb
                rw [hb, scO_s, hv, nbQ_s, if_pos vs]
              · exact skip (Or.inr ⟨v, nb_mk hb hv vs, cv⟩) rfl
    · rw [if_neg (show ¬ τ (124 + 7) s = nI (nRt L x1) from c0), gl_e, nIa1]
      exact ⟨τ, fl, rfl, M, MG.rf rfl, fun _ q => absurd q c0⟩
