/-! READING THE TEXT: an edge, on the class's side -/
variable {σ : gM} {L : Nat} {tc : Nat → Nat}
theorem updd {f : Nat → Int32} {k : Nat} {a b : Int32} : upd (upd f k a) k b = upd f k b := by
  funext j
  by_cases c : j = k
  · rw [c, pk_us, pk_us]
  · rw [pk_un c, pk_un c, pk_un c]
def FT (σ σ' : gM) : Prop := (∀ c, c ≠ 111 → c ≠ 114 → c ≠ 116 → c ≠ 118 → σ' c = σ c) ∧ ∀ j, j ≠ 3 → j ≠ 4 → σ' 111 j = σ 111 j
theorem FT.rf {σ : gM} : FT σ σ := ⟨fun _ _ _ _ _ => rfl, fun _ _ _ => rfl⟩
theorem FT.tr {a b c : gM} (A : FT a b) (B : FT b c) : FT a c := ⟨fun x h1 h2 h3 h4 => (B.1 x h1 h2 h3 h4).trans (A.1 x h1 h2 h3 h4), fun j h1 h2 => (B.2 j h1 h2).trans (A.2 j h1 h2)⟩
theorem TXc.ft {σ' : gM} (X : TXc σ L tc) (F : FT σ σ') : TXc σ' L tc := by
  refine ⟨X.1, (F.2 2 (by decide) (by decide)).trans X.2.1, fun j hj => ?_⟩
  rw [F.1 113 (by decide) (by decide) (by decide) (by decide)]
  exact X.2.2 j hj
theorem un_c {c : Nat} (h : c ≠ 111) : UN σ c = σ c := gset_ne h
theorem ad_c {c p : Nat} (h : c ≠ 111) : AD σ p c = σ c := gset_ne h
theorem un3 : UN σ 111 3 = σ 111 3 := by
  unfold UN
  rw [gset_at, pk_un (by decide)]
theorem un4 : UN σ 111 4 = 0 := by
  unfold UN
  rw [gset_at, pk_us]
theorem ad3 {p : Nat} : AD σ p 111 3 = nI p := by
  unfold AD
  rw [gset_at, pk_us]
theorem ad4 {p : Nat} : AD σ p 111 4 = 1 := by
  unfold AD
  rw [gset_at, pk_un (by decide), pk_us]
theorem FT.un : FT σ (UN σ) := ⟨fun c h1 _ _ _ => un_c h1, fun j h1 h2 => by unfold UN; rw [gset_at, pk_un h2]⟩
theorem FT.ad {p : Nat} : FT σ (AD σ p) := ⟨fun c h1 _ _ _ => ad_c h1, fun j h1 h2 => by unfold AD; rw [gset_at, pk_un h1, pk_un h2]⟩
theorem UNUN : UN (UN σ) = UN σ := by
  unfold UN
  rw [gset_at, gset2, updd]
def UE (σ : gM) (e : Nat) (a b : Int32) : gM := gset (gset σ 116 (upd (σ 116) e a)) 118 (upd (σ 118) e b)
theorem FT.ue {e : Nat} {a b : Int32} : FT σ (UE σ e a b) := ⟨fun c h1 h2 h3 h4 => by unfold UE; rw [gset_ne h4, gset_ne h3], fun j _ _ => by unfold UE; rw [gset_ne (by decide), gset_ne (by decide)]⟩
theorem ue_1 {e : Nat} {a b : Int32} : UE σ e a b 111 = σ 111 := by
  unfold UE
  rw [gset_ne (by decide), gset_ne (by decide)]
theorem ue_4 {e : Nat} {a b : Int32} : UE σ e a b 114 = σ 114 := by
  unfold UE
  rw [gset_ne (by decide), gset_ne (by decide)]
theorem ue_6 {e : Nat} {a b : Int32} : UE σ e a b 116 = upd (σ 116) e a := by
  unfold UE
  rw [gset_ne (by decide), gset_at]
theorem ue_8 {e : Nat} {a b : Int32} : UE σ e a b 118 = upd (σ 118) e b := by
  unfold UE
  rw [gset_at]
theorem se4 {e : Nat} {a b : Int32} (he : e < 4) : fX1_setEdge σ (111 + 3) (nI e) a b = some (UE σ e a b) := by
  unfold fX1_setEdge
  rw [set_in (show e < gln (111 + 3 + 1 + 1) by rw [show gln (111 + 3 + 1 + 1) = 4 by decide]; exact he), Option.bind_some, set_in (show e < gln (111 + 3 + 3 + 1) by rw [show gln (111 + 3 + 3 + 1) = 4 by decide]; exact he), Option.bind_some, show gset σ (111 + 3 + 1 + 1) (upd (σ (111 + 3 + 1 + 1)) e a) (111 + 3 + 3 + 1) = σ 118 from gset_ne (by decide)]
  rfl
/-- the class has failed at q -/
def CF (σ : gM) (q : Nat) (σ' : gM) : Prop := FT σ σ' ∧ σ' 111 4 = 0 ∧ σ' 111 3 = nI q
/-- the class has read an edge and stands at q -/
def CY (σ : gM) (q e : Nat) (P Ln : Int32) (σ' : gM) : Prop := FT σ σ' ∧ σ' 111 4 = 1 ∧ σ' 111 3 = nI q ∧ σ' 116 = upd (σ 116) e P ∧ σ' 118 = upd (σ 118) e Ln ∧ σ' 114 = σ 114
theorem CF.mk {s : gM} {q e : Nat} {a b : Int32} (F : FT σ s) (h3 : s 111 3 = nI q) : CF σ q (UE (UN s) e a b) := ⟨F.tr (FT.un.tr FT.ue), by rw [ue_1]; exact un4, by rw [ue_1, un3]; exact h3⟩
theorem tEu {p e : Nat} (X : TXc σ L tc) (hp : p < 1000) (he : e < 4) (h3 : σ 111 3 = nI p) (h4 : σ 111 4 = 0) : ∃ σ', fX7_takeEdge σ 111 (nI e) = some σ' ∧ CF σ p σ' := by
  have Xu := X.ft FT.un
  have u3 : UN σ 111 3 = nI p := un3.trans h3
  unfold fX7_takeEdge
  rw [nxt8 X hp h3, Option.bind_some]
  by_cases c : (if p < L then nI (ch L tc p) else -1) = 45
  · rw [if_pos c, tSu h4, Option.bind_some, tSu un4, Option.bind_some, UNUN, tDu Xu hp u3 un4, bp, UNUN, se4 he, Option.bind_some]
    exact ⟨_, rfl, CF.mk FT.rf h3⟩
  · rw [if_neg c, tDu X hp h3 h4, bp, gl_e, tDu Xu hp u3 un4, bp, gl_e, UNUN, tDu Xu hp u3 un4, bp, gl_e, UNUN, tSu un4, Option.bind_some, UNUN, tDu Xu hp u3 un4, bp, UNUN, se4 he, Option.bind_some]
    exact ⟨_, rfl, CF.mk FT.rf h3⟩
def dg (L : Nat) (tc : Nat → Nat) (p : Nat) : Prop := 48 ≤ ch L tc p ∧ ch L tc p ≤ 57
theorem tD9 {p : Nat} (X : TXc σ L tc) (hp : p < 1000) (h3 : σ 111 3 = nI p) (h4 : σ 111 4 = 1) : (dg L tc p → fX7_takeDigit σ 111 9 = some (nI (ch L tc p - 48), AD σ (p + 1))) ∧ (¬ dg L tc p → fX7_takeDigit σ 111 9 = some (0, UN σ)) := by
  have := tD (m := 9) X hp h3 h4 (by decide)
  exact ⟨fun c => this.trans (congrArg some (if_pos c)), fun c => this.trans (congrArg some (if_neg c))⟩
theorem cMin {p e : Nat} (X : TXc σ L tc) (hp : p < 900) (he : e < 4) (h3 : σ 111 3 = nI p) (h4 : σ 111 4 = 1) (c0 : ch L tc p = 45) : ∃ σ', fX7_takeEdge σ 111 (nI e) = some σ' ∧ (¬ ch L tc (p + 1) = 47 → CF σ (p + 1) σ') ∧ (ch L tc (p + 1) = 47 → ¬ ch L tc (p + 2) = 48 → CF σ (p + 2) σ') ∧ (ch L tc (p + 1) = 47 → ch L tc (p + 2) = 48 → CY σ (p + 3) e (-1) 0 σ') := by
  have hc := ch_lt X p
  have n45 : (if p < L then nI (ch L tc p) else -1) = 45 ↔ ch L tc p = 45 := nx_eq hc (by decide) (by decide)
  have Xa := X.ft (FT.ad (p := p + 1))
  have Xa2 := Xa.ft (FT.ad (p := p + 2))
  have Xu := Xa.ft FT.un
  unfold fX7_takeEdge
  rw [nxt8 X (by omega) h3, Option.bind_some, if_pos (n45.mpr c0), show fX7_takeSign σ 111 45 = _ from tS (a := 45) X (by omega) h3 h4 (by decide) (by decide), if_pos c0, Option.bind_some, show fX7_takeSign (AD σ (p + 1)) 111 47 = _ from tS (a := 47) Xa (by omega) ad3 ad4 (by decide) (by decide)]
  by_cases c1 : ch L tc (p + 1) = 47
  · have d := tD (m := 0) Xa2 (by omega) ad3 ad4 (by decide)
    rw [if_pos c1, Option.bind_some, show fX7_takeDigit (AD (AD σ (p + 1)) (p + 1 + 1)) 111 0 = _ from d]
    by_cases c2 : ch L tc (p + 2) = 48
    · rw [if_pos (by omega), bp, se4 he, Option.bind_some]
      refine ⟨_, rfl, fun q => absurd c1 q, fun _ q => absurd c2 q, fun _ _ => ⟨FT.ad.tr (FT.ad.tr (FT.ad.tr FT.ue)), ?_, ?_, ?_, ?_, ?_⟩⟩
      · rw [ue_1, ad4]
      · rw [ue_1, ad3]
      · rw [ue_6, ad_c (by decide), ad_c (by decide), ad_c (by decide)]
      · rw [ue_8, ad_c (by decide), ad_c (by decide), ad_c (by decide), c2]
        rfl
      · rw [ue_4, ad_c (by decide), ad_c (by decide), ad_c (by decide)]
    · rw [if_neg (by omega), bp, se4 he, Option.bind_some]
      exact ⟨_, rfl, fun q => absurd c1 q, fun _ _ => CF.mk (FT.ad.tr FT.ad) ad3, fun _ q => absurd q c2⟩
  · rw [if_neg c1, Option.bind_some, tDu Xu (show p + 1 < 1000 by omega) (un3.trans ad3) un4, bp, UNUN, se4 he, Option.bind_some]
    exact ⟨_, rfl, fun _ => CF.mk FT.ad ad3, fun q => absurd q c1, fun q => absurd q c1⟩
theorem w100 (a b c : Nat) : ((nI a * 100) + (nI b * 10)) + nI c = nI (10 * (10 * (10 * 0 + a) + b) + c) := by
  rw [show (100 : Int32) = nI 100 from rfl, show (10 : Int32) = nI 10 from rfl, pk_mul, pk_mul, nIa, nIa]
  exact congrArg nI (by omega)
theorem cDig {p e : Nat} (X : TXc σ L tc) (hp : p < 900) (he : e < 4) (h3 : σ 111 3 = nI p) (h4 : σ 111 4 = 1) (c0 : ¬ ch L tc p = 45) : ∃ σ', fX7_takeEdge σ 111 (nI e) = some σ' ∧ (¬ dg L tc p → CF σ p σ') ∧ (dg L tc p → ¬ dg L tc (p + 1) → CF σ (p + 1) σ') ∧ (dg L tc p → dg L tc (p + 1) → ¬ dg L tc (p + 2) → CF σ (p + 2) σ') ∧ (dg L tc p → dg L tc (p + 1) → dg L tc (p + 2) → ¬ ch L tc (p + 3) = 47 → CF σ (p + 3) σ') ∧ (dg L tc p → dg L tc (p + 1) → dg L tc (p + 2) → ch L tc (p + 3) = 47 → ¬ dg L tc (p + 4) → CF σ (p + 4) σ') ∧ (dg L tc p → dg L tc (p + 1) → dg L tc (p + 2) → ch L tc (p + 3) = 47 → dg L tc (p + 4) → CY σ (p + 5) e (nI (10 * (10 * (10 * 0 + (ch L tc p - 48)) + (ch L tc (p + 1) - 48)) + (ch L tc (p + 2) - 48))) (nI (ch L tc (p + 4) - 48)) σ') := by
  have hc := ch_lt X p
  have n45 : (if p < L then nI (ch L tc p) else -1) = 45 ↔ ch L tc p = 45 := nx_eq hc (by decide) (by decide)
  have F1 : FT σ (AD σ (p + 1)) := FT.ad
  have F2 : FT σ (AD (AD σ (p + 1)) (p + 1 + 1)) := F1.tr FT.ad
  have F3 : FT σ (AD (AD (AD σ (p + 1)) (p + 1 + 1)) (p + 2 + 1)) := F2.tr FT.ad
  have F4 : FT σ (AD (AD (AD (AD σ (p + 1)) (p + 1 + 1)) (p + 2 + 1)) (p + 3 + 1)) := F3.tr FT.ad
  have X1 := X.ft F1
  have X2 := X.ft F2
  have X3 := X.ft F3
  have X4 := X.ft F4
  have k0 := tD9 X (by omega) h3 h4
  have k1 := tD9 (p := p + 1) X1 (by omega) ad3 ad4
  have k2 := tD9 (p := p + 2) X2 (by omega) ad3 ad4
  have k4 := tD9 (p := p + 4) X4 (by omega) ad3 ad4
  unfold fX7_takeEdge
  rw [nxt8 X (by omega) h3, Option.bind_some, if_neg (fun q => c0 (n45.mp q))]
  by_cases d0 : dg L tc p
  · rw [k0.1 d0, bp, gl_e]
    by_cases d1 : dg L tc (p + 1)
    · rw [k1.1 d1, bp, gl_e]
      by_cases d2 : dg L tc (p + 2)
      · rw [k2.1 d2, bp, gl_e, show fX7_takeSign (AD (AD (AD σ (p + 1)) (p + 1 + 1)) (p + 2 + 1)) 111 47 = _ from tS (p := p + 3) (a := 47) X3 (by omega) ad3 ad4 (by decide) (by decide)]
        by_cases d3 : ch L tc (p + 3) = 47
        · rw [if_pos d3, Option.bind_some]
          by_cases d4 : dg L tc (p + 4)
          · rw [k4.1 d4, bp, se4 he, Option.bind_some, w100]
            refine ⟨_, rfl, fun q => absurd d0 q, fun _ q => absurd d1 q, fun _ _ q => absurd d2 q, fun _ _ _ q => absurd d3 q, fun _ _ _ _ q => absurd d4 q, fun _ _ _ _ _ => ⟨F4.tr (FT.ad.tr FT.ue), ?_, ?_, ?_, ?_, ?_⟩⟩
            · rw [ue_1, ad4]
            · rw [ue_1, ad3]
            · rw [ue_6, ad_c (by decide), ad_c (by decide), ad_c (by decide), ad_c (by decide), ad_c (by decide)]
            · rw [ue_8, ad_c (by decide), ad_c (by decide), ad_c (by decide), ad_c (by decide), ad_c (by decide)]
            · rw [ue_4, ad_c (by decide), ad_c (by decide), ad_c (by decide), ad_c (by decide), ad_c (by decide)]
          · rw [k4.2 d4, bp, se4 he, Option.bind_some]
            exact ⟨_, rfl, fun q => absurd d0 q, fun _ q => absurd d1 q, fun _ _ q => absurd d2 q, fun _ _ _ q => absurd d3 q, fun _ _ _ _ _ => CF.mk F4 ad3, fun _ _ _ _ q => absurd q d4⟩
        · rw [if_neg d3, Option.bind_some, tDu (p := p + 3) (X3.ft FT.un) (by omega) (un3.trans ad3) un4, bp, UNUN, se4 he, Option.bind_some]
          exact ⟨_, rfl, fun q => absurd d0 q, fun _ q => absurd d1 q, fun _ _ q => absurd d2 q, fun _ _ _ _ => CF.mk F3 ad3, fun _ _ _ q => absurd q d3, fun _ _ _ q => absurd q d3⟩
      · rw [k2.2 d2, bp, gl_e, tSu un4, Option.bind_some, UNUN, tDu (p := p + 2) (X2.ft FT.un) (by omega) (un3.trans ad3) un4, bp, UNUN, se4 he, Option.bind_some]
        exact ⟨_, rfl, fun q => absurd d0 q, fun _ q => absurd d1 q, fun _ _ _ => CF.mk F2 ad3, fun _ _ q => absurd q d2, fun _ _ q => absurd q d2, fun _ _ q => absurd q d2⟩
    · rw [k1.2 d1, bp, gl_e, tDu (p := p + 1) (X1.ft FT.un) (by omega) (un3.trans ad3) un4, bp, gl_e, UNUN, tSu un4, Option.bind_some, UNUN, tDu (p := p + 1) (X1.ft FT.un) (by omega) (un3.trans ad3) un4, bp, UNUN, se4 he, Option.bind_some]
      exact ⟨_, rfl, fun q => absurd d0 q, fun _ _ => CF.mk F1 ad3, fun _ q => absurd q d1, fun _ q => absurd q d1, fun _ q => absurd q d1, fun _ q => absurd q d1⟩
  · rw [k0.2 d0, bp, gl_e, tDu (p := p) (X.ft FT.un) (by omega) (un3.trans h3) un4, bp, gl_e, UNUN, tDu (p := p) (X.ft FT.un) (by omega) (un3.trans h3) un4, bp, gl_e, UNUN, tSu un4, Option.bind_some, UNUN, tDu (p := p) (X.ft FT.un) (by omega) (un3.trans h3) un4, bp, UNUN, se4 he, Option.bind_some]
    exact ⟨_, rfl, fun _ => CF.mk FT.rf h3, fun q => absurd q d0, fun q => absurd q d0, fun q => absurd q d0, fun q => absurd q d0, fun q => absurd q d0⟩
