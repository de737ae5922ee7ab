/-! READING THE TEXT: signs and digits -/
def ch (L : Nat) (tc : Nat → Nat) (p : Nat) : Nat := if p < L then tc p else 0
def TXc (σ : gM) (L : Nat) (tc : Nat → Nat) : Prop := L ≤ 60 ∧ σ 111 2 = nI L ∧ ∀ j, j < L → σ 113 j = nI (tc j) ∧ 32 ≤ tc j ∧ tc j ≤ 126
def TXr (τ : gM) (L : Nat) (tc : Nat → Nat) : Prop := L ≤ 60 ∧ τ 124 4 = nI L ∧ ∀ j, j < L → τ 127 j = nI (tc j) ∧ 32 ≤ tc j ∧ tc j ≤ 126
theorem TT.tx {σ τ : gM} (T : TT σ τ) : ∃ L tc, TXc σ L tc ∧ TXr τ L tc := by
  obtain ⟨L, hL, t1, t2, H⟩ := T
  refine ⟨L, fun j => (σ 113 j).toNatClampNeg, ⟨hL, t1, fun j hj => ?_⟩, ⟨hL, t2, fun j hj => ?_⟩⟩
  · obtain ⟨c, c1, c2, c3, c4⟩ := H j hj
    have e : (σ 113 j).toNatClampNeg = c := by rw [c3, nI_cl (by omega)]
    exact ⟨by show σ 113 j = nI (σ 113 j).toNatClampNeg; rw [e]; exact c3, by show 32 ≤ (σ 113 j).toNatClampNeg; omega, by show (σ 113 j).toNatClampNeg ≤ 126; omega⟩
  · obtain ⟨c, c1, c2, c3, c4⟩ := H j hj
    have e : (σ 113 j).toNatClampNeg = c := by rw [c3, nI_cl (by omega)]
    exact ⟨by show τ 127 j = nI (σ 113 j).toNatClampNeg; rw [e]; exact c4, by show 32 ≤ (σ 113 j).toNatClampNeg; omega, by show (σ 113 j).toNatClampNeg ≤ 126; omega⟩
variable {σ τ : gM} {L : Nat} {tc : Nat → Nat}
theorem ch_lt (X : TXc σ L tc) (p : Nat) : ch L tc p ≤ 126 := by
  unfold ch
  split
  · exact (X.2.2 p (by assumption)).2.2
  · omega
theorem ch_lt9 (X : TXr τ L tc) (p : Nat) : ch L tc p ≤ 126 := by
  unfold ch
  split
  · exact (X.2.2 p (by assumption)).2.2
  · omega
theorem ch_in {p a : Nat} (h : ch L tc p = a) (ha : 1 ≤ a) : p < L := by
  unfold ch at h
  by_cases c : p < L
  · exact c
  · rw [if_neg c] at h
    omega
theorem nxt8 (X : TXc σ L tc) {p : Nat} (hp : p < 1000) (h3 : σ 111 3 = nI p) : fX7_next σ 111 = some (if p < L then nI (ch L tc p) else -1) := by
  have hL := X.1
  unfold fX7_next
  rw [X.2.1, h3]
  by_cases c : p < L
  · rw [if_neg (nI_ge c (by omega)), get_in (show p < gln (111 + 1 + 1) by rw [show gln (111 + 1 + 1) = 60 by decide]; omega), Option.bind_some, if_pos c, show σ (111 + 1 + 1) p = nI (tc p) from (X.2.2 p c).1]
    unfold ch
    rw [if_pos c]
  · rw [if_pos (nI_le (by omega) (by omega)), if_neg c]
theorem nx_eq {p a : Nat} (hc : ch L tc p ≤ 126) (ha : 1 ≤ a) (ha' : a < 1000) : (if p < L then nI (ch L tc p) else -1) = nI a ↔ ch L tc p = a := by
  by_cases c : p < L
  · rw [if_pos c]
    exact nI_eq (by omega) (by omega)
  · rw [if_neg c]
    refine ⟨fun q => absurd q (m1_ne' (by omega)), fun q => absurd (ch_in q ha) c⟩
/-- not sound any more -/
def UN (σ : gM) : gM := gset σ 111 (upd (σ 111) 4 0)
/-- sound, one sign on -/
def AD (σ : gM) (p : Nat) : gM := gset σ 111 (upd (upd (σ 111) 4 1) 3 (nI p))
theorem tSu {a : Int32} (h4 : σ 111 4 = 0) : fX7_takeSign σ 111 a = some (UN σ) := by
  unfold fX7_takeSign
  rw [if_pos h4, gl_e, if_pos (show gset σ 111 (upd (σ 111) 4 0) 111 4 = 0 by rw [gset_at, pk_us])]
  rfl
theorem tS {p a : Nat} (X : TXc σ L tc) (hp : p < 1000) (h3 : σ 111 3 = nI p) (h4 : σ 111 4 = 1) (ha : 1 ≤ a) (ha' : a < 1000) : fX7_takeSign σ 111 (nI a) = some (if ch L tc p = a then AD σ (p + 1) else UN σ) := by
  have hc := ch_lt X p
  unfold fX7_takeSign
  rw [if_neg (show ¬ σ 111 4 = 0 by rw [h4]; decide), nxt8 X hp h3, Option.bind_some]
  by_cases c : ch L tc p = a
  · rw [if_pos ((nx_eq hc ha ha').mpr c), if_pos c, gl_e, if_neg (show ¬ gset σ 111 (upd (σ 111) 4 1) 111 4 = 0 by rw [gset_at, pk_us]; decide), gl_e, gset_at, pk_un (by decide), h3, nIa1, gset2]
    rfl
  · rw [if_neg (fun q => c ((nx_eq hc ha ha').mp q)), if_neg c, gl_e, if_pos (show gset σ 111 (upd (σ 111) 4 0) 111 4 = 0 by rw [gset_at, pk_us])]
    rfl
theorem tDu {p : Nat} {a : Int32} (X : TXc σ L tc) (hp : p < 1000) (h3 : σ 111 3 = nI p) (h4 : σ 111 4 = 0) : fX7_takeDigit σ 111 a = some (0, UN σ) := by
  unfold fX7_takeDigit
  rw [nxt8 X hp h3, Option.bind_some, gl_e, if_pos h4, gl_e, if_pos (show gset σ 111 (upd (σ 111) 4 0) 111 4 = 0 by rw [gset_at, pk_us])]
  rfl
theorem neg48 {c : Nat} (hc : c < 48) : nI c - 48 < 0 := by
  have e : (nI c - 48).toInt = (c : Int) - 48 := pk_sub_toInt (a := c) (b := 48) (by omega) (by decide)
  refine Int32.lt_iff_toInt_lt.mpr ?_
  show (nI c - 48).toInt < 0
  omega
theorem sub48 {c : Nat} (hc : 48 ≤ c) : nI c - 48 = nI (c - 48) := pk_sub (b := 48) hc
theorem tD {p m : Nat} (X : TXc σ L tc) (hp : p < 1000) (h3 : σ 111 3 = nI p) (h4 : σ 111 4 = 1) (hm : m < 100) : fX7_takeDigit σ 111 (nI m) = some (if 48 ≤ ch L tc p ∧ ch L tc p ≤ 48 + m then (nI (ch L tc p - 48), AD σ (p + 1)) else (0, UN σ)) := by
  have hc := ch_lt X p
  have n4 : ¬ σ 111 4 = 0 := by rw [h4]; decide
  unfold fX7_takeDigit
  rw [nxt8 X hp h3, Option.bind_some, gl_e, if_neg n4]
  have zu : gset σ 111 (upd (σ 111) 4 0) 111 4 = 0 := by rw [gset_at, pk_us]
  by_cases c : p < L
  · rw [if_pos c]
    by_cases c1 : ch L tc p < 48
    · rw [if_pos (neg48 c1), gl_e, if_pos zu, if_neg (by omega)]
      rfl
    · rw [sub48 (by omega), if_neg (nI_pos (by omega))]
      by_cases c2 : ch L tc p ≤ 48 + m
      · rw [if_neg (nI_nlt (by omega) (by omega)), gl_e, if_neg (show ¬ gset σ 111 (upd (σ 111) 4 1) 111 4 = 0 by rw [gset_at, pk_us]; decide), gl_e, gset_at, pk_un (by decide), h3, nIa1, gset2, if_pos (by omega)]
        rfl
      · rw [if_pos (nI_lt (by omega) (by omega)), gl_e, if_pos zu, if_neg (by omega)]
        rfl
  · rw [if_neg c, if_pos (show (-1 : Int32) - 48 < 0 by decide), gl_e, if_pos zu, if_neg (fun q => c (ch_in rfl (show 1 ≤ ch L tc p by omega)))]
    rfl
theorem sig9 {p : Nat} (X : TXr τ L tc) (hp : p < 1000) : fX9_signAt τ 124 (nI p) = some (nI (ch L tc p)) := by
  have hL := X.1
  unfold fX9_signAt ch
  rw [X.2.1]
  by_cases c : p < L
  · rw [if_neg (nI_ge c (by omega)), if_pos (nI_in (N := gln (124 + 3)) (show p < 60 by omega) (by decide)), nI_cl (n := p) (by omega), if_pos c, show τ (124 + 3) p = nI (tc p) from (X.2.2 p c).1]
  · rw [if_pos (nI_le (by omega) (by omega)), if_neg c]
    rfl
theorem inD {c lo hi : Nat} (hc : c ≤ 126) (hl : lo ≤ 126) (hh : hi ≤ 126) : inI (nI c) (nI lo) (nI hi) = if lo ≤ c ∧ c ≤ hi then 1 else 0 := by
  unfold inI
  by_cases c1 : c < lo
  · rw [if_pos (nI_lt c1 (by omega)), if_neg (by omega)]
  · rw [if_neg (nI_nlt (by omega) (by omega))]
    by_cases c2 : hi < c
    · rw [if_pos (nI_lt c2 (by omega)), if_neg (by omega)]
    · rw [if_neg (nI_nlt (by omega) (by omega)), if_pos (by omega)]
theorem dig9 {p : Nat} (X : TXr τ L tc) (hp : p < 1000) : fX9_isDigit τ 124 (nI p) = some (if 48 ≤ ch L tc p ∧ ch L tc p ≤ 57 then 1 else 0) := by
  unfold fX9_isDigit
  rw [sig9 X hp, Option.bind_some, in9e, show inI (nI (ch L tc p)) 48 57 = if 48 ≤ ch L tc p ∧ ch L tc p ≤ 57 then 1 else 0 from inD (lo := 48) (hi := 57) (ch_lt9 X p) (by decide) (by decide), Option.bind_some]
  by_cases c : 48 ≤ ch L tc p ∧ ch L tc p ≤ 57
  · rw [if_pos c, if_pos (Or.inr rfl)]
  · rw [if_neg c, if_pos (Or.inl rfl)]
theorem rd9 {p a : Nat} (X : TXr τ L tc) (h : ch L tc p = a) (ha : 1 ≤ a) : τ 127 p = nI a ∧ ¬ (nI p < 0 ∨ gln (124 + 3) ≤ (nI p).toNatClampNeg) := by
  have hl := ch_in h ha
  have hL := X.1
  refine ⟨?_, nI_in (N := gln (124 + 3)) (show p < 60 by omega) (by decide)⟩
  rw [(X.2.2 p hl).1]
  unfold ch at h
  rw [if_pos hl] at h
  rw [h]
