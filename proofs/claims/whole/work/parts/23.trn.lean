/-! THE REFERENCE TURNS A SCRAP: all of it -/
theorem c129n {k : Nat} (h : k < 4) : ¬ (nI k < 0 ∨ gln (124 + 5) ≤ k) := by
  have := c129 h
  rw [nI_cl (by omega)] at this
  exact this
theorem cp1_odd {σ : gM} {a2 : Int32} {s i n : Nat} (hs : s < 12) (hi : i = 1 ∨ i = 3) : fX9_turns_14 124 (nI s) a2 (n + 1) σ 1 (nI i) = fX9_turns_14 124 (nI s) a2 n (cpM σ i (σ 125 (3 + 4 * s + (4 - i))) (if σ 125 (99 + s) = 0 then 0 else σ 125 (51 + 4 * s + (4 - i)))) 1 (nI (i + 1)) := by
  have hr : nI i - nI i / 2 * 2 = 1 := by rcases hi with rfl | rfl <;> decide
  have hq : (4 : Int32) - nI i = nI (4 - i) := by rcases hi with rfl | rfl <;> rfl
  have hi4 : i < 4 := by omega
  rw [fX9_turns_14, if_neg (show ¬ (4 : Int32) ≤ nI i from nI_ge hi4 (by decide)), if_neg n10, hr, if_pos rfl, gl_e, hq, ix3, if_pos (c125 (by omega)), gl_e, if_neg n10, if_pos (c128 hi4), gl_e, ix99, if_pos (c125 (by omega)), nI_cl (by omega), nI_cl (by omega), nI_cl (by omega)]
  by_cases c : σ 125 (99 + s) = 0
  · rw [if_pos (show gset σ (124 + 4) _ (124 + 1) (99 + s) = 0 from c), if_pos (c129n hi4), gl_e, gl_e, nIa1, if_pos c]
    rfl
  · rw [if_neg (show ¬ gset σ (124 + 4) _ (124 + 1) (99 + s) = 0 from c), ix51, if_pos (c125 (by omega)), if_pos (c129n hi4), gl_e, gl_e, nI_cl (by omega), nIa1, if_neg c]
    rfl
theorem cp1_even {σ : gM} {a2 : Int32} {s i n : Nat} (hs : s < 12) (hi : i = 0 ∨ i = 2) : fX9_turns_14 124 (nI s) a2 (n + 1) σ 1 (nI i) = fX9_turns_14 124 (nI s) a2 n (cpM σ i (rv9 (σ 125 (3 + 4 * s + i))) (if σ 125 (99 + s) = 0 then 0 else σ 125 (51 + 4 * s + i))) 1 (nI (i + 1)) := by
  have hr : nI i - nI i / 2 * 2 = 0 := by rcases hi with rfl | rfl <;> decide
  have hi4 : i < 4 := by omega
  rw [fX9_turns_14, if_neg (show ¬ (4 : Int32) ≤ nI i from nI_ge hi4 (by decide)), if_neg n10, hr, if_neg n01, ix3, if_pos (c125 (by omega)), gl_e, if_pos rfl, rv9_e, Option.bind_some, if_pos (c128 hi4), gl_e, ix99, if_pos (c125 (by omega)), nI_cl (by omega), nI_cl (by omega), nI_cl (by omega)]
  by_cases c : σ 125 (99 + s) = 0
  · rw [if_pos (show gset σ (124 + 4) _ (124 + 1) (99 + s) = 0 from c), if_pos (c129n hi4), gl_e, gl_e, nIa1, if_pos c]
    rfl
  · rw [if_neg (show ¬ gset σ (124 + 4) _ (124 + 1) (99 + s) = 0 from c), ix51, if_pos (c125 (by omega)), if_pos (c129n hi4), gl_e, gl_e, nI_cl (by omega), nIa1, if_neg c]
    rfl
theorem cps0 {σ : gM} {a2 : Int32} {s m : Nat} (hs : s < 12) : fX9_turns_14 124 (nI s) a2 (m + 5) σ 0 (nI 0) = fX9_turns_136 124 (nI s) a2 gF (cpM (cpM (cpM (cpM σ 0 (σ 125 (3 + 4 * s + 0)) (σ 125 (51 + 4 * s + 0))) 1 (σ 125 (3 + 4 * s + 1)) (σ 125 (51 + 4 * s + 1))) 2 (σ 125 (3 + 4 * s + 2)) (σ 125 (51 + 4 * s + 2))) 3 (σ 125 (3 + 4 * s + 3)) (σ 125 (51 + 4 * s + 3))) 0 := by
  rw [cp0_step hs (by decide), cp0_step hs (by decide), cp0_step hs (by decide), cp0_step hs (by decide), cp_end]
  rfl
def kl (f : Nat → Int32) (s i : Nat) : Int32 := if f (99 + s) = 0 then 0 else f (51 + 4 * s + i)
theorem cps1 {σ : gM} {a2 : Int32} {s m : Nat} (hs : s < 12) : fX9_turns_14 124 (nI s) a2 (m + 5) σ 1 (nI 0) = fX9_turns_136 124 (nI s) a2 gF (cpM (cpM (cpM (cpM σ 0 (rv9 (σ 125 (3 + 4 * s + 0))) (kl (σ 125) s 0)) 1 (σ 125 (3 + 4 * s + 3)) (kl (σ 125) s 3)) 2 (rv9 (σ 125 (3 + 4 * s + 2))) (kl (σ 125) s 2)) 3 (σ 125 (3 + 4 * s + 1)) (kl (σ 125) s 1)) 0 := by
  rw [cp1_even hs (by decide), cp1_odd hs (by decide), cp1_even hs (by decide), cp1_odd hs (by decide), cp_end]
  rfl
def pv (x : Int32) : Prop := x = -1 ∨ ∃ v, v ≤ 999 ∧ x = nI v
def rN (v : Nat) : Nat := v % 10 * 100 + v / 10 % 10 * 10 + v / 100
theorem rN_le : ∀ v, v < 1000 → rN v ≤ 999 ∧ rN (rN v) = v := by decide +kernel
theorem rv9_n {v : Nat} (h : v ≤ 999) : rv9 (nI v) = nI (rN v) := by
  unfold rv9 rN
  rw [if_pos (nI_pos' (by omega)), show (10 : Int32) = nI 10 from rfl, show (100 : Int32) = nI 100 from rfl, pk_rem (by omega) (by omega) (by omega), pk_div (by omega) (by omega) (by omega), pk_rem (by omega) (by omega) (by omega), pk_div (by omega) (by omega) (by omega), pk_mul, pk_mul, nIa, nIa]
theorem R1 {x : Int32} (h : pv x) : rv9 x = rev x := by
  rcases h with rfl | ⟨v, h, rfl⟩
  · rfl
  · unfold rev rv9
    rw [if_neg (m1_ne (by omega)), if_pos (nI_pos' (by omega))]
theorem R2 {x : Int32} (h : pv x) : rv9 (rv9 x) = x := by
  rcases h with rfl | ⟨v, h, rfl⟩
  · rfl
  · have := rN_le v (by omega)
    rw [rv9_n h, rv9_n this.1, this.2]
theorem R3 {x : Int32} (h : pv x) : rv9 (rv9 (rv9 x)) = rev x := by rw [R2 h, R1 h]
theorem gF4 : ∃ m, gF = m + 4 := ⟨999999999999999996, rfl⟩
theorem gF5 : ∃ m, gF = m + 5 := ⟨999999999999999995, rfl⟩
theorem trn_0 {τ : gM} {s : Nat} (hs : s < 12) (hp : ∀ e, e < 4 → pv (τ 125 (3 + 4 * s + e))) : ∃ τ', fX9_turns τ 124 (nI s) (nI 0) = some τ' ∧ Off2 τ τ' ∧ ∀ e, e < 4 → τ' 128 e = tP (τ 125) s 0 e ∧ τ' 129 e = tL (τ 125) s 0 e := by
  obtain ⟨m4, g4⟩ := gF4
  obtain ⟨m5, g5⟩ := gF5
  refine ⟨(cpM (cpM (cpM (cpM τ 0 (τ 125 (3 + 4 * s + 0)) (τ 125 (51 + 4 * s + 0))) 1 (τ 125 (3 + 4 * s + 1)) (τ 125 (51 + 4 * s + 1))) 2 (τ 125 (3 + 4 * s + 2)) (τ 125 (51 + 4 * s + 2))) 3 (τ 125 (3 + 4 * s + 3)) (τ 125 (51 + 4 * s + 3))), ?_, (((cp_off _ _ _ _).tr (cp_off _ _ _ _)).tr ((cp_off _ _ _ _).tr (cp_off _ _ _ _))), ?_⟩
  · unfold fX9_turns
    rw [if_pos (show nI 0 ≤ (3 : Int32) by decide)]
    have e : fX9_turns_14 124 (nI s) (nI 0) gF τ 0 (nI 0) = _ := (congrArg (fun g => fX9_turns_14 124 (nI s) (nI 0) g τ 0 (nI 0)) g5).trans (cps0 hs)
    refine e.trans ?_
    rw [g4]
    rw [rot_end (by decide)]
  · intro e he
    rcases (show e = 0 ∨ e = 1 ∨ e = 2 ∨ e = 3 by omega) with rfl | rfl | rfl | rfl
    · exact ⟨(show τ 125 (3 + 4 * s + 0) = τ 125 (3 + 4 * s + 0) from rfl), (show τ 125 (51 + 4 * s + 0) = tL (τ 125) s 0 0 by rw [tL, if_neg (by omega)]; rfl)⟩
    · exact ⟨(show τ 125 (3 + 4 * s + 1) = τ 125 (3 + 4 * s + 1) from rfl), (show τ 125 (51 + 4 * s + 1) = tL (τ 125) s 0 1 by rw [tL, if_neg (by omega)]; rfl)⟩
    · exact ⟨(show τ 125 (3 + 4 * s + 2) = τ 125 (3 + 4 * s + 2) from rfl), (show τ 125 (51 + 4 * s + 2) = tL (τ 125) s 0 2 by rw [tL, if_neg (by omega)]; rfl)⟩
    · exact ⟨(show τ 125 (3 + 4 * s + 3) = τ 125 (3 + 4 * s + 3) from rfl), (show τ 125 (51 + 4 * s + 3) = tL (τ 125) s 0 3 by rw [tL, if_neg (by omega)]; rfl)⟩
theorem trn_1 {τ : gM} {s : Nat} (hs : s < 12) (hp : ∀ e, e < 4 → pv (τ 125 (3 + 4 * s + e))) : ∃ τ', fX9_turns τ 124 (nI s) (nI 1) = some τ' ∧ Off2 τ τ' ∧ ∀ e, e < 4 → τ' 128 e = tP (τ 125) s 1 e ∧ τ' 129 e = tL (τ 125) s 1 e := by
  obtain ⟨m4, g4⟩ := gF4
  obtain ⟨m5, g5⟩ := gF5
  refine ⟨(rotM (cpM (cpM (cpM (cpM τ 0 (τ 125 (3 + 4 * s + 0)) (τ 125 (51 + 4 * s + 0))) 1 (τ 125 (3 + 4 * s + 1)) (τ 125 (51 + 4 * s + 1))) 2 (τ 125 (3 + 4 * s + 2)) (τ 125 (51 + 4 * s + 2))) 3 (τ 125 (3 + 4 * s + 3)) (τ 125 (51 + 4 * s + 3)))), ?_, ((((cp_off _ _ _ _).tr (cp_off _ _ _ _)).tr ((cp_off _ _ _ _).tr (cp_off _ _ _ _))).tr (rot_off _)), ?_⟩
  · unfold fX9_turns
    rw [if_pos (show nI 1 ≤ (3 : Int32) by decide)]
    have e : fX9_turns_14 124 (nI s) (nI 1) gF τ 0 (nI 0) = _ := (congrArg (fun g => fX9_turns_14 124 (nI s) (nI 1) g τ 0 (nI 0)) g5).trans (cps0 hs)
    refine e.trans ?_
    rw [g4]
    rw [rot_step (by decide), rot_end (by decide)]
  · intro e he
    rcases (show e = 0 ∨ e = 1 ∨ e = 2 ∨ e = 3 by omega) with rfl | rfl | rfl | rfl
    · exact ⟨(show rv9 (τ 125 (3 + 4 * s + 3)) = rev (τ 125 (3 + 4 * s + 3)) from R1 (hp 3 (by decide))), (show τ 125 (51 + 4 * s + 3) = tL (τ 125) s 1 0 by rw [tL, if_neg (by omega)]; rfl)⟩
    · exact ⟨(show τ 125 (3 + 4 * s + 0) = τ 125 (3 + 4 * s + 0) from rfl), (show τ 125 (51 + 4 * s + 0) = tL (τ 125) s 1 1 by rw [tL, if_neg (by omega)]; rfl)⟩
    · exact ⟨(show rv9 (τ 125 (3 + 4 * s + 1)) = rev (τ 125 (3 + 4 * s + 1)) from R1 (hp 1 (by decide))), (show τ 125 (51 + 4 * s + 1) = tL (τ 125) s 1 2 by rw [tL, if_neg (by omega)]; rfl)⟩
    · exact ⟨(show τ 125 (3 + 4 * s + 2) = τ 125 (3 + 4 * s + 2) from rfl), (show τ 125 (51 + 4 * s + 2) = tL (τ 125) s 1 3 by rw [tL, if_neg (by omega)]; rfl)⟩
theorem trn_2 {τ : gM} {s : Nat} (hs : s < 12) (hp : ∀ e, e < 4 → pv (τ 125 (3 + 4 * s + e))) : ∃ τ', fX9_turns τ 124 (nI s) (nI 2) = some τ' ∧ Off2 τ τ' ∧ ∀ e, e < 4 → τ' 128 e = tP (τ 125) s 2 e ∧ τ' 129 e = tL (τ 125) s 2 e := by
  obtain ⟨m4, g4⟩ := gF4
  obtain ⟨m5, g5⟩ := gF5
  refine ⟨(rotM (rotM (cpM (cpM (cpM (cpM τ 0 (τ 125 (3 + 4 * s + 0)) (τ 125 (51 + 4 * s + 0))) 1 (τ 125 (3 + 4 * s + 1)) (τ 125 (51 + 4 * s + 1))) 2 (τ 125 (3 + 4 * s + 2)) (τ 125 (51 + 4 * s + 2))) 3 (τ 125 (3 + 4 * s + 3)) (τ 125 (51 + 4 * s + 3))))), ?_, (((((cp_off _ _ _ _).tr (cp_off _ _ _ _)).tr ((cp_off _ _ _ _).tr (cp_off _ _ _ _))).tr (rot_off _)).tr (rot_off _)), ?_⟩
  · unfold fX9_turns
    rw [if_pos (show nI 2 ≤ (3 : Int32) by decide)]
    have e : fX9_turns_14 124 (nI s) (nI 2) gF τ 0 (nI 0) = _ := (congrArg (fun g => fX9_turns_14 124 (nI s) (nI 2) g τ 0 (nI 0)) g5).trans (cps0 hs)
    refine e.trans ?_
    rw [g4]
    rw [rot_step (by decide), rot_step (by decide), rot_end (by decide)]
  · intro e he
    rcases (show e = 0 ∨ e = 1 ∨ e = 2 ∨ e = 3 by omega) with rfl | rfl | rfl | rfl
    · exact ⟨(show rv9 (τ 125 (3 + 4 * s + 2)) = rev (τ 125 (3 + 4 * s + 2)) from R1 (hp 2 (by decide))), (show τ 125 (51 + 4 * s + 2) = tL (τ 125) s 2 0 by rw [tL, if_neg (by omega)]; rfl)⟩
    · exact ⟨(show rv9 (τ 125 (3 + 4 * s + 3)) = rev (τ 125 (3 + 4 * s + 3)) from R1 (hp 3 (by decide))), (show τ 125 (51 + 4 * s + 3) = tL (τ 125) s 2 1 by rw [tL, if_neg (by omega)]; rfl)⟩
    · exact ⟨(show rv9 (τ 125 (3 + 4 * s + 0)) = rev (τ 125 (3 + 4 * s + 0)) from R1 (hp 0 (by decide))), (show τ 125 (51 + 4 * s + 0) = tL (τ 125) s 2 2 by rw [tL, if_neg (by omega)]; rfl)⟩
    · exact ⟨(show rv9 (τ 125 (3 + 4 * s + 1)) = rev (τ 125 (3 + 4 * s + 1)) from R1 (hp 1 (by decide))), (show τ 125 (51 + 4 * s + 1) = tL (τ 125) s 2 3 by rw [tL, if_neg (by omega)]; rfl)⟩
theorem trn_3 {τ : gM} {s : Nat} (hs : s < 12) (hp : ∀ e, e < 4 → pv (τ 125 (3 + 4 * s + e))) : ∃ τ', fX9_turns τ 124 (nI s) (nI 3) = some τ' ∧ Off2 τ τ' ∧ ∀ e, e < 4 → τ' 128 e = tP (τ 125) s 3 e ∧ τ' 129 e = tL (τ 125) s 3 e := by
  obtain ⟨m4, g4⟩ := gF4
  obtain ⟨m5, g5⟩ := gF5
  refine ⟨(rotM (rotM (rotM (cpM (cpM (cpM (cpM τ 0 (τ 125 (3 + 4 * s + 0)) (τ 125 (51 + 4 * s + 0))) 1 (τ 125 (3 + 4 * s + 1)) (τ 125 (51 + 4 * s + 1))) 2 (τ 125 (3 + 4 * s + 2)) (τ 125 (51 + 4 * s + 2))) 3 (τ 125 (3 + 4 * s + 3)) (τ 125 (51 + 4 * s + 3)))))), ?_, ((((((cp_off _ _ _ _).tr (cp_off _ _ _ _)).tr ((cp_off _ _ _ _).tr (cp_off _ _ _ _))).tr (rot_off _)).tr (rot_off _)).tr (rot_off _)), ?_⟩
  · unfold fX9_turns
    rw [if_pos (show nI 3 ≤ (3 : Int32) by decide)]
    have e : fX9_turns_14 124 (nI s) (nI 3) gF τ 0 (nI 0) = _ := (congrArg (fun g => fX9_turns_14 124 (nI s) (nI 3) g τ 0 (nI 0)) g5).trans (cps0 hs)
    refine e.trans ?_
    rw [g4]
    rw [rot_step (by decide), rot_step (by decide), rot_step (by decide), rot_end (by decide)]
  · intro e he
    rcases (show e = 0 ∨ e = 1 ∨ e = 2 ∨ e = 3 by omega) with rfl | rfl | rfl | rfl
    · exact ⟨(show rv9 (rv9 (τ 125 (3 + 4 * s + 1))) = τ 125 (3 + 4 * s + 1) from R2 (hp 1 (by decide))), (show τ 125 (51 + 4 * s + 1) = tL (τ 125) s 3 0 by rw [tL, if_neg (by omega)]; rfl)⟩
    · exact ⟨(show rv9 (τ 125 (3 + 4 * s + 2)) = rev (τ 125 (3 + 4 * s + 2)) from R1 (hp 2 (by decide))), (show τ 125 (51 + 4 * s + 2) = tL (τ 125) s 3 1 by rw [tL, if_neg (by omega)]; rfl)⟩
    · exact ⟨(show rv9 (rv9 (τ 125 (3 + 4 * s + 3))) = τ 125 (3 + 4 * s + 3) from R2 (hp 3 (by decide))), (show τ 125 (51 + 4 * s + 3) = tL (τ 125) s 3 2 by rw [tL, if_neg (by omega)]; rfl)⟩
    · exact ⟨(show rv9 (τ 125 (3 + 4 * s + 0)) = rev (τ 125 (3 + 4 * s + 0)) from R1 (hp 0 (by decide))), (show τ 125 (51 + 4 * s + 0) = tL (τ 125) s 3 3 by rw [tL, if_neg (by omega)]; rfl)⟩
theorem trn_4 {τ : gM} {s : Nat} (hs : s < 12) (hp : ∀ e, e < 4 → pv (τ 125 (3 + 4 * s + e))) : ∃ τ', fX9_turns τ 124 (nI s) (nI 4) = some τ' ∧ Off2 τ τ' ∧ ∀ e, e < 4 → τ' 128 e = tP (τ 125) s 4 e ∧ τ' 129 e = tL (τ 125) s 4 e := by
  obtain ⟨m4, g4⟩ := gF4
  obtain ⟨m5, g5⟩ := gF5
  refine ⟨(cpM (cpM (cpM (cpM τ 0 (rv9 (τ 125 (3 + 4 * s + 0))) (kl (τ 125) s 0)) 1 (τ 125 (3 + 4 * s + 3)) (kl (τ 125) s 3)) 2 (rv9 (τ 125 (3 + 4 * s + 2))) (kl (τ 125) s 2)) 3 (τ 125 (3 + 4 * s + 1)) (kl (τ 125) s 1)), ?_, (((cp_off _ _ _ _).tr (cp_off _ _ _ _)).tr ((cp_off _ _ _ _).tr (cp_off _ _ _ _))), ?_⟩
  · unfold fX9_turns
    rw [if_neg (show ¬ nI 4 ≤ (3 : Int32) by decide)]
    have e : fX9_turns_14 124 (nI s) (nI 4) gF τ 1 (nI 0) = _ := (congrArg (fun g => fX9_turns_14 124 (nI s) (nI 4) g τ 1 (nI 0)) g5).trans (cps1 hs)
    refine e.trans ?_
    rw [g4]
    rw [rot_end (by decide)]
  · intro e he
    rcases (show e = 0 ∨ e = 1 ∨ e = 2 ∨ e = 3 by omega) with rfl | rfl | rfl | rfl
    · exact ⟨(show rv9 (τ 125 (3 + 4 * s + 0)) = rev (τ 125 (3 + 4 * s + 0)) from R1 (hp 0 (by decide))), (show kl (τ 125) s 0 = tL (τ 125) s 4 0 by unfold tL kl; by_cases c : τ 125 (99 + s) = 0; (rw [if_pos c, if_pos ⟨c, by decide⟩]); (rw [if_neg c, if_neg (fun q => c q.1)]; rfl))⟩
    · exact ⟨(show τ 125 (3 + 4 * s + 3) = τ 125 (3 + 4 * s + 3) from rfl), (show kl (τ 125) s 3 = tL (τ 125) s 4 1 by unfold tL kl; by_cases c : τ 125 (99 + s) = 0; (rw [if_pos c, if_pos ⟨c, by decide⟩]); (rw [if_neg c, if_neg (fun q => c q.1)]; rfl))⟩
    · exact ⟨(show rv9 (τ 125 (3 + 4 * s + 2)) = rev (τ 125 (3 + 4 * s + 2)) from R1 (hp 2 (by decide))), (show kl (τ 125) s 2 = tL (τ 125) s 4 2 by unfold tL kl; by_cases c : τ 125 (99 + s) = 0; (rw [if_pos c, if_pos ⟨c, by decide⟩]); (rw [if_neg c, if_neg (fun q => c q.1)]; rfl))⟩
    · exact ⟨(show τ 125 (3 + 4 * s + 1) = τ 125 (3 + 4 * s + 1) from rfl), (show kl (τ 125) s 1 = tL (τ 125) s 4 3 by unfold tL kl; by_cases c : τ 125 (99 + s) = 0; (rw [if_pos c, if_pos ⟨c, by decide⟩]); (rw [if_neg c, if_neg (fun q => c q.1)]; rfl))⟩
theorem trn_5 {τ : gM} {s : Nat} (hs : s < 12) (hp : ∀ e, e < 4 → pv (τ 125 (3 + 4 * s + e))) : ∃ τ', fX9_turns τ 124 (nI s) (nI 5) = some τ' ∧ Off2 τ τ' ∧ ∀ e, e < 4 → τ' 128 e = tP (τ 125) s 5 e ∧ τ' 129 e = tL (τ 125) s 5 e := by
  obtain ⟨m4, g4⟩ := gF4
  obtain ⟨m5, g5⟩ := gF5
  refine ⟨(rotM (cpM (cpM (cpM (cpM τ 0 (rv9 (τ 125 (3 + 4 * s + 0))) (kl (τ 125) s 0)) 1 (τ 125 (3 + 4 * s + 3)) (kl (τ 125) s 3)) 2 (rv9 (τ 125 (3 + 4 * s + 2))) (kl (τ 125) s 2)) 3 (τ 125 (3 + 4 * s + 1)) (kl (τ 125) s 1))), ?_, ((((cp_off _ _ _ _).tr (cp_off _ _ _ _)).tr ((cp_off _ _ _ _).tr (cp_off _ _ _ _))).tr (rot_off _)), ?_⟩
  · unfold fX9_turns
    rw [if_neg (show ¬ nI 5 ≤ (3 : Int32) by decide)]
    have e : fX9_turns_14 124 (nI s) (nI 5) gF τ 1 (nI 0) = _ := (congrArg (fun g => fX9_turns_14 124 (nI s) (nI 5) g τ 1 (nI 0)) g5).trans (cps1 hs)
    refine e.trans ?_
    rw [g4]
    rw [rot_step (by decide), rot_end (by decide)]
  · intro e he
    rcases (show e = 0 ∨ e = 1 ∨ e = 2 ∨ e = 3 by omega) with rfl | rfl | rfl | rfl
    · exact ⟨(show rv9 (τ 125 (3 + 4 * s + 1)) = rev (τ 125 (3 + 4 * s + 1)) from R1 (hp 1 (by decide))), (show kl (τ 125) s 1 = tL (τ 125) s 5 0 by unfold tL kl; by_cases c : τ 125 (99 + s) = 0; (rw [if_pos c, if_pos ⟨c, by decide⟩]); (rw [if_neg c, if_neg (fun q => c q.1)]; rfl))⟩
    · exact ⟨(show rv9 (τ 125 (3 + 4 * s + 0)) = rev (τ 125 (3 + 4 * s + 0)) from R1 (hp 0 (by decide))), (show kl (τ 125) s 0 = tL (τ 125) s 5 1 by unfold tL kl; by_cases c : τ 125 (99 + s) = 0; (rw [if_pos c, if_pos ⟨c, by decide⟩]); (rw [if_neg c, if_neg (fun q => c q.1)]; rfl))⟩
    · exact ⟨(show rv9 (τ 125 (3 + 4 * s + 3)) = rev (τ 125 (3 + 4 * s + 3)) from R1 (hp 3 (by decide))), (show kl (τ 125) s 3 = tL (τ 125) s 5 2 by unfold tL kl; by_cases c : τ 125 (99 + s) = 0; (rw [if_pos c, if_pos ⟨c, by decide⟩]); (rw [if_neg c, if_neg (fun q => c q.1)]; rfl))⟩
    · exact ⟨(show rv9 (τ 125 (3 + 4 * s + 2)) = rev (τ 125 (3 + 4 * s + 2)) from R1 (hp 2 (by decide))), (show kl (τ 125) s 2 = tL (τ 125) s 5 3 by unfold tL kl; by_cases c : τ 125 (99 + s) = 0; (rw [if_pos c, if_pos ⟨c, by decide⟩]); (rw [if_neg c, if_neg (fun q => c q.1)]; rfl))⟩
theorem trn_6 {τ : gM} {s : Nat} (hs : s < 12) (hp : ∀ e, e < 4 → pv (τ 125 (3 + 4 * s + e))) : ∃ τ', fX9_turns τ 124 (nI s) (nI 6) = some τ' ∧ Off2 τ τ' ∧ ∀ e, e < 4 → τ' 128 e = tP (τ 125) s 6 e ∧ τ' 129 e = tL (τ 125) s 6 e := by
  obtain ⟨m4, g4⟩ := gF4
  obtain ⟨m5, g5⟩ := gF5
  refine ⟨(rotM (rotM (cpM (cpM (cpM (cpM τ 0 (rv9 (τ 125 (3 + 4 * s + 0))) (kl (τ 125) s 0)) 1 (τ 125 (3 + 4 * s + 3)) (kl (τ 125) s 3)) 2 (rv9 (τ 125 (3 + 4 * s + 2))) (kl (τ 125) s 2)) 3 (τ 125 (3 + 4 * s + 1)) (kl (τ 125) s 1)))), ?_, (((((cp_off _ _ _ _).tr (cp_off _ _ _ _)).tr ((cp_off _ _ _ _).tr (cp_off _ _ _ _))).tr (rot_off _)).tr (rot_off _)), ?_⟩
  · unfold fX9_turns
    rw [if_neg (show ¬ nI 6 ≤ (3 : Int32) by decide)]
    have e : fX9_turns_14 124 (nI s) (nI 6) gF τ 1 (nI 0) = _ := (congrArg (fun g => fX9_turns_14 124 (nI s) (nI 6) g τ 1 (nI 0)) g5).trans (cps1 hs)
    refine e.trans ?_
    rw [g4]
    rw [rot_step (by decide), rot_step (by decide), rot_end (by decide)]
  · intro e he
    rcases (show e = 0 ∨ e = 1 ∨ e = 2 ∨ e = 3 by omega) with rfl | rfl | rfl | rfl
    · exact ⟨(show rv9 (rv9 (τ 125 (3 + 4 * s + 2))) = τ 125 (3 + 4 * s + 2) from R2 (hp 2 (by decide))), (show kl (τ 125) s 2 = tL (τ 125) s 6 0 by unfold tL kl; by_cases c : τ 125 (99 + s) = 0; (rw [if_pos c, if_pos ⟨c, by decide⟩]); (rw [if_neg c, if_neg (fun q => c q.1)]; rfl))⟩
    · exact ⟨(show rv9 (τ 125 (3 + 4 * s + 1)) = rev (τ 125 (3 + 4 * s + 1)) from R1 (hp 1 (by decide))), (show kl (τ 125) s 1 = tL (τ 125) s 6 1 by unfold tL kl; by_cases c : τ 125 (99 + s) = 0; (rw [if_pos c, if_pos ⟨c, by decide⟩]); (rw [if_neg c, if_neg (fun q => c q.1)]; rfl))⟩
    · exact ⟨(show rv9 (rv9 (τ 125 (3 + 4 * s + 0))) = τ 125 (3 + 4 * s + 0) from R2 (hp 0 (by decide))), (show kl (τ 125) s 0 = tL (τ 125) s 6 2 by unfold tL kl; by_cases c : τ 125 (99 + s) = 0; (rw [if_pos c, if_pos ⟨c, by decide⟩]); (rw [if_neg c, if_neg (fun q => c q.1)]; rfl))⟩
    · exact ⟨(show rv9 (τ 125 (3 + 4 * s + 3)) = rev (τ 125 (3 + 4 * s + 3)) from R1 (hp 3 (by decide))), (show kl (τ 125) s 3 = tL (τ 125) s 6 3 by unfold tL kl; by_cases c : τ 125 (99 + s) = 0; (rw [if_pos c, if_pos ⟨c, by decide⟩]); (rw [if_neg c, if_neg (fun q => c q.1)]; rfl))⟩
theorem trn_7 {τ : gM} {s : Nat} (hs : s < 12) (hp : ∀ e, e < 4 → pv (τ 125 (3 + 4 * s + e))) : ∃ τ', fX9_turns τ 124 (nI s) (nI 7) = some τ' ∧ Off2 τ τ' ∧ ∀ e, e < 4 → τ' 128 e = tP (τ 125) s 7 e ∧ τ' 129 e = tL (τ 125) s 7 e := by
  obtain ⟨m4, g4⟩ := gF4
  obtain ⟨m5, g5⟩ := gF5
  refine ⟨(rotM (rotM (rotM (cpM (cpM (cpM (cpM τ 0 (rv9 (τ 125 (3 + 4 * s + 0))) (kl (τ 125) s 0)) 1 (τ 125 (3 + 4 * s + 3)) (kl (τ 125) s 3)) 2 (rv9 (τ 125 (3 + 4 * s + 2))) (kl (τ 125) s 2)) 3 (τ 125 (3 + 4 * s + 1)) (kl (τ 125) s 1))))), ?_, ((((((cp_off _ _ _ _).tr (cp_off _ _ _ _)).tr ((cp_off _ _ _ _).tr (cp_off _ _ _ _))).tr (rot_off _)).tr (rot_off _)).tr (rot_off _)), ?_⟩
  · unfold fX9_turns
    rw [if_neg (show ¬ nI 7 ≤ (3 : Int32) by decide)]
    have e : fX9_turns_14 124 (nI s) (nI 7) gF τ 1 (nI 0) = _ := (congrArg (fun g => fX9_turns_14 124 (nI s) (nI 7) g τ 1 (nI 0)) g5).trans (cps1 hs)
    refine e.trans ?_
    rw [g4]
    rw [rot_step (by decide), rot_step (by decide), rot_step (by decide), rot_end (by decide)]
  · intro e he
    rcases (show e = 0 ∨ e = 1 ∨ e = 2 ∨ e = 3 by omega) with rfl | rfl | rfl | rfl
    · exact ⟨(show rv9 (rv9 (τ 125 (3 + 4 * s + 3))) = τ 125 (3 + 4 * s + 3) from R2 (hp 3 (by decide))), (show kl (τ 125) s 3 = tL (τ 125) s 7 0 by unfold tL kl; by_cases c : τ 125 (99 + s) = 0; (rw [if_pos c, if_pos ⟨c, by decide⟩]); (rw [if_neg c, if_neg (fun q => c q.1)]; rfl))⟩
    · exact ⟨(show rv9 (rv9 (τ 125 (3 + 4 * s + 2))) = τ 125 (3 + 4 * s + 2) from R2 (hp 2 (by decide))), (show kl (τ 125) s 2 = tL (τ 125) s 7 1 by unfold tL kl; by_cases c : τ 125 (99 + s) = 0; (rw [if_pos c, if_pos ⟨c, by decide⟩]); (rw [if_neg c, if_neg (fun q => c q.1)]; rfl))⟩
    · exact ⟨(show rv9 (rv9 (τ 125 (3 + 4 * s + 1))) = τ 125 (3 + 4 * s + 1) from R2 (hp 1 (by decide))), (show kl (τ 125) s 1 = tL (τ 125) s 7 2 by unfold tL kl; by_cases c : τ 125 (99 + s) = 0; (rw [if_pos c, if_pos ⟨c, by decide⟩]); (rw [if_neg c, if_neg (fun q => c q.1)]; rfl))⟩
    · exact ⟨(show rv9 (rv9 (τ 125 (3 + 4 * s + 0))) = τ 125 (3 + 4 * s + 0) from R2 (hp 0 (by decide))), (show kl (τ 125) s 0 = tL (τ 125) s 7 3 by unfold tL kl; by_cases c : τ 125 (99 + s) = 0; (rw [if_pos c, if_pos ⟨c, by decide⟩]); (rw [if_neg c, if_neg (fun q => c q.1)]; rfl))⟩
theorem trn {τ : gM} {s o : Nat} (hs : s < 12) (ho : o < 8) (hp : ∀ e, e < 4 → pv (τ 125 (3 + 4 * s + e))) : ∃ τ', fX9_turns τ 124 (nI s) (nI o) = some τ' ∧ Off2 τ τ' ∧ ∀ e, e < 4 → τ' 128 e = tP (τ 125) s o e ∧ τ' 129 e = tL (τ 125) s o e := by
  rcases (show o = 0 ∨ o = 1 ∨ o = 2 ∨ o = 3 ∨ o = 4 ∨ o = 5 ∨ o = 6 ∨ o = 7 by omega) with rfl | rfl | rfl | rfl | rfl | rfl | rfl | rfl
  · exact trn_0 hs hp
  · exact trn_1 hs hp
  · exact trn_2 hs hp
  · exact trn_3 hs hp
  · exact trn_4 hs hp
  · exact trn_5 hs hp
  · exact trn_6 hs hp
  · exact trn_7 hs hp
