/-! p25: SEAMS, BORDERS AND PLACES ADD UP -/
variable {w h n : Nat} {f : Nat → Int32}
/-- a seam, a seam that fits, seen from one of its scraps -/
def jS (f : Nat → Int32) (w h n s e : Nat) : Nat := if f (123 + s) = -1 then 0 else if nb f w h n s (pN f s) e = none then 0 else 1
def jF (f : Nat → Int32) (w h n s e : Nat) : Nat := if jn f w h n s e = none then 0 else 1
theorem jS_sym (O : OKf f w h n) {e : Nat} (he : e < 4) : sm (fun s => jS f w h n s e) n = sm (fun s => jS f w h n s ((e + 2) % 4)) n := by
  have key : ∀ e, e < 4 → ∀ s, s < n → jS f w h n s e = sm (fun t => if (if f (123 + s) = -1 then none else nb f w h n s (pN f s) e) = some t then 1 else 0) n := by
    intro e he s hs
    rw [sm_opt (p := if f (123 + s) = -1 then none else nb f w h n s (pN f s) e) (m := n) (fun v hv => by
      by_cases c : f (123 + s) = -1
      · rw [if_pos c] at hv; cases hv
      · rw [if_neg c] at hv; exact (nb_lt hv).1)]
    unfold jS
    by_cases c : f (123 + s) = -1
    · rw [if_pos c, if_pos c, if_pos rfl]
    · rw [if_neg c, if_neg c]
  rw [sm_cong n (key e he), sm_cong n (key ((e + 2) % 4) (by omega)), sm_swap]
  refine sm_cong n (fun t ht => sm_cong n (fun s hs => ?_))
  have half : ∀ e, e < 4 → ∀ s t, s < n → (if f (123 + s) = -1 then none else nb f w h n s (pN f s) e) = some t → (if f (123 + t) = -1 then none else nb f w h n t (pN f t) ((e + 2) % 4)) = some s := by
    intro e he s t hs q
    by_cases c : f (123 + s) = -1
    · rw [if_pos c] at q; cases q
    · rw [if_neg c] at q
      obtain ⟨-, h2, h3, -⟩ := nb_sym O hs he c q
      rw [if_neg h2]
      exact h3
  by_cases c : (if f (123 + s) = -1 then none else nb f w h n s (pN f s) e) = some t
  · rw [if_pos c, if_pos (half e he s t hs c)]
  · rw [if_neg c, if_neg (fun q => c (by
      have := half ((e + 2) % 4) (by omega) t s ht q
      rw [e22 he] at this
      exact this))]
theorem jF_sym (O : OKf f w h n) {e : Nat} (he : e < 4) : sm (fun s => jF f w h n s e) n = sm (fun s => jF f w h n s ((e + 2) % 4)) n := by
  have key : ∀ e, e < 4 → ∀ s, s < n → jF f w h n s e = sm (fun t => if jn f w h n s e = some t then 1 else 0) n := by
    intro e he s hs
    rw [sm_opt (p := jn f w h n s e) (m := n) (fun v hv => (jn_sym O hs he hv).1)]
    rfl
  rw [sm_cong n (key e he), sm_cong n (key ((e + 2) % 4) (by omega)), sm_swap]
  refine sm_cong n (fun t ht => sm_cong n (fun s hs => ?_))
  by_cases c : jn f w h n s e = some t
  · rw [if_pos c, if_pos (jn_sym O hs he c).2]
  · rw [if_neg c, if_neg (fun q => c (by
      have := (jn_sym O ht (by omega) q).2
      rw [e22 he] at this
      exact this))]
/-- all four edges: each seam twice -/
theorem jS_all (O : OKf f w h n) : sm (fun s => s4 (jS f w h n s)) n = 2 * nSs f w h n := by
  have e0 := jS_sym O (e := 0) (by decide)
  have e3 := jS_sym O (e := 3) (by decide)
  unfold nSs
  rw [up_u4, sm_s4, sm_s4]
  have d0 : sm (fun s => dS f w h n s 0) n = 0 := (sm_cong n (fun s _ => dS_0)).trans (sm_z n)
  have d3 : sm (fun s => dS f w h n s 3) n = 0 := (sm_cong n (fun s _ => dS_3)).trans (sm_z n)
  have d1 : sm (fun s => dS f w h n s 1) n = sm (fun s => jS f w h n s 1) n := sm_cong n (fun s _ => by unfold dS jS; rfl)
  have d2 : sm (fun s => dS f w h n s 2) n = sm (fun s => jS f w h n s 2) n := sm_cong n (fun s _ => by unfold dS jS; rfl)
  have e3 : sm (fun s => jS f w h n s 3) n = sm (fun s => jS f w h n s 1) n := e3
  have e0 : sm (fun s => jS f w h n s 0) n = sm (fun s => jS f w h n s 2) n := e0
  unfold s4
  dsimp only
  omega
theorem jF_all (O : OKf f w h n) : sm (fun s => s4 (jF f w h n s)) n = 2 * nSf f w h n := by
  have e0 : sm (fun s => jF f w h n s 0) n = sm (fun s => jF f w h n s 2) n := jF_sym O (e := 0) (by decide)
  have e3 : sm (fun s => jF f w h n s 3) n = sm (fun s => jF f w h n s 1) n := jF_sym O (e := 3) (by decide)
  unfold nSf
  rw [up_u4, sm_s4, sm_s4]
  have d0 : sm (fun s => dF f w h n s 0) n = 0 := (sm_cong n (fun s _ => dF_0)).trans (sm_z n)
  have d3 : sm (fun s => dF f w h n s 3) n = 0 := (sm_cong n (fun s _ => dF_3)).trans (sm_z n)
  have d1 : sm (fun s => dF f w h n s 1) n = sm (fun s => jF f w h n s 1) n := sm_cong n (fun s _ => by unfold dF jF; rfl)
  have d2 : sm (fun s => dF f w h n s 2) n = sm (fun s => jF f w h n s 2) n := sm_cong n (fun s _ => by unfold dF jF; rfl)
  unfold s4
  dsimp only
  omega
theorem nFit_s4 (f : Nat → Int32) (w h n s k o : Nat) : nFit f w h n s k o = s4 (fun e => if rs f w h n s k o e = -1 then 0 else if rs f w h n s k o e = 0 then 1 else 0) := by
  unfold nFit
  rw [up_sm (g := fun e => if rs f w h n s k o e = -1 then 0 else if rs f w h n s k o e = 0 then 1 else 0) (G := gFit f w h n s k o) (fun i a => by
    unfold gFit
    split
    · rfl
    · split <;> rfl), sm_s, sm_s, sm_s, sm_s, sm_0]
  unfold s4
  dsimp only
  omega
theorem nFlt_s4 (f : Nat → Int32) (w h n s k o : Nat) : nFlt f w h n s k o = s4 (fun e => if rs f w h n s k o e = -1 then 0 else if rs f w h n s k o e = 0 then 0 else 1) := by
  unfold nFlt
  rw [up_sm (g := fun e => if rs f w h n s k o e = -1 then 0 else if rs f w h n s k o e = 0 then 0 else 1) (G := gFlt f w h n s k o) (fun i a => by
    unfold gFlt
    split
    · rfl
    · split <;> rfl), sm_s, sm_s, sm_s, sm_s, sm_0]
  unfold s4
  dsimp only
  omega
/-- an edge of a scrap that lies: border, nothing, or a seam -/
theorem edge_3 {s e : Nat} (c : f (123 + s) ≠ -1) : (bh w h (pN f s) e = none ∧ nb f w h n s (pN f s) e = none ∧ (rs f w h n s (pN f s) (ovN f s) e = 0 ∨ rs f w h n s (pN f s) (ovN f s) e = 4)) ∨ (bh w h (pN f s) e ≠ none ∧ nb f w h n s (pN f s) e = none ∧ rs f w h n s (pN f s) (ovN f s) e = -1) ∨ (bh w h (pN f s) e ≠ none ∧ ∃ v, nb f w h n s (pN f s) e = some v ∧ rs f w h n s (pN f s) (ovN f s) e = vd f s (ovN f s) e v) := by
  cases hb : bh w h (pN f s) e with
  | none =>
    refine Or.inl ⟨rfl, ?_, rs_b hb⟩
    unfold nb
    rw [hb]
    rfl
  | some q =>
    cases hv : sc f n q with
    | none =>
      refine Or.inr (Or.inl ⟨by simp, ?_, ?_⟩)
      · unfold nb
        rw [hb, scO_s, hv]
        rfl
      · unfold rs
        rw [hb, rsP_s, hv]
        rfl
    | some v =>
      by_cases cv : v = s
      · refine Or.inr (Or.inl ⟨by simp, ?_, ?_⟩)
        · unfold nb
          rw [hb, scO_s, hv, nbQ_s, if_pos cv]
        · unfold rs
          rw [hb, rsP_s, hv, rsQ_s, if_pos cv]
      · exact Or.inr (Or.inr ⟨by simp, v, nb_mk hb hv cv, rs_mk hb hv cv⟩)
theorem vd_nm {s o e v : Nat} : vd f s o e v ≠ -1 := by
  rcases vd_in f s o e v with c | c | c | c <;> rw [c] <;> decide
theorem fit_e {s e : Nat} (c : f (123 + s) ≠ -1) : (if rs f w h n s (pN f s) (ovN f s) e = -1 then 0 else if rs f w h n s (pN f s) (ovN f s) e = 0 then 1 else 0) = dA f w h n s e + jF f w h n s e := by
  unfold dA jF jn
  rw [if_neg c, if_neg c]
  rcases edge_3 (f := f) (w := w) (h := h) (n := n) (e := e) c with ⟨h1, h2, h3⟩ | ⟨h1, h2, h3⟩ | ⟨h1, v, h2, h3⟩
  · rw [if_pos h1, h2]
    rcases h3 with h3 | h3
    · rw [h3]; rfl
    · rw [h3]; rfl
  · rw [if_neg h1, h2, h3]; rfl
  · rw [if_neg h1, h2, h3, if_neg vd_nm]
    by_cases c2 : vd f s (ovN f s) e v = 0
    · rw [if_pos c2, if_pos c2]; (try rfl)
    · rw [if_neg c2, if_neg c2]; (try rfl)
theorem flt_e {s e : Nat} (c : f (123 + s) ≠ -1) : (if rs f w h n s (pN f s) (ovN f s) e = -1 then 0 else if rs f w h n s (pN f s) (ovN f s) e = 0 then 0 else 1) + jF f w h n s e = dB f w h n s e + jS f w h n s e := by
  unfold dB jF jn jS
  rw [if_neg c, if_neg c, if_neg c]
  rcases edge_3 (f := f) (w := w) (h := h) (n := n) (e := e) c with ⟨h1, h2, h3⟩ | ⟨h1, h2, h3⟩ | ⟨h1, v, h2, h3⟩
  · rw [if_pos h1, h2]
    rcases h3 with h3 | h3
    · rw [h3]; rfl
    · rw [h3]; rfl
  · rw [if_neg h1, h2, h3]; rfl
  · rw [if_neg h1, h2, h3, if_neg vd_nm]
    by_cases c2 : vd f s (ovN f s) e v = 0
    · rw [if_pos c2, if_pos c2]; (try rfl)
    · rw [if_neg c2, if_neg c2]; (try rfl)
theorem jF_off {s : Nat} (c : f (123 + s) = -1) : ∀ e, jF f w h n s e = 0 := fun e => by
  unfold jF
  rw [jn_off c]
  rfl
theorem jS_off {s : Nat} (c : f (123 + s) = -1) : ∀ e, jS f w h n s e = 0 := fun e => if_pos c
theorem s4_0 {g : Nat → Nat} (H : ∀ e, g e = 0) : s4 g = 0 := by
  unfold s4
  rw [H, H, H, H]
/-- the scraps' fits and faults -/
def tFit (f : Nat → Int32) (w h n s : Nat) : Nat := if f (123 + s) = -1 then 0 else nFit f w h n s (pN f s) (ovN f s)
def tFlt (f : Nat → Int32) (w h n s : Nat) : Nat := if f (123 + s) = -1 then 0 else nFlt f w h n s (pN f s) (ovN f s)
theorem fits_sum (O : OKf f w h n) : sm (tFit f w h n) n = 2 * nSf f w h n + nBf f w h n := by
  have e : sm (tFit f w h n) n = sm (fun s => s4 (dA f w h n s) + s4 (jF f w h n s)) n := sm_cong n (fun s hs => by
    unfold tFit
    by_cases c : f (123 + s) = -1
    · rw [if_pos c, s4_0 (dA_off c), s4_0 (jF_off c)]
    · rw [if_neg c, nFit_s4]
      unfold s4
      dsimp only
      rw [fit_e c, fit_e c, fit_e c, fit_e c]
      omega)
  rw [e, sm_add, jF_all O]
  unfold nBf
  rw [up_u4]
  omega
theorem faults_sum (O : OKf f w h n) : sm (tFlt f w h n) n + 2 * nSf f w h n = 2 * nSs f w h n + nBn f w h n := by
  have e : sm (fun s => tFlt f w h n s + s4 (jF f w h n s)) n = sm (fun s => s4 (dB f w h n s) + s4 (jS f w h n s)) n := sm_cong n (fun s hs => by
    unfold tFlt
    by_cases c : f (123 + s) = -1
    · rw [if_pos c, s4_0 (dB_off c), s4_0 (jF_off c), s4_0 (jS_off c)]
    · have h0 := flt_e (w := w) (h := h) (n := n) (e := 0) c
      have h1 := flt_e (w := w) (h := h) (n := n) (e := 1) c
      have h2 := flt_e (w := w) (h := h) (n := n) (e := 2) c
      have h3 := flt_e (w := w) (h := h) (n := n) (e := 3) c
      rw [if_neg c, nFlt_s4]
      unfold s4
      dsimp only
      omega)
  rw [sm_add, sm_add, jF_all O, jS_all O] at e
  unfold nBn
  rw [up_u4]
  omega
theorem seams_le : nSf f w h n ≤ nSs f w h n := by
  unfold nSf nSs
  rw [up_u4, up_u4]
  refine sm_le n (fun s hs => ?_)
  have k : ∀ e, dF f w h n s e ≤ dS f w h n s e := by
    intro e
    unfold dF dS
    by_cases c : f (123 + s) = -1
    · rw [jn_off c, if_pos c, if_pos rfl]
      split <;> exact Nat.le_refl _
    · rw [if_neg c]
      by_cases ce : e = 1 ∨ e = 2
      · rw [if_pos ce, if_pos ce]
        cases hj : jn f w h n s e with
        | none => rw [if_pos rfl]; exact Nat.zero_le _
        | some v => rw [(jn_in hj).2.2]; exact Nat.le_refl _
      · rw [if_neg ce, if_neg ce]; exact Nat.le_refl _
  have := k 0
  have := k 1
  have := k 2
  have := k 3
  unfold s4
  omega
theorem nLy_sm (f : Nat → Int32) (n : Nat) : nLy f n = sm (fun s => if f (123 + s) = -1 then 0 else 1) n := by
  unfold nLy
  rw [up_sm (g := fun s => if f (123 + s) = -1 then 0 else 1) (G := gLy f) (fun i a => by unfold gLy; split <;> rfl), Nat.zero_add]
/-- as many places as scraps -/
theorem places_sum (O : OKf f w h n) : sm (fun k => if sc f n k = none then 0 else 1) (w * h) = nLy f n := by
  obtain ⟨w1, w6, h1, h6, n12⟩ := O.2.1
  have hwh := wh_le w6 h6
  have e1 : sm (fun k => if sc f n k = none then 0 else 1) (w * h) = sm (fun k => sm (fun s => if decide (f (123 + s) = nI k) = true then 1 else 0) n) (w * h) := sm_cong _ (fun k hk => by
    obtain ⟨-, u2, u3⟩ := sm_uni (P := fun s => decide (f (123 + s) = nI k)) n (fun i j hi hj pi pj => O.2.2.2.2.2.2.2 i j k hi hj (by omega) (of_decide_eq_true pi) (of_decide_eq_true pj))
    cases hv : sc f n k with
    | none =>
      rw [if_pos rfl]
      exact (u3 (fun j hj => decide_eq_false (sc_none hv hj))).symm
    | some v =>
      rw [if_neg (by simp)]
      exact (u2 v (sc_lt hv).1 (decide_eq_true (sc_lt hv).2)).symm)
  rw [e1, sm_swap, nLy_sm]
  refine sm_cong n (fun s hs => ?_)
  rcases O.pn hs with c | ⟨hp, c⟩
  · rw [if_pos c]
    refine (sm_cong _ (fun k hk => if_neg (fun q => ?_))).trans (sm_z _)
    exact m1_ne' (show k < 2 ^ 31 by omega) (c.symm.trans (of_decide_eq_true q))
  · rw [if_neg (by rw [c]; exact m1_ne (by omega))]
    have e2 : sm (fun k => if decide (f (123 + s) = nI k) = true then 1 else 0) (w * h) = sm (fun k => if k = pN f s then 1 else 0) (w * h) := sm_cong _ (fun k hk => by
      by_cases ck : k = pN f s
      · rw [if_pos ck, if_pos (decide_eq_true (by rw [c, ck]))]
      · rw [if_neg ck, if_neg (fun q => ck ((nI_eq (by omega) (by omega)).mp ((of_decide_eq_true q).symm.trans c)))])
    rw [e2, sm_one, if_pos hp]
/-- a seam has one reason from both of its scraps -/
theorem vd_symm {s e v : Nat} (he : e < 4) : vd f s (ovN f s) e v = vd f v (ovN f v) ((e + 2) % 4) s := by
  unfold vd
  rw [e22 he, Int32.add_comm (tP f v (ovN f v) ((e + 2) % 4))]
  by_cases c1 : tP f s (ovN f s) e = -1
  · rw [if_pos c1, if_pos c1]
    split <;> rfl
  · rw [if_neg c1, if_neg c1]
    by_cases c2 : tP f v (ovN f v) ((e + 2) % 4) = -1
    · rw [if_pos c2, if_pos c2]
    · rw [if_neg c2, if_neg c2]
      by_cases c3 : tP f s (ovN f s) e + tP f v (ovN f v) ((e + 2) % 4) = 999
      · rw [if_pos c3, if_pos c3]
        by_cases c4 : tL f s (ovN f s) e = tL f v (ovN f v) ((e + 2) % 4)
        · rw [if_pos c4, if_pos c4.symm]
        · rw [if_neg c4, if_neg (fun q => c4 q.symm)]
      · rw [if_neg c3, if_neg c3]
theorem rs_symm (O : OKf f w h n) {s v p q e : Nat} (hp : p < w * h) (he : e < 4) (hb : bh w h p e = some q) (hs : sc f n p = some s) (hv : sc f n q = some v) (hsv : v ≠ s) : rs f w h n s p (ovN f s) e = rs f w h n v q (ovN f v) ((e + 2) % 4) ∧ rs f w h n s p (ovN f s) e ≠ -1 := by
  have hb2 := bh_sym O.2.1.1 hp he hb
  rw [rs_mk hb hv hsv, rs_mk hb2 hs (fun q => hsv q.symm)]
  exact ⟨vd_symm he, vd_nm⟩
