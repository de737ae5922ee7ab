/-! p25: HOLDS: THE GROUPS -/
variable {σ : gM} {w h n : Nat} {f L : Nat → Int32}
theorem nRt_mono {a b : Nat} (hab : a ≤ b) : nRt L a ≤ nRt L b := by
  have : ∀ d, nRt L a ≤ nRt L (a + d) := by
    intro d
    induction d with
    | zero => exact Nat.le_refl _
    | succ d ih =>
      rw [show a + (d + 1) = a + d + 1 by omega, nRt_s]
      unfold gRt
      split <;> omega
  have e := this (b - a)
  rw [show a + (b - a) = b by omega] at e
  exact e
theorem root_ex {q : Nat} : ∀ x, q < nRt L x → ∃ r, r < x ∧ L r = nI r ∧ nRt L r = q := by
  intro x
  induction x with
  | zero => intro hq; exact absurd hq (Nat.not_lt_zero _)
  | succ x ih =>
    intro hq
    rw [nRt_s] at hq
    unfold gRt at hq
    by_cases c : L x = nI x
    · rw [if_pos c] at hq
      by_cases c2 : q < nRt L x
      · obtain ⟨r, h1, h2, h3⟩ := ih c2
        exact ⟨r, by omega, h2, h3⟩
      · exact ⟨x, by omega, c, by omega⟩
    · rw [if_neg c] at hq
      obtain ⟨r, h1, h2, h3⟩ := ih hq
      exact ⟨r, by omega, h2, h3⟩
theorem gP_in {q s : Nat} (H : gP f L q s = true) : f (123 + s) ≠ -1 ∧ nRt L (L s).toNatClampNeg = q := by
  unfold gP at H
  have h := Bool.and_eq_true_iff.mp H
  exact ⟨of_decide_eq_true h.1, of_decide_eq_true h.2⟩
theorem gP_mk {q s : Nat} (h1 : f (123 + s) ≠ -1) (h2 : nRt L (L s).toNatClampNeg = q) : gP f L q s = true := by
  unfold gP
  exact Bool.and_eq_true_iff.mpr ⟨decide_eq_true h1, decide_eq_true h2⟩
theorem root_g (G : GI f w h n L) (n12 : n ≤ 12) {r q : Nat} (hr : r < n) (lr : L r = nI r) (hq : nRt L r = q) : gP f L q r = true := by
  refine gP_mk (fun c => ?_) ?_
  · have := G.1 r hr c
    exact m1_ne (show r < 2 ^ 31 by omega) (lr.symm.trans this)
  · rw [lr, nI_cl (by omega)]
    exact hq
theorem first_g (G : GI f w h n L) (n12 : n ≤ 12) {r q v : Nat} (hr : r < n) (lr : L r = nI r) (hq : nRt L r = q) (hv : v < n) (pv : gP f L q v = true) (cv : cn (gP f L q) v = 0) : v = r := by
  have pr := root_g G n12 hr lr hq
  have h1 : ¬ r < v := fun c => by
    have := cn_lt c pr
    omega
  obtain ⟨v1, v2⟩ := gP_in pv
  obtain ⟨a, z, b1, b2, b3, b4, b5, b6⟩ := G.2.1 v hv v1
  rw [b1, nI_cl (by omega)] at v2
  have h2 : ¬ a < r := fun c => by
    have := nRt_lt c b6
    omega
  have h3 : ¬ r < a := fun c => by
    have := nRt_lt c lr
    omega
  omega
theorem cnP_pos (G : GI f w h n L) (n12 : n ≤ 12) {q : Nat} (hq : q < nRt L n) : 0 < cn (gP f L q) n := by
  obtain ⟨r, h1, h2, h3⟩ := root_ex n hq
  have := cn_lt h1 (root_g G n12 h1 h2 h3)
  omega
theorem cn_bd {P : Nat → Bool} : ∀ n, cn P n ≤ n := by
  intro n
  induction n with
  | zero => exact Nat.le_refl _
  | succ n ih => rw [cn_s]; split <;> omega
theorem mem_y (D : DDo σ 1 f w h n) (G : GI f w h n L) {q A : Nat} (hq : q < nRt L n) (hA : A < cn (gP f L q) n) : ∃ v σ', fX8_member σ 0 (nI q) (nI A) = some (nI v, σ') ∧ FR σ σ' ∧ v < n ∧ gP f L q v = true ∧ cn (gP f L q) v = A := by
  have n12 := D.2.1.2.1.2.2.2.2
  have b := cn_bd (P := gP f L q) n
  obtain ⟨p, σ', p1, p2, p3, p4⟩ := mem_p D G hq (A := A) (by omega)
  cases p with
  | none => have := p4 rfl; omega
  | some v => exact ⟨v, σ', p1, p2, (p3 v rfl).1, (p3 v rfl).2.1, (p3 v rfl).2.2⟩
theorem mem_n (D : DDo σ 1 f w h n) (G : GI f w h n L) {q : Nat} (hq : q < nRt L n) : ∃ σ', fX8_member σ 0 (nI q) (nI (cn (gP f L q) n)) = some (-1004, σ') ∧ FR σ σ' := by
  have n12 := D.2.1.2.1.2.2.2.2
  have b := cn_bd (P := gP f L q) n
  obtain ⟨p, σ', p1, p2, p3, p4⟩ := mem_p D G hq (A := cn (gP f L q) n) (by omega)
  cases p with
  | none => exact ⟨σ', p1, p2⟩
  | some v =>
    obtain ⟨h1, h2, h3⟩ := p3 v rfl
    have := cn_lt h1 h2
    omega
section GROUP
variable {K : gM → Int32 → Int32 → Int32 → Int32 → Int32 → Option (Int32 × gM)} {K2 : gM → Int32 → Int32 → Int32 → Int32 → Int32 → Int32 → Option (Int32 × gM)} {x3 x4 x5 x7 x8 : Int32}
theorem h486 {q : Nat} : fL_holds_486 K 0 gF σ x3 x4 x5 x7 (nI q) = K σ x3 x4 x5 x7 (nI (q + 1)) := by
  obtain ⟨m, e⟩ := gF_s
  rw [e, fL_holds_486, gl_e, nIa1]
theorem h432 {A : Nat} : fL_holds_432 K K2 0 gF σ x3 x4 x5 x7 x8 (nI A) = K2 σ x3 x4 x5 x7 x8 (nI (A + 1)) := by
  obtain ⟨m, e⟩ := gF_s
  rw [e, fL_holds_432, gl_e, nIa1]
theorem h365 (G : GI f w h n L) {q b : Nat} (hq : q < nRt L n) : ∀ (d A m : Nat) (σ : gM), DDo σ 1 f w h n → A + d = cn (gP f L q) n → d < m → ∃ σ', FR σ σ' ∧ fL_holds_365 K 0 m σ x3 x4 x5 (nI b) (nI q) (nI A) = K σ' x3 x4 x5 (nI (b + cn (gP f L q) n)) (nI (q + 1)) := by
  intro d
  induction d with
  | zero =>
    intro A m σ D hA hm
    have n12 := D.2.1.2.1.2.2.2.2
    have nl := nRt_le L n
    obtain ⟨m, rfl⟩ : ∃ q, m = q + 1 := ⟨m - 1, by omega⟩
    obtain rfl : A = cn (gP f L q) n := by omega
    have cp := cnP_pos G n12 hq
    have bd := cn_bd (P := gP f L q) n
    obtain ⟨σ1, p1, F1⟩ := mem_n D G hq
    rw [fL_holds_365, p1, bp, if_pos lt4, gl_e, nIa, if_neg (nI_nle cp (by omega))]
    by_cases c : q = 0
    · subst c
      rw [if_pos (show nI 0 = 0 from rfl)]
      exact ⟨σ1, F1, h486⟩
    · have D1 := D.fr F1
      obtain ⟨u, σ2, p2, F2, u1, u2, u3⟩ := mem_y D1 G hq cp
      have D2 := D1.fr F2
      have hq' : q - 1 < nRt L n := by omega
      obtain ⟨v, σ3, p3, F3, v1, v2, v3⟩ := mem_y D2 G hq' (cnP_pos G n12 hq')
      obtain ⟨r, r1, r2, r3⟩ := root_ex n hq
      obtain ⟨r', s1, s2, s3⟩ := root_ex n hq'
      have e1 := first_g G n12 r1 r2 r3 u1 u2 u3
      have e2 := first_g G n12 s1 s2 s3 v1 v2 v3
      have lt : v < u := by
        rw [e1, e2]
        exact Nat.not_le.mp (fun c => by
          have := nRt_mono (L := L) c
          omega)
      rw [if_neg (nI_ne0 (by omega) (by omega)), show fX8_member σ1 0 (nI q) 0 = _ from p2, bp, nIs1 (by omega), show fX8_member σ2 0 (nI (q - 1)) 0 = _ from p3, bp, if_neg (nI_ge lt (by omega))]
      exact ⟨σ3, (F1.tr F2).tr F3, h486⟩
  | succ d ih =>
    intro A m σ D hA hm
    have n12 := D.2.1.2.1.2.2.2.2
    have nl := nRt_le L n
    have bd := cn_bd (P := gP f L q) n
    obtain ⟨m, rfl⟩ : ∃ q, m = q + 1 := ⟨m - 1, by omega⟩
    have hA' : A < cn (gP f L q) n := by omega
    obtain ⟨u, σ1, p1, F1, u1, u2, u3⟩ := mem_y D G hq hA'
    have D1 := D.fr F1
    obtain ⟨v, σ2, p2, F2, v1, v2, v3⟩ := mem_y D1 G hq hA'
    have D2 := D1.fr F2
    obtain ⟨g1, g2⟩ := gP_in v2
    obtain ⟨a, z, b1, b2, b3, -⟩ := G.2.1 v v1 g1
    rw [b1, nI_cl (by omega)] at g2
    obtain ⟨σ3, p3, F3⟩ := scr_3 D2 G v1 g1 b3 b1
    have D3 := D2.fr F3
    rw [fL_holds_365, p1, bp, if_neg (nI_pos (by omega)), p2, bp, p3, bp, if_pos (show nI (nRt L a) = nI q by rw [g2])]
    by_cases c : A = 0
    · subst c
      rw [if_pos (show nI 0 = 0 from rfl), h432]
      obtain ⟨σ', F', e'⟩ := ih (0 + 1) m σ3 D3 (by omega) (by omega)
      exact ⟨σ', ((F1.tr F2).tr F3).tr F', e'⟩
    · obtain ⟨u', σ4, p4, F4, x1, x2, x3'⟩ := mem_y D3 G hq hA'
      have D4 := D3.fr F4
      obtain ⟨v', σ5, p5, F5, y1, y2, y3⟩ := mem_y D4 G hq (show A - 1 < cn (gP f L q) n by omega)
      have D5 := D4.fr F5
      have lt : v' < u' := Nat.not_le.mp (fun c => by
        have := cn_mono (P := gP f L q) c
        omega)
      rw [if_neg (nI_ne0 (by omega) (by omega)), p4, bp, nIs1 (by omega), p5, bp, if_neg (nI_ge lt (by omega)), h432]
      obtain ⟨σ', F', e'⟩ := ih (A + 1) m σ5 D5 (by omega) (by omega)
      exact ⟨σ', ((((F1.tr F2).tr F3).tr F4).tr F5).tr F', e'⟩
end GROUP
/-- the members of all groups -/
theorem members_sum (G : GI f w h n L) (n12 : n ≤ 12) : sm (fun q => cn (gP f L q) n) (nRt L n) = nLy f n := by
  rw [sm_cong _ (fun q _ => cn_sm (P := gP f L q) n), sm_swap, nLy_sm]
  refine sm_cong n (fun s hs => ?_)
  by_cases c : f (123 + s) = -1
  · rw [if_pos c]
    refine (sm_cong _ (fun q _ => if_neg (fun x => (gP_in x).1 c))).trans (sm_z _)
  · rw [if_neg c]
    obtain ⟨a, z, b1, b2, b3, b4, b5, b6⟩ := G.2.1 s hs c
    have lt := nRt_lt (L := L) b3 b6
    have e : sm (fun q => if gP f L q s = true then 1 else 0) (nRt L n) = sm (fun q => if q = nRt L a then 1 else 0) (nRt L n) := sm_cong _ (fun q _ => by
      by_cases cq : q = nRt L a
      · rw [if_pos cq, if_pos (gP_mk c (by rw [b1, nI_cl (by omega), cq]))]
      · rw [if_neg cq, if_neg (fun x => cq (by
          have := (gP_in x).2
          rw [b1, nI_cl (by omega)] at this
          exact this.symm))])
    rw [e, sm_one, if_pos lt]
theorem roots_le (G : GI f w h n L) (n12 : n ≤ 12) : nRt L n ≤ nLy f n := by
  have e : nRt L n = sm (fun i => if L i = nI i then 1 else 0) n := by
    unfold nRt
    rw [up_sm (g := fun i => if L i = nI i then 1 else 0) (G := gRt L) (fun i a => by unfold gRt; split <;> rfl), Nat.zero_add]
  rw [e, nLy_sm]
  refine sm_le n (fun s hs => ?_)
  by_cases c : f (123 + s) = -1
  · rw [if_neg (fun q => m1_ne (show s < 2 ^ 31 by omega) (q.symm.trans (G.1 s hs c)))]
    exact Nat.zero_le _
  · rw [if_neg c]
    split <;> omega
theorem nS_bd (f : Nat → Int32) (w h n : Nat) (n12 : n ≤ 12) : nSs f w h n ≤ 48 ∧ nBf f w h n ≤ 48 ∧ nBn f w h n ≤ 48 := by
  have t : ∀ g : Nat → Nat → Nat, (∀ s e, g s e ≤ 1) → sm (fun s => s4 (g s)) n ≤ 48 := by
    intro g hg
    have h1 : sm (fun s => s4 (g s)) n ≤ sm (fun _ => 4) n := sm_le n (fun s hs => by
      have := hg s 0
      have := hg s 1
      have := hg s 2
      have := hg s 3
      unfold s4
      omega)
    have h2 : ∀ m, sm (fun _ => 4) m = 4 * m := by
      intro m
      induction m with
      | zero => rfl
      | succ m ih => rw [sm_s, ih]; omega
    rw [h2] at h1
    omega
  unfold nSs nBf nBn
  rw [up_u4, up_u4, up_u4]
  refine ⟨t _ (fun s e => ?_), t _ (fun s e => ?_), t _ (fun s e => ?_)⟩
  · unfold dS
    split
    · exact Nat.zero_le _
    · split
      · split <;> omega
      · exact Nat.zero_le _
  · unfold dA
    split
    · exact Nat.zero_le _
    · split
      · split <;> omega
      · exact Nat.zero_le _
  · unfold dB
    split
    · exact Nat.zero_le _
    · split
      · split <;> omega
      · exact Nat.zero_le _
theorem h347 (G : GI f w h n L) {T U : Nat} (eT : T = 2 * nSf f w h n + nBf f w h n) (eU : U + 2 * nSf f w h n = 2 * nSs f w h n + nBn f w h n) : ∀ (d q m : Nat) (σ : gM), DDo σ 1 f w h n → q + d = nRt L n → d < m → ∃ σ', FR σ σ' ∧ fL_holds_347 0 m σ (nI (nLy f n)) (nI T) (nI U) (nI (sm (fun q => cn (gP f L q) n) q)) (nI q) = some (1, σ') := by
  intro d
  induction d with
  | zero =>
    intro q m σ D hq hm
    have n12 := D.2.1.2.1.2.2.2.2
    have nl := nRt_le L n
    obtain ⟨m, rfl⟩ : ∃ q, m = q + 1 := ⟨m - 1, by omega⟩
    obtain rfl : q = nRt L n := by omega
    obtain ⟨σ1, p1, F1⟩ := cnt_4 D G
    have D1 := D.fr F1
    have le := seams_le (f := f) (w := w) (h := h) (n := n)
    have e1 : (2 * nI (nSf f w h n)) + nI (nBf f w h n) = nI T := by
      rw [show (2 : Int32) = nI 2 from rfl, pk_mul, nIa, eT]
    have e2 : (2 * (nI (nSs f w h n) - nI (nSf f w h n))) + nI (nBn f w h n) = nI U := by
      rw [pk_sub le, show (2 : Int32) = nI 2 from rfl, pk_mul, nIa]
      exact congrArg nI (by omega)
    refine ⟨σ1, F1, ?_⟩
    rw [fL_holds_347, p1, bp, if_pos (nI_le (by omega) (by omega)), cnt_1 D1, bp, if_pos rfl, members_sum G n12, if_pos rfl, cnt_6 D1, bp, cnt_7 D1, bp, if_pos e1.symm, cnt_5 D1, bp, cnt_6 D1, bp, cnt_8 D1, bp, if_pos e2.symm]
  | succ d ih =>
    intro q m σ D hq hm
    have n12 := D.2.1.2.1.2.2.2.2
    have nl := nRt_le L n
    obtain ⟨m, rfl⟩ : ∃ q, m = q + 1 := ⟨m - 1, by omega⟩
    obtain ⟨σ1, p1, F1⟩ := cnt_4 D G
    have D1 := D.fr F1
    have bd := cn_bd (P := gP f L q) n
    obtain ⟨σ2, F2, e2⟩ := h365 (K := fun σ2 y3 y4 y5 y7 y8 => fL_holds_347 0 m σ2 y3 y4 y5 y7 y8) (x3 := nI (nLy f n)) (x4 := nI T) (x5 := nI U) (b := sm (fun q => cn (gP f L q) n) q) G (q := q) (by omega) (cn (gP f L q) n) 0 gF σ1 D1 (by omega) (gF_lt (by omega))
    obtain ⟨σ3, F3, e3⟩ := ih (q + 1) m σ2 (D1.fr F2) (by omega) (by omega)
    refine ⟨σ3, (F1.tr F2).tr F3, ?_⟩
    rw [fL_holds_347, p1, bp, if_neg (nI_ge (by omega) (by omega))]
    exact e2.trans e3
theorem holds_ok (D : DDo σ 1 f w h n) : ∃ σ', FR σ σ' ∧ fL_holds σ 0 = some (1, σ') := by
  obtain ⟨w1, w6, h1, h6, n12⟩ := D.2.1.2.1
  have hwh := wh_le w6 h6
  obtain ⟨σ0, -, -, -, G⟩ := gat8 D
  have O := D.2.1
  have nl := nRt_le (σ0 110) n
  have ly := nLy_le f n
  have le := seams_le (f := f) (w := w) (h := h) (n := n)
  have bd := nS_bd f w h n n12
  obtain ⟨σ1, p1, F1⟩ := cnt_4 D G
  have D1 := D.fr F1
  have rl := roots_le G n12
  have s1 := fits_sum O
  have s2 := faults_sum O
  have s3 := places_sum O
  obtain ⟨σ2, F2, e2⟩ := h347 G (T := sm (tFit f w h n) n) (U := sm (tFlt f w h n) n) s1 s2 (nRt (σ0 110) n) 0 gF σ1 D1 (by omega) (gF_lt (by omega))
  refine ⟨σ2, F1.tr F2, ?_⟩
  unfold fL_holds
  rw [cnt_2 D, bp, cnt_3 D, bp, cnt_1 D, bp, cnt_9 D, bp, if_pos (show nI (nLy f n) + (nI (w * h) - nI (nLy f n)) = nI w * nI h by rw [Int32.add_comm, Int32.sub_add_cancel, pk_mul]), cnt_6 D, bp, cnt_5 D, bp, if_neg (nI_nlt le (by omega)), p1, bp, cnt_1 D1, bp, if_neg (nI_nlt rl (by omega))]
  have a1 := h75 D1 (x4 := 0) (x5 := 0) (w * h) 0 gF 0 (by omega) (gF_lt (by omega))
  have u1 : up (gOn f n) (w * h) 0 0 = nLy f n := by
    rw [up_sm (g := fun k => if sc f n k = none then 0 else 1) (G := gOn f n) (fun i a => rfl), Nat.zero_add, s3]
  rw [u1] at a1
  have a2 := h271 D1 (x3 := nI (nLy f n)) (x7 := 0) n 0 gF 0 0 (by omega) (gF_lt (by omega))
  rw [up_sm (g := tFit f w h n) (G := fun s a => a + tFit f w h n s) (fun i a => rfl), up_sm (g := tFlt f w h n) (G := fun s a => a + tFlt f w h n s) (fun i a => rfl), Nat.zero_add, Nat.zero_add] at a2
  exact (a1.trans a2).trans e2
