/-! CAN THE PAGE BE FILLED: the reference's loop -/
/-- one candidate, as the reference tries it -/
def bdy (n : Nat) (x1 : Int32) (σ12 : gM) : Option (Int32 × gM) :=
  (if ¬ (x1 < 0 ∨ gln (124 + 8) ≤ x1.toNatClampNeg) then
        (gl ((σ12 (124 + 8) x1.toNatClampNeg) / 8) fun w14 =>
        (if ¬ ((2 : Int32) < 0 ∨ gln (124 + 1) ≤ (2 : Int32).toNatClampNeg) then
        (if w14 = (σ12 (124 + 1) (2 : Int32).toNatClampNeg) then
          (gl (x1 + (-1)) fun w17 =>
          fX9_fillsAll_9 124 n σ12 w17)
        else
          ((fX9_isOn σ12 124 w14).bind fun v18 =>
          (if v18 = 0 then
            (if ¬ (x1 < 0 ∨ gln (124 + 8) ≤ x1.toNatClampNeg) then
            ((fX9_canLie σ12 124 w14 x1 ((σ12 (124 + 8) x1.toNatClampNeg) - (σ12 (124 + 8) x1.toNatClampNeg) / 8 * 8)).bind fun pv21 => gl pv21.1 fun v21 => gl pv21.2 fun σ22 =>
            (if v21 = 0 then
              fX9_fillsAll_9 124 n σ22 x1
            else
              (if ¬ (x1 < 0 ∨ gln (124 + 8) ≤ x1.toNatClampNeg) then
              ((fX9_puts σ22 124 w14 x1 ((σ22 (124 + 8) x1.toNatClampNeg) - (σ22 (124 + 8) x1.toNatClampNeg) / 8 * 8)).bind fun σ26 =>
              (gl (x1 + 1) fun w27 =>
              ((fX9_places σ26 124).bind fun v28 =>
              (if v28 ≤ w27 then
                fX9_fillsAll_9 124 n σ26 w27
              else
                (if ¬ (w27 < 0 ∨ gln (124 + 8) ≤ w27.toNatClampNeg) then
                (gl (gset σ26 (124 + 8) (upd (σ26 (124 + 8)) w27.toNatClampNeg (-1))) fun σ31 =>
                fX9_fillsAll_9 124 n σ31 w27)
                else none)))))
              else none)))
            else none)
          else
            fX9_fillsAll_9 124 n σ12 x1)))
        else none))
        else none)
theorem c132 {k : Nat} (h : k < 6) : ¬ (nI k < 0 ∨ gln (124 + 8) ≤ (nI k).toNatClampNeg) := nI_in (show k < 6 from h) (by decide)
theorem inI_y {k P : Nat} (h : k < P) (hP : P < 1000) : inI (nI k) 0 (nI P - 1) = 1 := by
  rw [nIs1 (by omega)]
  unfold inI
  rw [if_neg (nI_pos (by omega)), if_neg (nI_nlt (by omega) (by omega))]
theorem inI_p {P : Nat} (h1 : 1 ≤ P) (hP : P < 1000) : inI (nI P) 0 (nI P - 1) = 0 := by
  rw [nIs1 h1]
  unfold inI
  rw [if_neg (nI_pos (by omega)), if_pos (nI_lt (by omega) (by omega))]
theorem inI_m (b : Int32) : inI (-1) 0 b = 0 := if_pos m1_lt
/-- scratch of the search -/
def SF (τ0 τ : gM) : Prop := ∀ c, c ≠ 125 → c ≠ 128 → c ≠ 129 → c ≠ 132 → τ c = τ0 c
theorem SF.rf {τ : gM} : SF τ τ := fun _ _ _ _ _ => rfl
theorem SF.tr {a b c : gM} (A : SF a b) (B : SF b c) : SF a c := fun x h1 h2 h3 h4 => (B x h1 h2 h3 h4).trans (A x h1 h2 h3 h4)
variable {w h n : Nat}
/-- coming forward to an empty place -/
theorem bd_f {m k c : Nat} {τ : gM} {g : Nat → Int32} (O : OKf g w h n) (hk : k < w * h) (h66 : w * h ≤ 6) (P : PL g n k) (e5 : τ 125 = g) (et : τ 132 k + 1 = nI c) : fX9_fillsAll_9 124 (m + 1) τ (nI k) = bdy m (nI k) (gset τ 132 (upd (τ 132) k (nI c))) := by
  have n12 := O.2.1.2.2.2.2
  rw [fX9_fillsAll_9, pls9 (w := w) (h := h) (n := n) (by rw [e5]; exact O), Option.bind_some, in9e, Option.bind_some, inI_y hk (by omega), if_neg n10, sca9 (N := n) (by rw [e5]; exact O.1.2.2) n12, Option.bind_some, e5, (P.fr (by omega)).2, if_pos oI_n, if_pos (c132 (by omega)), if_pos (c132 (by omega)), gl_e, nI_cl (n := k) (by omega), show τ (124 + 8) k + 1 = nI c from et]
  unfold bdy
  rw [nI_cl (n := k) (by omega)]
/-- coming back to a place where a scrap lies -/
theorem bd_b {m k c s o : Nat} {τ : gM} {g : Nat → Int32} (O : OKf g w h n) (hk : k < w * h) (h66 : w * h ≤ 6) (hs : s < n) (ho : o < 8) (P : PL g n k) (c0 : g (123 + s) = -1) (e5 : τ 125 = pF g s (nI k) (nI o)) (et : τ 132 k + 1 = nI c) : fX9_fillsAll_9 124 (m + 1) τ (nI k) = bdy m (nI k) (gset (gset τ 125 g) 132 (upd (τ 132) k (nI c))) := by
  have n12 := O.2.1.2.2.2.2
  have O' : OKf (pF g s (nI k) (nI o)) w h n := O.put (p := some k) hs (fun _ e => by cases e; exact hk) ho (fun e => by cases e) (fun k' t e ht hq => by cases e; exact absurd hq ((P.fr (by omega)).1 t ht))
  have hsc : sc (pF g s (nI k) (nI o)) n k = some s := sc_at O' (by omega) hs pF_p
  rw [fX9_fillsAll_9, pls9 (w := w) (h := h) (n := n) (by rw [e5]; exact O'), Option.bind_some, in9e, Option.bind_some, inI_y hk (by omega), if_neg n10, sca9 (N := n) (by rw [e5]; exact O'.1.2.2) n12, Option.bind_some, e5, hsc, oI_s, if_neg (m1_ne (by omega)), put9 (by omega), Option.bind_some, e5, pF_back c0 (O.2.2.2.2.2.2.1 s hs c0), if_pos (c132 (by omega)), if_pos (c132 (by omega)), gl_e, nI_cl (n := k) (by omega), show gset τ 125 g (124 + 8) = τ 132 from gset_ne (by decide), et]
  unfold bdy
  rw [nI_cl (n := k) (by omega)]
theorem c132b {k : Nat} (h : k < 6) : ¬ (nI k < 0 ∨ gln (124 + 8) ≤ k) := fun q => by
  rcases q with q | q
  · exact nI_pos (by omega) q
  · have : gln (124 + 8) = 6 := by decide
    omega
theorem nId {c : Nat} (h : c < 1000) : nI c / 8 = nI (c / 8) := by
  rw [show (8 : Int32) = nI 8 from rfl, pk_div (by omega) (by omega) (by omega)]
theorem nIr {c : Nat} (h : c < 1000) : nI c - nI c / 8 * 8 = nI (c % 8) := by
  rw [show (8 : Int32) = nI 8 from rfl, pk_rem (by omega) (by omega) (by omega)]
/-- what is found of a candidate -/
theorem bd_t {k c : Nat} {τ : gM} {g : Nat → Int32} (O : OKf g w h n) (hk : k < w * h) (h66 : w * h ≤ 6) (hc : c ≤ 8 * n) (e5 : τ 125 = g) (et : τ 132 k = nI c) : (c = 8 * n ∧ ∀ m, bdy m (nI k) τ = fX9_fillsAll_9 124 m τ (nI k + -1)) ∨ (c < 8 * n ∧ ¬ g (123 + c / 8) = -1 ∧ ∀ m, bdy m (nI k) τ = fX9_fillsAll_9 124 m τ (nI k)) ∨ (c < 8 * n ∧ g (123 + c / 8) = -1 ∧ ¬ nFlt g w h n (c / 8) k (c % 8) = 0 ∧ ∃ τ', Off2 τ τ' ∧ ∀ m, bdy m (nI k) τ = fX9_fillsAll_9 124 m τ' (nI k)) ∨ (c < 8 * n ∧ g (123 + c / 8) = -1 ∧ nFlt g w h n (c / 8) k (c % 8) = 0 ∧ ∃ τ', SF τ τ' ∧ τ' 125 = pF g (c / 8) (nI k) (nI (c % 8)) ∧ (∀ j, j ≤ k → τ' 132 j = τ 132 j) ∧ (k + 1 < w * h → τ' 132 (k + 1) = -1) ∧ ∀ m, bdy m (nI k) τ = fX9_fillsAll_9 124 m τ' (nI (k + 1))) := by
  have n12 := O.2.1.2.2.2.2
  by_cases c1 : c = 8 * n
  · refine Or.inl ⟨c1, fun m => ?_⟩
    unfold bdy
    rw [if_pos (c132 (by omega)), gl_e, if_pos k12, nI_cl (n := k) (by omega), show τ (124 + 8) k = nI c from et, show τ (124 + 1) (2 : Int32).toNatClampNeg = nI n by rw [cl_2]; exact (congrFun e5 2).trans O.1.2.2, nId (by omega), if_pos (show nI (c / 8) = nI n by rw [show c / 8 = n by omega]), gl_e]
  · have hs : c / 8 < n := by omega
    have c1' : ¬ nI (c / 8) = nI n := fun q => by have := (nI_eq (show c / 8 < 2 ^ 31 by omega) (show n < 2 ^ 31 by omega)).mp q; omega
    by_cases c2 : g (123 + c / 8) = -1
    · obtain ⟨τ1, p1, F1⟩ := cli9 (τ := τ) (s := c / 8) (k := k) (o := c % 8) (by rw [e5]; exact O) hs hk (by omega)
      have e51 : τ1 125 = g := (F1 125 (by decide) (by decide)).trans e5
      have et1 : τ1 132 = τ 132 := F1 132 (by decide) (by decide)
      by_cases c3 : nFlt g w h n (c / 8) k (c % 8) = 0
      · refine Or.inr (Or.inr (Or.inr ⟨by omega, c2, c3, ?_⟩))
        have hpl : fX9_places (gset τ1 125 (pF g (c / 8) (nI k) (nI (c % 8)))) 124 = some (nI (w * h)) := by
          unfold fX9_places
          rw [if_pos k10, if_pos k11, cl_0, cl_1, show gset τ1 125 (pF g (c / 8) (nI k) (nI (c % 8))) (124 + 1) 0 = nI w by rw [show (124 + 1 : Nat) = 125 from rfl, gset_at, pF_lo 0 (by omega)]; exact O.1.1, show gset τ1 125 (pF g (c / 8) (nI k) (nI (c % 8))) (124 + 1) 1 = nI h by rw [show (124 + 1 : Nat) = 125 from rfl, gset_at, pF_lo 1 (by omega)]; exact O.1.2.1, pk_mul]
        have pre : ∀ m, bdy m (nI k) τ = if nI (w * h) ≤ nI (k + 1) then fX9_fillsAll_9 124 m (gset τ1 125 (pF g (c / 8) (nI k) (nI (c % 8)))) (nI (k + 1)) else (if ¬ (nI (k + 1) < 0 ∨ gln (124 + 8) ≤ (nI (k + 1)).toNatClampNeg) then (gl (gset (gset τ1 125 (pF g (c / 8) (nI k) (nI (c % 8)))) (124 + 8) (upd (gset τ1 125 (pF g (c / 8) (nI k) (nI (c % 8))) (124 + 8)) (nI (k + 1)).toNatClampNeg (-1))) fun σ31 => fX9_fillsAll_9 124 m σ31 (nI (k + 1))) else none) := by
          intro m
          unfold bdy
          rw [if_pos (c132 (by omega)), gl_e, if_pos k12, nI_cl (n := k) (by omega), show τ (124 + 8) k = nI c from et, show τ (124 + 1) (2 : Int32).toNatClampNeg = nI n by rw [cl_2]; exact (congrFun e5 2).trans O.1.2.2, nIr (by omega), nId (by omega), if_neg c1', on9' (by omega), Option.bind_some, e5, if_pos c2, if_pos rfl, if_pos (c132b (by omega)), p1, bp, e5, if_pos c3, if_neg n10, if_pos (c132b (by omega)), show τ1 (124 + 8) k = nI c from (congrFun et1 k).trans et, nIr (by omega), put9 (by omega), Option.bind_some, gl_e, e51, hpl, Option.bind_some, nIa1]
        by_cases c4 : k + 1 < w * h
        · refine ⟨gset (gset τ1 125 (pF g (c / 8) (nI k) (nI (c % 8)))) 132 (upd (τ1 132) (k + 1) (-1)), fun x h1 h2 h3 h4 => by rw [gset_ne h4, gset_ne h1, F1 x h2 h3], by rw [gset_ne (by decide), gset_at], fun j hj => by rw [gset_at, pk_un (by omega), et1], fun _ => by rw [gset_at, pk_us], fun m => ?_⟩
          rw [pre, if_neg (nI_ge c4 (by omega)), if_pos (c132 (by omega)), gl_e, nI_cl (n := k + 1) (by omega)]
          rfl
        · refine ⟨gset τ1 125 (pF g (c / 8) (nI k) (nI (c % 8))), fun x h1 h2 h3 h4 => by rw [gset_ne h1, F1 x h2 h3], by rw [gset_at], fun j hj => by rw [gset_ne (by decide), et1], fun q => absurd q c4, fun m => ?_⟩
          rw [pre, if_pos (nI_le (by omega) (by omega))]
      · refine Or.inr (Or.inr (Or.inl ⟨by omega, c2, c3, τ1, F1, fun m => ?_⟩))
        unfold bdy
        rw [if_pos (c132 (by omega)), gl_e, if_pos k12, nI_cl (n := k) (by omega), show τ (124 + 8) k = nI c from et, show τ (124 + 1) (2 : Int32).toNatClampNeg = nI n by rw [cl_2]; exact (congrFun e5 2).trans O.1.2.2, nIr (by omega), nId (by omega), if_neg c1', on9' (by omega), Option.bind_some, e5, if_pos c2, if_pos rfl, if_pos (c132b (by omega)), p1, bp, e5, if_neg c3, if_pos rfl]
    · refine Or.inr (Or.inl ⟨by omega, c2, fun m => ?_⟩)
      unfold bdy
      rw [if_pos (c132 (by omega)), gl_e, if_pos k12, nI_cl (n := k) (by omega), show τ (124 + 8) k = nI c from et, show τ (124 + 1) (2 : Int32).toNatClampNeg = nI n by rw [cl_2]; exact (congrFun e5 2).trans O.1.2.2, nIr (by omega), nId (by omega), if_neg c1', on9' (by omega), Option.bind_some, e5, if_neg c2, if_neg n10]
