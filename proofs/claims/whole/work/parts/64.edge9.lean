/-! READING THE TEXT: an edge, on the reference's side -/
variable {τ : gM} {L : Nat} {tc : Nat → Nat}
def FR (τ τ' : gM) : Prop := ∀ c, c ≠ 130 → τ' c = τ c
theorem FR.rf {τ : gM} : FR τ τ := fun _ _ => rfl
theorem FR.tr {a b c : gM} (A : FR a b) (B : FR b c) : FR a c := fun x h => (B x h).trans (A x h)
theorem FR.g {τ : gM} {v : Nat → Int32} : FR τ (gset τ 130 v) := fun _ h => gset_ne h
theorem TXr.fr {τ' : gM} (X : TXr τ L tc) (F : FR τ τ') : TXr τ' L tc := by
  refine ⟨X.1, by rw [F 124 (by decide)]; exact X.2.1, fun j hj => ?_⟩
  rw [F 127 (by decide)]
  exact X.2.2 j hj
/-- behind an edge: the sign that parts it from the next, else a fault -/
def sp (L : Nat) (tc : Nat → Nat) (m : Nat) (τ : gM) (q e : Nat) : Option (Int32 × gM) := if ch L tc q = (if e = 3 then 59 else 44) then fX9_fault_4 124 m τ (nI (q + 1)) (nI (e + 1)) else some (nI q, τ)
theorem sepL {α : Type} {q e : Nat} {A B : α} (X : TXr τ L tc) (he : e < 4) : (if (3 : Int32) ≤ nI e then (if nI (ch L tc q) = 59 then A else B) else (if nI (ch L tc q) = 44 then A else B)) = if ch L tc q = (if e = 3 then 59 else 44) then A else B := by
  have hc := ch_lt9 X q
  by_cases c : e = 3
  · rw [if_pos (show (3 : Int32) ≤ nI e from nI_le (a := 3) (by omega) (by omega)), if_pos c]
    by_cases d : ch L tc q = 59
    · rw [if_pos d, if_pos (show nI (ch L tc q) = 59 from (nI_eq (b := 59) (by omega) (by decide)).mpr d)]
    · rw [if_neg d, if_neg (show ¬ nI (ch L tc q) = 59 from fun z => d ((nI_eq (b := 59) (by omega) (by decide)).mp z))]
  · rw [if_neg (show ¬ (3 : Int32) ≤ nI e from nI_ge (b := 3) (by omega) (by decide)), if_neg c]
    by_cases d : ch L tc q = 44
    · rw [if_pos d, if_pos (show nI (ch L tc q) = 44 from (nI_eq (b := 44) (by omega) (by decide)).mpr d)]
    · rw [if_neg d, if_neg (show ¬ nI (ch L tc q) = 44 from fun z => d ((nI_eq (b := 44) (by omega) (by decide)).mp z))]
def RF (τ : gM) (q : Nat) (x : Option (Int32 × gM)) : Prop := ∃ τ', x = some (nI q, τ') ∧ FR τ τ'
def RY (L : Nat) (tc : Nat → Nat) (m : Nat) (τ : gM) (q e : Nat) (P Ln : Int32) (x : Option (Int32 × gM)) : Prop := ∃ τ', x = sp L tc m τ' q e ∧ FR τ τ' ∧ τ' 130 = upd (upd (τ 130) e P) (4 + e) Ln
theorem nic {q a : Nat} (X : TXr τ L tc) (ha : a < 1000) : nI (ch L tc q) = nI a ↔ ch L tc q = a := nI_eq (by have := ch_lt9 X q; omega) (by omega)
theorem ix4 (e : Nat) : (4 : Int32) + nI e = nI (4 + e) := nIa 4 e
theorem gs2 {u v : Nat → Int32} : gset (gset τ 130 u) 130 v = gset τ 130 v := gset2
theorem rMin {p e m : Nat} (X : TXr τ L tc) (hp : p < 900) (he : e < 4) (c0 : ch L tc p = 45) : (¬ ch L tc (p + 1) = 47 → RF τ (p + 1) (fX9_fault_4 124 (m + 1) τ (nI p) (nI e))) ∧ (ch L tc (p + 1) = 47 → ¬ ch L tc (p + 2) = 48 → RF τ (p + 2) (fX9_fault_4 124 (m + 1) τ (nI p) (nI e))) ∧ (ch L tc (p + 1) = 47 → ch L tc (p + 2) = 48 → RY L tc m τ (p + 3) e (-1) 0 (fX9_fault_4 124 (m + 1) τ (nI p) (nI e))) := by
  obtain ⟨g, hg⟩ := gF4
  have X1 : TXr (gset τ 130 (upd (τ 130) e (-1))) L tc := X.fr FR.g
  have n45 : nI (ch L tc p) = 45 := (nic (a := 45) X (by decide)).mpr c0
  rw [fX9_fault_4, if_neg (i4 he), sig9 X (by omega), Option.bind_some, if_pos n45, if_pos (c130 (by omega)), gl_e, nI_cl (n := e) (by omega), hg, fX9_fault_43, if_neg (show ¬ (3 : Int32) ≤ 0 by decide), if_neg n10, gl_e, nIa1, show gset τ (124 + 6) (upd (τ (124 + 6)) e (-1)) = gset τ 130 (upd (τ 130) e (-1)) from rfl, sig9 X1 (by omega), Option.bind_some]
  by_cases c1 : ch L tc (p + 1) = 47
  · rw [if_pos (show nI (ch L tc (p + 1)) = 47 from (nic (a := 47) X (by decide)).mpr c1), gl_e, nIa1, dig9 X1 (by omega), Option.bind_some]
    by_cases cd : 48 ≤ ch L tc (p + 2) ∧ ch L tc (p + 2) ≤ 57
    · obtain ⟨rd, gd⟩ := rd9 X1 (p := p + 2) rfl (by omega)
      rw [if_pos cd, if_neg n10, if_pos gd, nI_cl (n := p + 2) (by omega), show gset τ 130 (upd (τ 130) e (-1)) (124 + 3) (p + 2) = _ from rd]
      by_cases c2 : ch L tc (p + 2) = 48
      · have gd' := gd
        rw [nI_cl (n := p + 2) (by omega)] at gd'
        have X2 : TXr (gset (gset τ 130 (upd (τ 130) e (-1))) 130 (upd (upd (τ 130) e (-1)) (4 + e) 0)) L tc := X1.fr FR.g
        rw [if_pos (show nI (ch L tc (p + 2)) = 48 from (nic (a := 48) X (by decide)).mpr c2), if_pos gd', ix4, if_pos (c130 (by omega)), gl_e, gl_e, nIa1, nI_cl (n := 4 + e) (by omega), show nI (ch L tc (p + 2)) - 48 = 0 by rw [c2]; decide, show gset τ 130 (upd (τ 130) e (-1)) (124 + 6) = upd (τ 130) e (-1) from gset_at, show gset (gset τ 130 (upd (τ 130) e (-1))) (124 + 6) (upd (upd (τ 130) e (-1)) (4 + e) 0) = gset (gset τ 130 (upd (τ 130) e (-1))) 130 (upd (upd (τ 130) e (-1)) (4 + e) 0) from rfl, sig9 X2 (by omega), Option.bind_some, gl_e, nIa1, gl_e, nIa1, sepL X he]
        refine ⟨fun q => absurd c1 q, fun _ q => absurd c2 q, fun _ _ => ⟨_, rfl, FR.g.tr FR.g, gset_at⟩⟩
      · rw [if_neg (show ¬ nI (ch L tc (p + 2)) = 48 from fun z => c2 ((nic (a := 48) X (by decide)).mp z))]
        exact ⟨fun q => absurd c1 q, fun _ _ => ⟨_, rfl, FR.g⟩, fun _ q => absurd q c2⟩
    · rw [if_neg cd, if_pos rfl]
      exact ⟨fun q => absurd c1 q, fun _ _ => ⟨_, rfl, FR.g⟩, fun _ q => absurd (show 48 ≤ ch L tc (p + 2) ∧ ch L tc (p + 2) ≤ 57 by omega) cd⟩
  · rw [if_neg (show ¬ nI (ch L tc (p + 1)) = 47 from fun z => c1 ((nic (a := 47) X (by decide)).mp z))]
    exact ⟨fun _ => ⟨_, rfl, FR.g⟩, fun q => absurd q c1, fun q => absurd q c1⟩
theorem dval {a x : Nat} (hx : 48 ≤ x) : ((10 * nI a) + nI x) - 48 = nI (10 * a + (x - 48)) := by
  rw [show (10 : Int32) = nI 10 from rfl, pk_mul, nIa, show (48 : Int32) = nI 48 from rfl, pk_sub (by omega)]
  exact congrArg nI (by omega)
/-- one digit of the profile -/
theorem r43 {K4 : gM → Int32 → Int32 → Option (Int32 × gM)} {g p e j a : Nat} {u : Nat → Int32} (X : TXr τ L tc) (hp : p < 900) (he : e < 4) (hj : j < 3) : (dg L tc p → fX9_fault_43 K4 124 (g + 1) (gset τ 130 (upd u e (nI a))) (nI p) (nI e) 0 (nI j) = fX9_fault_43 K4 124 g (gset τ 130 (upd u e (nI (10 * a + (ch L tc p - 48))))) (nI (p + 1)) (nI e) 0 (nI (j + 1))) ∧ (¬ dg L tc p → fX9_fault_43 K4 124 (g + 1) (gset τ 130 (upd u e (nI a))) (nI p) (nI e) 0 (nI j) = some (nI p, gset τ 130 (upd u e (nI a)))) := by
  have X1 : TXr (gset τ 130 (upd u e (nI a))) L tc := X.fr FR.g
  rw [fX9_fault_43, if_neg (show ¬ (3 : Int32) ≤ nI j from nI_ge (b := 3) hj (by decide)), if_pos rfl, dig9 X1 (by omega), Option.bind_some]
  by_cases cd : 48 ≤ ch L tc p ∧ ch L tc p ≤ 57
  · obtain ⟨rd, gd⟩ := rd9 X1 (p := p) rfl (by omega)
    refine ⟨fun _ => ?_, fun q => absurd cd q⟩
    rw [if_pos cd, if_neg n10, if_pos (c130 (by omega)), if_pos gd, if_pos (c130 (by omega)), gl_e, gl_e, nIa1, gl_e, nIa1, nI_cl (n := e) (by omega), nI_cl (n := p) (by omega), show gset τ 130 (upd u e (nI a)) (124 + 3) p = _ from rd, show gset τ 130 (upd u e (nI a)) (124 + 6) = upd u e (nI a) from gset_at, pk_us, dval cd.1, show (124 + 6 : Nat) = 130 from rfl, gs2, updd]
  · refine ⟨fun q => absurd q cd, fun _ => ?_⟩
    rw [if_neg cd, if_pos rfl]
theorem rDig {p e m : Nat} (X : TXr τ L tc) (hp : p < 800) (he : e < 4) (c0 : ¬ ch L tc p = 45) : (¬ dg L tc p → RF τ p (fX9_fault_4 124 (m + 1) τ (nI p) (nI e))) ∧ (dg L tc p → ¬ dg L tc (p + 1) → RF τ (p + 1) (fX9_fault_4 124 (m + 1) τ (nI p) (nI e))) ∧ (dg L tc p → dg L tc (p + 1) → ¬ dg L tc (p + 2) → RF τ (p + 2) (fX9_fault_4 124 (m + 1) τ (nI p) (nI e))) ∧ (dg L tc p → dg L tc (p + 1) → dg L tc (p + 2) → ¬ ch L tc (p + 3) = 47 → RF τ (p + 3) (fX9_fault_4 124 (m + 1) τ (nI p) (nI e))) ∧ (dg L tc p → dg L tc (p + 1) → dg L tc (p + 2) → ch L tc (p + 3) = 47 → ¬ dg L tc (p + 4) → RF τ (p + 4) (fX9_fault_4 124 (m + 1) τ (nI p) (nI e))) ∧ (dg L tc p → dg L tc (p + 1) → dg L tc (p + 2) → ch L tc (p + 3) = 47 → dg L tc (p + 4) → RY L tc m τ (p + 5) e (nI (10 * (10 * (10 * 0 + (ch L tc p - 48)) + (ch L tc (p + 1) - 48)) + (ch L tc (p + 2) - 48))) (nI (ch L tc (p + 4) - 48)) (fX9_fault_4 124 (m + 1) τ (nI p) (nI e))) := by
  obtain ⟨g, hg⟩ := gF4
  have n45 : ¬ nI (ch L tc p) = 45 := fun z => c0 ((nic (a := 45) X (by decide)).mp z)
  rw [fX9_fault_4, if_neg (i4 he), sig9 X (by omega), Option.bind_some, if_neg n45, if_pos (c130 (by omega)), gl_e, nI_cl (n := e) (by omega), hg, show fX9_fault_43 (fun σ2 y1 y2 => fX9_fault_4 124 m σ2 y1 y2) 124 (g + 4) (gset τ (124 + 6) (upd (τ (124 + 6)) e 0)) (nI p) (nI e) 0 0 = fX9_fault_43 (fun σ2 y1 y2 => fX9_fault_4 124 m σ2 y1 y2) 124 (g + 3 + 1) (gset τ 130 (upd (τ 130) e (nI 0))) (nI p) (nI e) 0 (nI 0) from rfl]
  have s0 := r43 (K4 := fun σ2 y1 y2 => fX9_fault_4 124 m σ2 y1 y2) (g := g + 3) (p := p) (e := e) (j := 0) (a := 0) (u := τ 130) X (by omega) he (by decide)
  by_cases d0 : dg L tc p
  · rw [s0.1 d0]
    have s1 := r43 (K4 := fun σ2 y1 y2 => fX9_fault_4 124 m σ2 y1 y2) (g := g + 2) (p := p + 1) (e := e) (j := 1) (a := 10 * 0 + (ch L tc p - 48)) (u := τ 130) X (by omega) he (by decide)
    by_cases d1 : dg L tc (p + 1)
    · rw [s1.1 d1]
      have s2 := r43 (K4 := fun σ2 y1 y2 => fX9_fault_4 124 m σ2 y1 y2) (g := g + 1) (p := p + 2) (e := e) (j := 2) (a := 10 * (10 * 0 + (ch L tc p - 48)) + (ch L tc (p + 1) - 48)) (u := τ 130) X (by omega) he (by decide)
      by_cases d2 : dg L tc (p + 2)
      · have X1 : TXr (gset τ 130 (upd (τ 130) e (nI (10 * (10 * (10 * 0 + (ch L tc p - 48)) + (ch L tc (p + 1) - 48)) + (ch L tc (p + 2) - 48))))) L tc := X.fr FR.g
        rw [s2.1 d2, fX9_fault_43, if_pos (show (3 : Int32) ≤ nI (2 + 1) by decide), if_pos rfl, gl_e, Int32.add_zero, sig9 X1 (by omega), Option.bind_some]
        by_cases d3 : ch L tc (p + 3) = 47
        · rw [if_pos (show nI (ch L tc (p + 2 + 1)) = 47 from (nic (a := 47) X (by decide)).mpr d3), gl_e, nIa1, dig9 X1 (by omega), Option.bind_some]
          by_cases d4 : dg L tc (p + 4)
          · obtain ⟨rd, gd⟩ := rd9 X1 (p := p + 4) rfl (show 1 ≤ ch L tc (p + 4) by have := d4.1; omega)
            have X2 : TXr (gset τ 130 (upd (upd (τ 130) e (nI (10 * (10 * (10 * 0 + (ch L tc p - 48)) + (ch L tc (p + 1) - 48)) + (ch L tc (p + 2) - 48)))) (4 + e) (nI (ch L tc (p + 4) - 48)))) L tc := X.fr FR.g
            rw [if_pos (show 48 ≤ ch L tc (p + 2 + 1 + 1) ∧ ch L tc (p + 2 + 1 + 1) ≤ 57 from d4), if_neg n10, show nI (p + 2 + 1 + 1) = nI (p + 4) from rfl, if_pos gd, ix4, if_pos (c130 (by omega)), gl_e, gl_e, nIa1, nI_cl (n := 4 + e) (by omega), nI_cl (n := p + 4) (by omega), show gset τ 130 (upd (τ 130) e (nI (10 * (10 * (10 * 0 + (ch L tc p - 48)) + (ch L tc (p + 1) - 48)) + (ch L tc (p + 2) - 48)))) (124 + 3) (p + 4) = _ from rd, show gset τ 130 (upd (τ 130) e (nI (10 * (10 * (10 * 0 + (ch L tc p - 48)) + (ch L tc (p + 1) - 48)) + (ch L tc (p + 2) - 48)))) (124 + 6) = _ from gset_at, sub48 d4.1, show (124 + 6 : Nat) = 130 from rfl, gs2, sig9 X2 (by omega), Option.bind_some, gl_e, nIa1, gl_e, nIa1, sepL X he]
            exact ⟨fun q => absurd d0 q, fun _ q => absurd d1 q, fun _ _ q => absurd d2 q, fun _ _ _ q => absurd d3 q, fun _ _ _ _ q => absurd d4 q, fun _ _ _ _ _ => ⟨_, rfl, FR.g, gset_at⟩⟩
          · rw [if_neg (show ¬ (48 ≤ ch L tc (p + 2 + 1 + 1) ∧ ch L tc (p + 2 + 1 + 1) ≤ 57) from d4), if_pos rfl]
            exact ⟨fun q => absurd d0 q, fun _ q => absurd d1 q, fun _ _ q => absurd d2 q, fun _ _ _ q => absurd d3 q, fun _ _ _ _ _ => ⟨_, rfl, FR.g⟩, fun _ _ _ _ q => absurd q d4⟩
        · rw [if_neg (show ¬ nI (ch L tc (p + 2 + 1)) = 47 from fun z => d3 ((nic (a := 47) X (by decide)).mp z))]
          exact ⟨fun q => absurd d0 q, fun _ q => absurd d1 q, fun _ _ q => absurd d2 q, fun _ _ _ _ => ⟨_, rfl, FR.g⟩, fun _ _ _ q => absurd q d3, fun _ _ _ q => absurd q d3⟩
      · rw [s2.2 d2]
        exact ⟨fun q => absurd d0 q, fun _ q => absurd d1 q, fun _ _ _ => ⟨_, rfl, FR.g⟩, fun _ _ q => absurd q d2, fun _ _ q => absurd q d2, fun _ _ q => absurd q d2⟩
    · rw [s1.2 d1]
      exact ⟨fun q => absurd d0 q, fun _ _ => ⟨_, rfl, FR.g⟩, fun _ q => absurd q d1, fun _ q => absurd q d1, fun _ q => absurd q d1, fun _ q => absurd q d1⟩
  · rw [s0.2 d0]
    exact ⟨fun _ => ⟨_, rfl, FR.g⟩, fun q => absurd q d0, fun q => absurd q d0, fun q => absurd q d0, fun q => absurd q d0, fun q => absurd q d0⟩
