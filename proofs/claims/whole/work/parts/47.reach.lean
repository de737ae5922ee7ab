/-! WITHIN SO MANY STEPS -/
def rch (J : Nat → Nat → Prop) : Nat → Nat → Nat → Prop
  | 0, m, s => m = s
  | r + 1, m, s => rch J r m s ∨ ∃ u, rch J r m u ∧ J u s
theorem rch_0 {J : Nat → Nat → Prop} {m s : Nat} : rch J 0 m s = (m = s) := rfl
theorem rch_s {J : Nat → Nat → Prop} {r m s : Nat} : rch J (r + 1) m s = (rch J r m s ∨ ∃ u, rch J r m u ∧ J u s) := rfl
theorem rch_up {J : Nat → Nat → Prop} {r m s : Nat} (H : rch J r m s) : ∀ d, rch J (r + d) m s := by
  intro d
  induction d with
  | zero => exact H
  | succ d ih => exact Or.inl ih
theorem stab : ∀ (n : Nat) (P : Nat → Nat → Prop), (∀ r s, P r s → P (r + 1) s) → ∃ r, r ≤ n ∧ ∀ s, s < n → P (r + 1) s → P r s := by
  intro n
  induction n with
  | zero => exact fun P _ => ⟨0, Nat.le_refl _, fun s hs => absurd hs (by omega)⟩
  | succ n ih =>
    intro P mono
    have mup : ∀ d r s, P r s → P (r + d) s := by
      intro d
      induction d with
      | zero => exact fun r s h => h
      | succ d ihd => exact fun r s h => mono _ _ (ihd r s h)
    by_cases c : ∃ r0, P (r0 + 1) n ∧ ¬ P r0 n
    · obtain ⟨r0, c1, c2⟩ := c
      obtain ⟨r, hr, hq⟩ := ih (fun r s => if r ≤ r0 then P r s else P (r + 1) s) (fun r s h => by
        by_cases x1 : r + 1 ≤ r0
        · have h : P r s := by rw [if_pos (show r ≤ r0 by omega)] at h; exact h
          rw [if_pos x1]
          exact mono _ _ h
        · rw [if_neg x1]
          by_cases x2 : r ≤ r0
          · rw [if_pos x2] at h
            exact mono _ _ (mono _ _ h)
          · rw [if_neg x2] at h
            exact mono _ _ h)
      by_cases x1 : r < r0
      · refine ⟨r, by omega, fun s hs h => ?_⟩
        by_cases cs : s = n
        · subst cs
          have := mup (r0 - (r + 1)) (r + 1) s h
          rw [show r + 1 + (r0 - (r + 1)) = r0 by omega] at this
          exact absurd this c2
        · have := hq s (by omega)
          rw [if_pos (show r + 1 ≤ r0 by omega), if_pos (show r ≤ r0 by omega)] at this
          exact this h
      · refine ⟨r + 1, by omega, fun s hs h => ?_⟩
        by_cases cs : s = n
        · subst cs
          have := mup (r - r0) (r0 + 1) s c1
          rw [show r0 + 1 + (r - r0) = r + 1 by omega] at this
          exact this
        · have := hq s (by omega)
          rw [if_neg (show ¬ r + 1 ≤ r0 by omega)] at this
          have := this h
          by_cases x2 : r ≤ r0
          · rw [if_pos x2] at this
            exact mono _ _ this
          · rw [if_neg x2] at this
            exact this
    · obtain ⟨r, hr, hq⟩ := ih P mono
      refine ⟨r, by omega, fun s hs h => ?_⟩
      by_cases cs : s = n
      · subst cs
        exact Classical.byContradiction (fun q => c ⟨r, h, q⟩)
      · exact hq s (by omega) h
/-- n steps lead as far as any number -/
theorem rch_n {J : Nat → Nat → Prop} {n m : Nat} (hJ : ∀ u s, J u s → u < n ∧ s < n) (hm : m < n) : ∀ q s, rch J q m s → rch J n m s := by
  have lt : ∀ q s, rch J q m s → s < n := by
    intro q
    induction q with
    | zero => intro s h; rw [rch_0] at h; omega
    | succ q ih =>
      intro s h
      rcases h with h | ⟨u, -, h⟩
      · exact ih s h
      · exact (hJ u s h).2
  obtain ⟨r, hr, H⟩ := stab n (fun r s => rch J r m s) (fun r s h => Or.inl h)
  have all : ∀ q s, rch J q m s → rch J r m s := by
    intro q
    induction q with
    | zero =>
      intro s h
      have := rch_up h r
      rw [Nat.zero_add] at this
      exact this
    | succ q ih =>
      intro s h
      rcases h with h | ⟨u, h1, h2⟩
      · exact ih s h
      · exact H s (hJ u s h2).2 (Or.inr ⟨u, ih u h1, h2⟩)
  intro q s h
  have := rch_up (all q s h) (n - r)
  rw [show r + (n - r) = n by omega] at this
  exact this
/-! THE CLASS GATHERS ITS GROUPS -/
/-- a label that is at most m -/
def LE (σ : gM) (x m : Nat) : Prop := ∃ a, σ 110 x = nI a ∧ a < 1000 ∧ a ≤ m
/-- labels on the way -/
def BI (σ0 : gM) (f : Nat → Int32) (w h n : Nat) (σ : gM) : Prop :=
  (∀ c, c ≠ 108 → c ≠ 110 → σ c = σ0 c) ∧ σ 108 1 = nI n ∧ (∀ s, s < n → f (123 + s) = -1 → σ 110 s = -1) ∧
  ∀ s, s < n → f (123 + s) ≠ -1 → ∃ a q, σ 110 s = nI a ∧ a ≤ s ∧ a < n ∧ f (123 + a) ≠ -1 ∧ rch (Jn f w h n) q a s
theorem g110 : gln 110 = 12 := by decide
theorem BI.desk {σ0 σ : gM} {f : Nat → Int32} {w h n : Nat} (B : BI σ0 f w h n σ) (D : DDo σ0 1 f w h n) : DDo σ 1 f w h n := D.mv (fun c _ h2 => B.1 c (by omega) (by omega))
theorem lt_oI {a b : Nat} (ha : a < 1000) (hb : b < 1000) : (if nI b < nI a then nI b else nI a) = nI (if b < a then b else a) := by
  by_cases c : b < a
  · rw [if_pos c, if_pos (nI_lt c (by omega))]
  · rw [if_neg c, if_neg (nI_nlt (by omega) (by omega))]
theorem joiL {σ0 σ : gM} {f : Nat → Int32} {w h n s e : Nat} (D : DDo σ0 1 f w h n) (B : BI σ0 f w h n σ) (hs : s < n) (he : e < 4) : ∃ σ', fX2_join σ 108 1 (nI s) (nI e) = some σ' ∧ BI σ0 f w h n σ' ∧ (∀ x m, LE σ x m → LE σ' x m) ∧ ∀ t, jn f w h n s e = some t → ∀ m, (LE σ s m → LE σ' t m) ∧ (LE σ t m → LE σ' s m) := by
  have n12 := D.2.1.2.1.2.2.2.2
  have D' := B.desk D
  unfold fX2_join
  rw [joi8 D' hs he, Option.bind_some]
  cases hj : jn f w h n s e with
  | none =>
    rw [if_pos rfl, if_pos rfl]
    exact ⟨σ, rfl, B, fun x m h => h, fun t q => by cases q⟩
  | some t =>
    have J1 : Jn f w h n s t := ⟨hs, e, he, hj⟩
    obtain ⟨-, ht, ls, lt⟩ := J1.lies D.2.1
    have J2 := J1.sym D.2.1
    obtain ⟨-, -, hnb⟩ := jn_in hj
    have hne := (nb_lt hnb).2
    obtain ⟨a, qa, a1, a2, a3, a4, a5⟩ := B.2.2.2 s hs ls
    obtain ⟨b, qb, b1, b2, b3, b4, b5⟩ := B.2.2.2 t ht lt
    have key : ∀ c, (c = a ∨ c = b) → c < n ∧ f (123 + c) ≠ -1 ∧ (∃ q, rch (Jn f w h n) q c s) ∧ ∃ q, rch (Jn f w h n) q c t := by
      intro c hc
      rcases hc with rfl | rfl
      · exact ⟨a3, a4, ⟨qa, a5⟩, ⟨qa + 1, Or.inr ⟨s, a5, J1⟩⟩⟩
      · exact ⟨b3, b4, ⟨qb + 1, Or.inr ⟨t, b5, J2⟩⟩, ⟨qb, b5⟩⟩
    obtain ⟨c, hc, hca, hcb, hmin⟩ : ∃ c, (c = a ∨ c = b) ∧ c ≤ a ∧ c ≤ b ∧ (if b < a then b else a) = c := by
      by_cases x : b < a
      · exact ⟨b, Or.inr rfl, by omega, by omega, if_pos x⟩
      · exact ⟨a, Or.inl rfl, by omega, by omega, if_neg x⟩
    obtain ⟨c1, c2, c3, c4⟩ := key c hc
    refine ⟨gset σ 110 (upd (upd (σ 110) s (nI c)) t (nI c)), ?_, ⟨?_, ?_, ?_, ?_⟩, ?_, ?_⟩
    · rw [if_neg (show ¬ (some t : Option Nat) = none from fun q => by cases q), if_neg n10, nop8 D' hs he, Option.bind_some, if_neg ls, hnb, oI_s, get_in (show s < gln (108 + 1 + 1) by rw [show gln (108 + 1 + 1) = 12 from g110]; omega), Option.bind_some, get_in (show t < gln (108 + 1 + 1) by rw [show gln (108 + 1 + 1) = 12 from g110]; omega), Option.bind_some, gl_e, show σ (108 + 1 + 1) s = nI a from a1, show σ (108 + 1 + 1) t = nI b from b1, lt_oI (by omega) (by omega), hmin, set_in (show s < gln (108 + 1 + 1) by rw [show gln (108 + 1 + 1) = 12 from g110]; omega), Option.bind_some, set_in (show t < gln (108 + 1 + 1) by rw [show gln (108 + 1 + 1) = 12 from g110]; omega), Option.bind_some]
      refine congrArg some ?_
      show gset (gset σ 110 (upd (σ 110) s (nI c))) 110 (upd (gset σ 110 (upd (σ 110) s (nI c)) 110) t (nI c)) = _
      rw [gset_at, gset2]
    · intro x h1 h2
      rw [gset_ne h2, B.1 x h1 h2]
    · rw [gset_ne (by decide)]
      exact B.2.1
    · intro x hx hl
      have x1 : x ≠ s := fun q => ls (by rw [← q]; exact hl)
      have x2 : x ≠ t := fun q => lt (by rw [← q]; exact hl)
      rw [gset_at, pk_un x2, pk_un x1]
      exact B.2.2.1 x hx hl
    · intro x hx hl
      rw [gset_at]
      by_cases x2 : x = t
      · obtain ⟨q, hq⟩ := c4
        subst x2
        exact ⟨c, q, pk_us, by omega, c1, c2, hq⟩
      · rw [pk_un x2]
        by_cases x1 : x = s
        · obtain ⟨q, hq⟩ := c3
          subst x1
          exact ⟨c, q, pk_us, by omega, c1, c2, hq⟩
        · rw [pk_un x1]
          exact B.2.2.2 x hx hl
    · intro x m hx
      obtain ⟨z, z1, z3, z2⟩ := hx
      unfold LE
      rw [gset_at]
      by_cases x2 : x = t
      · subst x2
        rw [b1] at z1
        have := (nI_eq (show b < 2 ^ 31 by omega) (show z < 2 ^ 31 by omega)).mp z1
        exact ⟨c, pk_us, by omega, by omega⟩
      · rw [pk_un x2]
        by_cases x1 : x = s
        · subst x1
          rw [a1] at z1
          have := (nI_eq (show a < 2 ^ 31 by omega) (show z < 2 ^ 31 by omega)).mp z1
          exact ⟨c, pk_us, by omega, by omega⟩
        · rw [pk_un x1]
          exact ⟨z, z1, z3, z2⟩
    · intro t' ht' m
      cases ht'
      have us : gset σ 110 (upd (upd (σ 110) s (nI c)) t (nI c)) 110 s = nI c := by
        rw [gset_at, pk_un (fun q => hne q.symm), pk_us]
      have ut : gset σ 110 (upd (upd (σ 110) s (nI c)) t (nI c)) 110 t = nI c := by
        rw [gset_at, pk_us]
      refine ⟨fun hx => ?_, fun hx => ?_⟩
      · obtain ⟨z, z1, z3, z2⟩ := hx
        rw [a1] at z1
        have := (nI_eq (show a < 2 ^ 31 by omega) (show z < 2 ^ 31 by omega)).mp z1
        exact ⟨c, ut, by omega, by omega⟩
      · obtain ⟨z, z1, z3, z2⟩ := hx
        rw [b1] at z1
        have := (nI_eq (show b < 2 ^ 31 by omega) (show z < 2 ^ 31 by omega)).mp z1
        exact ⟨c, us, by omega, by omega⟩
