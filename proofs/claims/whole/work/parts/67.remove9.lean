/-! A SCRAP IS REMOVED: the reference shifts -/
def zG (f : Nat → Int32) (s a b p q r j : Nat) : Int32 := if 3 + 4 * s ≤ j ∧ j < a then f (j + 4) else if 51 + 4 * s ≤ j ∧ j < b then f (j + 4) else if 99 + s ≤ j ∧ j < p then f (j + 1) else if 111 + s ≤ j ∧ j < q then f (j + 1) else if 123 + s ≤ j ∧ j < r then f (j + 1) else f j
theorem ifc {P Q : Prop} [Decidable P] [Decidable Q] {x y u z : Int32} (h : P ↔ Q) (h1 : x = u) (h2 : y = z) : (if P then x else y) = if Q then u else z := by
  by_cases c : P
  · rw [if_pos c, if_pos (h.mp c), h1]
  · rw [if_neg c, if_neg (fun q => c (h.mpr q)), h2]
theorem zG_a {f : Nat → Int32} {s a b p q r : Nat} (h : 3 + 4 * s ≤ a) : upd (zG f s a b p q r) a (f (a + 4)) = zG f s (a + 1) b p q r := by
  funext j
  by_cases c : j = a
  · subst c
    rw [pk_us]
    unfold zG
    rw [if_pos (by omega)]
  · rw [pk_un c]
    unfold zG
    exact ifc (by omega) rfl rfl
theorem zG_b {f : Nat → Int32} {s a b p q r : Nat} (h : 51 + 4 * s ≤ b) (ha : a ≤ 51) : upd (zG f s a b p q r) b (f (b + 4)) = zG f s a (b + 1) p q r := by
  funext j
  by_cases c : j = b
  · subst c
    rw [pk_us]
    unfold zG
    rw [if_neg (by omega), if_pos (by omega)]
  · rw [pk_un c]
    unfold zG
    exact ifc Iff.rfl rfl (ifc (by omega) rfl rfl)
theorem zG_p {f : Nat → Int32} {s a b p q r : Nat} (h : 99 + s ≤ p) (ha : a ≤ 51) (hb : b ≤ 99) : upd (zG f s a b p q r) p (f (p + 1)) = zG f s a b (p + 1) q r := by
  funext j
  by_cases c : j = p
  · subst c
    rw [pk_us]
    unfold zG
    rw [if_neg (by omega), if_neg (by omega), if_pos (by omega)]
  · rw [pk_un c]
    unfold zG
    exact ifc Iff.rfl rfl (ifc Iff.rfl rfl (ifc (by omega) rfl rfl))
theorem zG_q {f : Nat → Int32} {s a b p q r : Nat} (h : 111 + s ≤ q) (ha : a ≤ 51) (hb : b ≤ 99) (hp : p ≤ 111) : upd (zG f s a b p q r) q (f (q + 1)) = zG f s a b p (q + 1) r := by
  funext j
  by_cases c : j = q
  · subst c
    rw [pk_us]
    unfold zG
    rw [if_neg (by omega), if_neg (by omega), if_neg (by omega), if_pos (by omega)]
  · rw [pk_un c]
    unfold zG
    exact ifc Iff.rfl rfl (ifc Iff.rfl rfl (ifc Iff.rfl rfl (ifc (by omega) rfl rfl)))
theorem zG_r {f : Nat → Int32} {s a b p q r : Nat} (h : 123 + s ≤ r) (ha : a ≤ 51) (hb : b ≤ 99) (hp : p ≤ 111) (hq : q ≤ 123) : upd (zG f s a b p q r) r (f (r + 1)) = zG f s a b p q (r + 1) := by
  funext j
  by_cases c : j = r
  · subst c
    rw [pk_us]
    unfold zG
    rw [if_neg (by omega), if_neg (by omega), if_neg (by omega), if_neg (by omega), if_pos (by omega)]
  · rw [pk_un c]
    unfold zG
    exact ifc Iff.rfl rfl (ifc Iff.rfl rfl (ifc Iff.rfl rfl (ifc Iff.rfl rfl (ifc (by omega) rfl rfl))))
theorem zG_f {f : Nat → Int32} {s a b p q r j : Nat} (h1 : ¬ (3 + 4 * s ≤ j ∧ j < a)) (h2 : ¬ (51 + 4 * s ≤ j ∧ j < b)) (h3 : ¬ (99 + s ≤ j ∧ j < p)) (h4 : ¬ (111 + s ≤ j ∧ j < q)) (h5 : ¬ (123 + s ≤ j ∧ j < r)) : zG f s a b p q r j = f j := by
  unfold zG
  rw [if_neg h1, if_neg h2, if_neg h3, if_neg h4, if_neg h5]
def zS (f : Nat → Int32) (s x : Nat) : Nat → Int32 := zG f s (3 + 4 * x) (51 + 4 * x) (99 + x) (111 + x) (123 + x)
theorem zS_0 {f : Nat → Int32} {s : Nat} : zS f s s = f := by
  funext j
  exact zG_f (by omega) (by omega) (by omega) (by omega) (by omega)
theorem ix344 (x e : Nat) : (((3 : Int32) + (4 * nI x)) + 4) + nI e = nI (3 + 4 * x + e + 4) := by
  rw [show (4 : Int32) = nI 4 from rfl, pk_mul, show (3 : Int32) = nI 3 from rfl, nIa, nIa, nIa]
  exact congrArg nI (by omega)
theorem ix5144 (x e : Nat) : (((51 : Int32) + (4 * nI x)) + 4) + nI e = nI (51 + 4 * x + e + 4) := by
  rw [show (4 : Int32) = nI 4 from rfl, pk_mul, show (51 : Int32) = nI 51 from rfl, nIa, nIa, nIa]
  exact congrArg nI (by omega)
theorem rm108 {K : gM → Int32 → Option (Int32 × gM)} {a1 : Int32} {f : Nat → Int32} {s x : Nat} {τ : gM} (hs : s ≤ x) (hx : x < 11) (e5 : τ 125 = zG f s (3 + 4 * x + 4) (51 + 4 * x + 4) (99 + x) (111 + x) (123 + x)) : fX9_removeScrap_108 K 124 a1 gF τ (nI x) 99 = K (gset τ 125 (zS f s (x + 1))) (nI (x + 1)) := by
  obtain ⟨g, hg⟩ := gF4
  have st : ∀ (m y : Nat) (σ : gM) (z : Nat → Int32), σ 125 = z → y ≤ 123 → fX9_removeScrap_108 K 124 a1 (m + 1) σ (nI x) (nI y) = fX9_removeScrap_108 K 124 a1 m (gset σ 125 (upd z (y + x) (z (y + x + 1)))) (nI x) (nI (y + 12)) := by
    intro m y σ z ez hy
    rw [fX9_removeScrap_108, if_neg (show ¬ (123 : Int32) < nI y from nI_nlt hy (by decide)), nIa, nIa1, if_pos (c125 (by omega)), if_pos (c125 (by omega)), gl_e, nI_cl (n := y + x) (by omega), nI_cl (n := y + x + 1) (by omega), gl_e, show nI y + 12 = nI (y + 12) from nIa y 12, show σ (124 + 1) = z from ez]
  rw [hg, show (99 : Int32) = nI 99 from rfl, st (g + 3) 99 τ _ e5 (by decide), zG_f (by omega) (by omega) (by omega) (by omega) (by omega), zG_p (by omega) (by omega) (by omega), st (g + 2) (99 + 12) _ _ gset_at (by decide), zG_f (by omega) (by omega) (by omega) (by omega) (by omega), show 99 + 12 + x = 111 + x by omega, zG_q (by omega) (by omega) (by omega) (by omega), gset2, st (g + 1) (99 + 12 + 12) _ _ gset_at (by decide), zG_f (by omega) (by omega) (by omega) (by omega) (by omega), show 99 + 12 + 12 + x = 123 + x by omega, zG_r (by omega) (by omega) (by omega) (by omega) (by omega), gset2, fX9_removeScrap_108, if_pos (show (123 : Int32) < nI (99 + 12 + 12 + 12) by decide), gl_e, nIa1]
  unfold zS
  rw [show 3 + 4 * (x + 1) = 3 + 4 * x + 4 by omega, show 51 + 4 * (x + 1) = 51 + 4 * x + 4 by omega, show 99 + (x + 1) = 99 + x + 1 by omega, show 111 + (x + 1) = 111 + x + 1 by omega, show 123 + (x + 1) = 123 + x + 1 by omega]
theorem rm40 {K : gM → Int32 → Option (Int32 × gM)} {a1 : Int32} {f : Nat → Int32} {s x : Nat} (hs : s ≤ x) (hx : x < 11) : ∀ (d i m : Nat) (τ : gM), i + d = 4 → d < m → τ 125 = zG f s (3 + 4 * x + i) (51 + 4 * x + i) (99 + x) (111 + x) (123 + x) → fX9_removeScrap_40 K 124 a1 m τ (nI x) (nI i) = K (gset τ 125 (zS f s (x + 1))) (nI (x + 1)) := by
  intro d
  induction d with
  | zero =>
    intro i m τ hi hm e5
    obtain ⟨m, rfl⟩ : ∃ q, m = q + 1 := ⟨m - 1, by omega⟩
    obtain rfl : i = 4 := by omega
    rw [fX9_removeScrap_40, if_pos i4e]
    exact rm108 hs hx e5
  | succ d ih =>
    intro i m τ hi hm e5
    obtain ⟨m, rfl⟩ : ∃ q, m = q + 1 := ⟨m - 1, by omega⟩
    rw [fX9_removeScrap_40, if_neg (i4 (by omega)), ix344, ix34, ix5144, ix514, if_pos (c125 (by omega)), if_pos (c125 (by omega)), gl_e, if_pos (c125 (by omega)), if_pos (c125 (by omega)), gl_e, gl_e, nIa1, nI_cl (n := 3 + 4 * x + i) (by omega), nI_cl (n := 3 + 4 * x + i + 4) (by omega), nI_cl (n := 51 + 4 * x + i) (by omega), nI_cl (n := 51 + 4 * x + i + 4) (by omega), show (124 + 1 : Nat) = 125 from rfl, e5, gset_at, zG_f (by omega) (by omega) (by omega) (by omega) (by omega), zG_a (by omega), zG_f (by omega) (by omega) (by omega) (by omega) (by omega), zG_b (by omega) (by omega), gset2]
    have := ih (i + 1) m (gset τ 125 (zG f s (3 + 4 * x + i + 1) (51 + 4 * x + i + 1) (99 + x) (111 + x) (123 + x))) (by omega) (by omega) (by rw [gset_at]; rfl)
    rw [gset2] at this
    exact this
theorem rm28 {a1 : Int32} {f : Nat → Int32} {s n : Nat} (n12 : n ≤ 12) (z : f 2 = nI (n - 1)) : ∀ (d x m : Nat) (τ : gM), x + d = n - 1 → s ≤ x → d < m → τ 125 = zS f s x → fX9_removeScrap_28 124 a1 m τ (nI x) = some (nI (n - 1), gset τ 125 (zS f s (n - 1))) := by
  intro d
  induction d with
  | zero =>
    intro x m τ hi hx hm e5
    obtain ⟨m, rfl⟩ : ∃ q, m = q + 1 := ⟨m - 1, by omega⟩
    obtain rfl : x = n - 1 := by omega
    have e2 : τ 125 2 = nI (n - 1) := by
      rw [e5]
      exact (zG_f (by omega) (by omega) (by omega) (by omega) (by omega)).trans z
    have e7 : gset τ 125 (zS f s (n - 1)) = τ := by
      funext c
      by_cases h : c = 125
      · rw [h, gset_at, e5]
      · rw [gset_ne h]
    rw [fX9_removeScrap_28, if_pos k12, show τ (124 + 1) (2 : Int32).toNatClampNeg = nI (n - 1) from e2, if_pos (Int32.le_refl _), if_pos k12, e7]
  | succ d ih =>
    intro x m τ hi hx hm e5
    obtain ⟨m, rfl⟩ : ∃ q, m = q + 1 := ⟨m - 1, by omega⟩
    have e2 : τ 125 2 = nI (n - 1) := by
      rw [e5]
      exact (zG_f (by omega) (by omega) (by omega) (by omega) (by omega)).trans z
    rw [fX9_removeScrap_28, if_pos k12, show τ (124 + 1) (2 : Int32).toNatClampNeg = nI (n - 1) from e2, if_neg (nI_ge (by omega) (by omega)), show fX9_removeScrap_40 (fun σ2 y2 => fX9_removeScrap_28 124 a1 m σ2 y2) 124 a1 gF τ (nI x) 0 = _ from rm40 hx (by omega) 4 0 gF τ rfl (gF_lt (by decide)) e5]
    have := ih (x + 1) m (gset τ 125 (zS f s (x + 1))) (by omega) (by omega) (by omega) gset_at
    rw [gset2] at this
    exact this
