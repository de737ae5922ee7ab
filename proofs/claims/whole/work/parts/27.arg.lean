/-! ARGUMENTS, ON BOTH SIDES -/
def inI (a lo hi : Int32) : Int32 := if a < lo then 0 else if hi < a then 0 else 1
theorem in9e {τ : gM} {a lo hi : Int32} : fX9_in τ a lo hi = some (inI a lo hi) := by
  unfold fX9_in inI
  split
  · rfl
  · split <;> rfl
theorem in8e {τ : gM} {a lo hi : Int32} : fX8_isWithin τ a lo hi = some (inI a lo hi) := by
  unfold fX8_isWithin inI
  split
  · rfl
  · split <;> rfl
theorem inI_01 (a lo hi : Int32) : inI a lo hi = 0 ∨ inI a lo hi = 1 := by
  unfold inI
  split
  · exact Or.inl rfl
  · split
    · exact Or.inl rfl
    · exact Or.inr rfl
theorem inN (x : Int32) {n : Nat} (hn : n < 1000) : inI x 0 (nI n - 1) = 0 ∨ ∃ s, s < n ∧ x = nI s ∧ inI x 0 (nI n - 1) = 1 := by
  rcases pk_ix x (n := n) (by omega) with h | h | ⟨j, h, rfl⟩
  · exact Or.inl (if_pos h)
  · refine Or.inl ?_
    unfold inI
    by_cases c : x < 0
    · rw [if_pos c]
    · have e : (nI n - 1).toInt = (n : Int) - 1 := pk_sub_toInt (a := n) (b := 1) (by omega) (by decide)
      have e2 := Int32.le_iff_toInt_le.mp h
      rw [nI_toInt (by omega)] at e2
      rw [if_neg c, if_pos (Int32.lt_iff_toInt_lt.mpr (by omega))]
  · refine Or.inr ⟨j, h, rfl, ?_⟩
    have e : (nI n - 1).toInt = (n : Int) - 1 := pk_sub_toInt (a := n) (b := 1) (by omega) (by decide)
    unfold inI
    rw [if_neg (nI_pos (by omega)), if_neg (fun q => by have := Int32.lt_iff_toInt_lt.mp q; rw [nI_toInt (by omega)] at this; omega)]
theorem up_le {g : Nat → Nat → Nat} (hg : ∀ i a, g i a ≤ a + 1) : ∀ d i a, up g d i a ≤ a + d := by
  intro d
  induction d with
  | zero => intro i a; exact Nat.le_refl _
  | succ d ih =>
    intro i a
    rw [up_s]
    have := ih (i + 1) (g i a)
    have := hg i a
    omega
theorem gFlt_le (f : Nat → Int32) (w h n s k o : Nat) : ∀ i a, gFlt f w h n s k o i a ≤ a + 1 := by
  intro i a
  unfold gFlt
  repeat' split
  all_goals omega
theorem nFlt_le (f : Nat → Int32) (w h n s k o : Nat) : nFlt f w h n s k o ≤ 4 := by
  have := up_le (gFlt_le f w h n s k o) 4 0 0
  unfold nFlt
  omega
theorem nI_z {n : Nat} (h : n < 2 ^ 31) : nI n = 0 ↔ n = 0 := nI_eq (b := 0) h (by decide)
theorem cli9 {τ : gM} {w h n s k o : Nat} (O : OKf (τ 125) w h n) (hs : s < n) (hk : k < w * h) (ho : o < 8) : ∃ τ', fX9_canLie τ 124 (nI s) (nI k) (nI o) = some (if nFlt (τ 125) w h n s k o = 0 then 1 else 0, τ') ∧ Off2 τ τ' := by
  obtain ⟨τ', p, F⟩ := flt9 O hs hk ho
  refine ⟨τ', ?_, F⟩
  have := nFlt_le (τ 125) w h n s k o
  unfold fX9_canLie
  rw [p, bp]
  by_cases c : nFlt (τ 125) w h n s k o = 0
  · rw [if_pos ((nI_z (by omega)).mpr c), if_pos c]
  · rw [if_neg (fun q => c ((nI_z (by omega)).mp q)), if_neg c]
theorem on9 {τ : gM} {w h n s : Nat} (O : OKf (τ 125) w h n) (hs : s < n) : fX9_isOn τ 124 (nI s) = some (if τ 125 (123 + s) = -1 then 0 else 1) := by
  have hn : n ≤ 12 := O.2.1.2.2.2.2
  unfold fX9_isOn
  rw [ix123, if_pos (c125 (by omega)), nI_cl (by omega)]
  split <;> rfl
theorem isc9 {τ : gM} {w h n : Nat} {x : Int32} (O : OKf (τ 125) w h n) : fX9_isScrap τ 124 x = some (inI x 0 (nI n - 1)) := by
  unfold fX9_isScrap
  rw [if_pos k12, in9e, Option.bind_some, show τ (124 + 1) (2 : Int32).toNatClampNeg = nI n by rw [cl_2]; exact O.1.2.2, if_pos (inI_01 _ _ _)]
theorem pls9 {τ : gM} {w h n : Nat} (O : OKf (τ 125) w h n) : fX9_places τ 124 = some (nI (w * h)) := by
  unfold fX9_places
  rw [if_pos k10, if_pos k11, cl_0, cl_1, show τ (124 + 1) 0 = nI w from O.1.1, show τ (124 + 1) 1 = nI h from O.1.2.1, pk_mul]
theorem ipl9 {τ : gM} {w h n : Nat} {x : Int32} (O : OKf (τ 125) w h n) : fX9_isPlace τ 124 x = some (inI x 0 (nI (w * h) - 1)) := by
  unfold fX9_isPlace
  rw [pls9 O, Option.bind_some, in9e, Option.bind_some, if_pos (inI_01 _ _ _)]
variable {σ : gM} {w h n : Nat} {f : Nat → Int32}
theorem isc8 {x : Int32} (D : DDo σ 1 f w h n) : fX8_isScrap σ 0 x = some (inI x 0 (nI n - 1)) := by
  unfold fX8_isScrap
  rw [show fX6_size σ (0 + 1 + 1) = some (nI n) from siz8 D, Option.bind_some, in8e, Option.bind_some, if_pos (inI_01 _ _ _)]
theorem pls8 {d : Nat} (D : DDo σ d f w h n) : fX4_places σ (d + 8) = some (nI (w * h)) := by
  unfold fX4_places
  rw [D.2.2.1.2.1, D.2.2.1.2.2, pk_mul]
theorem ipl8 {x : Int32} (D : DDo σ 1 f w h n) : fX8_isPlace σ 0 x = some (inI x 0 (nI (w * h) - 1)) := by
  unfold fX8_isPlace
  rw [show fX4_places σ (0 + 1 + 8) = some (nI (w * h)) from pls8 D, Option.bind_some, in8e, Option.bind_some, if_pos (inI_01 _ _ _)]
theorem ior8 {x : Int32} : fX8_isOrientation σ x = some (inI x 0 7) := by
  unfold fX8_isOrientation
  rw [in8e, Option.bind_some, if_pos (inI_01 _ _ _)]
theorem ied8 {x : Int32} : fX8_isEdge σ x = some (inI x 0 3) := by
  unfold fX8_isEdge
  rw [in8e, Option.bind_some, if_pos (inI_01 _ _ _)]
theorem inO (x : Int32) : inI x 0 7 = 0 ∨ ∃ s, s < 8 ∧ x = nI s ∧ inI x 0 7 = 1 := inN x (n := 8) (by decide)
theorem inE (x : Int32) : inI x 0 3 = 0 ∨ ∃ s, s < 4 ∧ x = nI s ∧ inI x 0 3 = 1 := inN x (n := 4) (by decide)
theorem in1 (x : Int32) : inI x 0 1 = 0 ∨ ∃ s, s < 2 ∧ x = nI s ∧ inI x 0 1 = 1 := inN x (n := 2) (by decide)
