/-! NUMBERS AND SNAPSHOTS: the 135 ints of the reference's own desk, and what is read of them -/
theorem nIa (a b : Nat) : nI a + nI b = nI (a + b) := (Int32.ofNat_add a b).symm
theorem nIa1 (a : Nat) : nI a + 1 = nI (a + 1) := (nI_succ a).symm
theorem nIs1 {a : Nat} (h : 1 ≤ a) : nI a - 1 = nI (a - 1) := pk_sub (b := 1) h
theorem nI_cl {n : Nat} (h : n < 2 ^ 31) : (nI n).toNatClampNeg = n := pk_cl n rfl h
theorem m1_ne {n : Nat} (h : n < 2 ^ 31) : ¬ nI n = -1 := by
  intro e
  have : (nI n).toInt = (-1 : Int32).toInt := by rw [e]
  rw [nI_toInt h] at this
  have : ((n : Nat) : Int) = -1 := this
  omega
theorem m1_ne' {n : Nat} (h : n < 2 ^ 31) : ¬ (-1 : Int32) = nI n := fun e => m1_ne h e.symm
theorem m1_lt : (-1 : Int32) < 0 := by decide
theorem gln_lt (k : Nat) : gln k < 1000 := by
  by_cases h : k < 134
  · revert k
    decide +kernel
  · unfold gln
    rw [List.getD_eq_getElem?_getD, List.getElem?_eq_none (by show 134 ≤ k; omega)]
    decide
/-- an answer that may be none -/
def oI : Option Nat → Int32
  | none => -1
  | some k => nI k
theorem oI_n : oI none = -1 := rfl
theorem oI_s (k : Nat) : oI (some k) = nI k := rfl
theorem oI_m1 {p : Option Nat} (h : ∀ k, p = some k → k < 2 ^ 31) : oI p = -1 ↔ p = none := by
  cases p with
  | none => exact ⟨fun _ => rfl, fun _ => rfl⟩
  | some k => exact ⟨fun e => absurd e (m1_ne (h k rfl)), fun e => by cases e⟩
/-! rows -/
theorem get_in {σ : gM} {t k : Nat} (h : k < gln (t + 1)) : fX5_get σ t (nI k) = some (σ (t + 1) k) := by
  have hb := gln_lt (t + 1)
  unfold fX5_get
  rw [if_neg (nI_pos (by omega)), if_neg (nI_ge h (by omega)), if_pos (nI_in h (by omega)), nI_cl (by omega)]
theorem get_m1 {σ : gM} {t : Nat} : fX5_get σ t (-1) = some (-1) := if_pos m1_lt
theorem get_out {σ : gM} {t k : Nat} (h : gln (t + 1) ≤ k) (hk : k < 2 ^ 31) : fX5_get σ t (nI k) = some (-1) := by
  unfold fX5_get
  rw [if_neg (nI_pos hk), if_pos (nI_le h hk)]
theorem set_in {σ : gM} {t k : Nat} {v : Int32} (h : k < gln (t + 1)) : fX5_set σ t (nI k) v = some (gset σ (t + 1) (upd (σ (t + 1)) k v)) := by
  have hb := gln_lt (t + 1)
  unfold fX5_set
  rw [if_neg (nI_pos (by omega)), if_neg (nI_ge h (by omega)), if_pos (nI_in h (by omega)), nI_cl (by omega)]
  rfl
theorem set_m1 {σ : gM} {t : Nat} {v : Int32} : fX5_set σ t (-1) v = some σ := if_pos m1_lt
/-! what is read of a snapshot -/
/-- the place behind an edge -/
def bh (w h k e : Nat) : Option Nat := if e = 0 then (if k < w then none else some (k - w)) else if e = 1 then (if k % w + 1 < w then some (k + 1) else none) else if e = 2 then (if k + w < w * h then some (k + w) else none) else (if k % w = 0 then none else some (k - 1))
/-- the first scrap from i on that lies at a place -/
def scF (f : Nat → Int32) (k : Nat) : Nat → Nat → Option Nat
  | 0, _ => none
  | d + 1, i => if f (123 + i) = nI k then some i else scF f k d (i + 1)
theorem bh_0 {w h k : Nat} : bh w h k 0 = if k < w then none else some (k - w) := rfl
theorem bh_1 {w h k : Nat} : bh w h k 1 = if k % w + 1 < w then some (k + 1) else none := rfl
theorem bh_2 {w h k : Nat} : bh w h k 2 = if k + w < w * h then some (k + w) else none := rfl
theorem bh_3 {w h k : Nat} : bh w h k 3 = if k % w = 0 then none else some (k - 1) := rfl
def sc (f : Nat → Int32) (n k : Nat) : Option Nat := scF f k n 0
def un (o e : Nat) : Nat := (e + 8 - o) % 4
def og (o e : Nat) : Nat := if o < 4 then un o e else (4 - un o e) % 4
def rv (o e : Nat) : Bool := ((decide (un o e < 2)) != (decide (e < 2))) != (decide (4 ≤ o) && (un o e == 0 || un o e == 2))
def rev (x : Int32) : Int32 := if x = -1 then -1 else (((x - x / 10 * 10) * 100) + (((x / 10) - (x / 10) / 10 * 10) * 10)) + (x / 100)
def tP (f : Nat → Int32) (s o e : Nat) : Int32 := if rv o e then rev (f (3 + 4 * s + og o e)) else f (3 + 4 * s + og o e)
def tL (f : Nat → Int32) (s o e : Nat) : Int32 := if f (99 + s) = 0 ∧ 4 ≤ o then 0 else f (51 + 4 * s + og o e)
def OKf (f : Nat → Int32) (w h n : Nat) : Prop :=
  (f 0 = nI w ∧ f 1 = nI h ∧ f 2 = nI n) ∧ (1 ≤ w ∧ w ≤ 6 ∧ 1 ≤ h ∧ h ≤ 6 ∧ n ≤ 12) ∧
  (∀ s, s < n → f (99 + s) = 0 ∨ f (99 + s) = 1) ∧
  (∀ s e, s < n → e < 4 → f (3 + 4 * s + e) = -1 ∨ ∃ v, v ≤ 999 ∧ f (3 + 4 * s + e) = nI v) ∧
  (∀ s, s < n → ∃ p : Option Nat, f (123 + s) = oI p ∧ ∀ k, p = some k → k < w * h) ∧
  (∀ s, s < n → ∃ o, o < 8 ∧ f (111 + s) = nI o) ∧
  (∀ s, s < n → f (123 + s) = -1 → f (111 + s) = 0) ∧
  (∀ s t k, s < n → t < n → k < 36 → f (123 + s) = nI k → f (123 + t) = nI k → s = t)
theorem wh_le {w h : Nat} (hw : w ≤ 6) (hh : h ≤ 6) : w * h ≤ 36 := Nat.mul_le_mul hw hh
theorem bh_lt {w h k e q : Nat} (hw : 1 ≤ w) (hk : k < w * h) (hb : bh w h k e = some q) : q < w * h := by
  unfold bh at hb
  split at hb
  · split at hb
    · cases hb
    · cases hb
      omega
  · split at hb
    · split at hb
      · rename_i h1
        cases hb
        have h2 := Nat.div_add_mod k w
        have h3 : k / w < h := Nat.div_lt_of_lt_mul hk
        have h4 : w * (k / w) + w * 1 ≤ w * h := by rw [← Nat.mul_add]; exact Nat.mul_le_mul_left w h3
        omega
      · cases hb
    · split at hb
      · split at hb
        · cases hb
          assumption
        · cases hb
      · split at hb
        · cases hb
        · cases hb
          omega
theorem scF_lt {f : Nat → Int32} {k : Nat} : ∀ (d i q : Nat), scF f k d i = some q → i ≤ q ∧ q < i + d ∧ f (123 + q) = nI k := by
  intro d
  induction d with
  | zero => intro i q h; cases h
  | succ d ih =>
    intro i q h
    unfold scF at h
    split at h
    · cases h
      exact ⟨Nat.le_refl _, by omega, by assumption⟩
    · have := ih (i + 1) q h
      exact ⟨by omega, by omega, this.2.2⟩
theorem scF_none {f : Nat → Int32} {k : Nat} : ∀ (d i : Nat), scF f k d i = none → ∀ q, i ≤ q → q < i + d → ¬ f (123 + q) = nI k := by
  intro d
  induction d with
  | zero => intro i h q h1 h2; omega
  | succ d ih =>
    intro i h q h1 h2
    unfold scF at h
    split at h
    · cases h
    · by_cases hq : q = i
      · rw [hq]; assumption
      · exact ih (i + 1) h q (by omega) (by omega)
theorem sc_lt {f : Nat → Int32} {n k q : Nat} (h : sc f n k = some q) : q < n ∧ f (123 + q) = nI k := by
  have := scF_lt n 0 q h
  exact ⟨by omega, this.2.2⟩
theorem sc_none {f : Nat → Int32} {n k q : Nat} (h : sc f n k = none) (hq : q < n) : ¬ f (123 + q) = nI k := scF_none n 0 h q (Nat.zero_le _) (by omega)
theorem sc_at {f : Nat → Int32} {w h n k q : Nat} (O : OKf f w h n) (hk : k < 36) (hq : q < n) (e : f (123 + q) = nI k) : sc f n k = some q := by
  cases hs : sc f n k with
  | none => exact absurd e (sc_none hs hq)
  | some z =>
    have h1 := sc_lt hs
    rw [O.2.2.2.2.2.2.2 z q k h1.1 hq hk h1.2 e]
/-! the place behind an edge, on both sides -/
theorem beh8 {σ : gM} {t w h k e : Nat} (h3 : σ t 3 = nI w) (h4 : σ t 4 = nI h) (w1 : 1 ≤ w) (w6 : w ≤ 6) (h6 : h ≤ 6) (hk : k < 36) (he : e < 4) : fX4_behind σ t (nI k) (nI e) = some (oI (bh w h k e)) := by
  have hwh : w * h ≤ 36 := wh_le w6 h6
  have hm : k % w < w := Nat.mod_lt _ w1
  unfold fX4_behind fX4_places
  rw [h3, h4, if_neg (nI_nle w1 (by omega)), if_pos (nI_ne0 w1 (by omega)), pk_rem (by omega) w1 (by omega), pk_mul]
  unfold gl
  simp only [Option.bind_some, nIa, nIa1]
  rcases (show e = 0 ∨ e = 1 ∨ e = 2 ∨ e = 3 by omega) with rfl | rfl | rfl | rfl
  · rw [if_pos (show nI 0 = 0 from rfl), bh_0]
    by_cases c : k < w
    · rw [if_pos (nI_lt c (by omega)), if_pos c]; rfl
    · rw [if_neg (nI_nlt (by omega) (by omega)), if_neg c, pk_sub (by omega)]; rfl
  · rw [if_neg (show ¬ nI 1 = 0 by decide), if_pos (show nI 1 = 1 from rfl), bh_1]
    by_cases c : k % w + 1 < w
    · rw [if_neg (nI_ge c (by omega)), if_pos c]; rfl
    · rw [if_pos (nI_le (by omega) (by omega)), if_neg c]; rfl
  · rw [if_neg (show ¬ nI 2 = 0 by decide), if_neg (show ¬ nI 2 = 1 by decide), if_pos (show nI 2 = 2 from rfl), bh_2]
    by_cases c : k + w < w * h
    · rw [if_neg (nI_ge c (by omega)), if_pos c]; rfl
    · rw [if_pos (nI_le (by omega) (by omega)), if_neg c]; rfl
  · rw [if_neg (show ¬ nI 3 = 0 by decide), if_neg (show ¬ nI 3 = 1 by decide), if_neg (show ¬ nI 3 = 2 by decide), bh_3]
    by_cases c : k % w = 0
    · rw [if_pos (by rw [c]; decide), if_pos c]; rfl
    · rw [if_neg (nI_nle (by omega) (by omega)), if_neg c, nIs1 (by rcases Nat.eq_zero_or_pos k with h0 | h0; exact absurd (by rw [h0]; exact Nat.zero_mod w) c; exact h0)]; rfl
