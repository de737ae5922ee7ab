section
/-! NUMBERS AND SNAPSHOTS: the 135 ints of the reference's own desk, and what is read of them -/
theorem nIa (a b : Nat) : nI a + nI b = nI (a + b) := (Int32.ofNat_add a b).symm
theorem nIa1 (a : Nat) : nI a + 1 = nI (a + 1) := (nI_succ a).symm
theorem nIs1 {a : Nat} (h : 1 ≤ a) : nI a - 1 = nI (a - 1) := pk_sub (b := 1) h
theorem nI_cl {n : Nat} (h : n < 2 ^ 31) : (nI n).toNatClampNeg = n := pk_cl n rfl h
theorem m1_ne {n : Nat} (h : n < 2 ^ 31) : ¬ nI n = -1 := by
  intro e
  have : (nI n).toInt = (-1 : Int32).toInt := by rw [e]
  rw [nI_toInt h] at this
  have : ((n : Nat) : Int) = -1 := this
  omega
theorem m1_ne' {n : Nat} (h : n < 2 ^ 31) : ¬ (-1 : Int32) = nI n := fun e => m1_ne h e.symm
theorem m1_lt : (-1 : Int32) < 0 := by decide
theorem gln_lt (k : Nat) : gln k < 1000 := by
  by_cases h : k < 124
  · revert k
    decide +kernel
  · unfold gln
    rw [List.getD_eq_getElem?_getD, List.getElem?_eq_none (by show 124 ≤ k; omega)]
    decide
/-- an answer that may be none -/
def oI : Option Nat → Int32
  | none => -1
  | some k => nI k
theorem oI_n : oI none = -1 := rfl
theorem oI_s (k : Nat) : oI (some k) = nI k := rfl
theorem oI_m1 {p : Option Nat} (h : ∀ k, p = some k → k < 2 ^ 31) : oI p = -1 ↔ p = none := by
  cases p with
  | none => exact ⟨fun _ => rfl, fun _ => rfl⟩
  | some k => exact ⟨fun e => absurd e (m1_ne (h k rfl)), fun e => by cases e⟩
/-! rows -/
theorem get_in {σ : gM} {t k : Nat} (h : k < gln (t + 1)) : fX5_get σ t (nI k) = some (σ (t + 1) k) := by
  have hb := gln_lt (t + 1)
  unfold fX5_get
  rw [if_neg (nI_pos (by omega)), if_neg (nI_ge h (by omega)), if_pos (nI_in h (by omega)), nI_cl (by omega)]
theorem get_m1 {σ : gM} {t : Nat} : fX5_get σ t (-1) = some (-1) := if_pos m1_lt
theorem get_out {σ : gM} {t k : Nat} (h : gln (t + 1) ≤ k) (hk : k < 2 ^ 31) : fX5_get σ t (nI k) = some (-1) := by
  unfold fX5_get
  rw [if_neg (nI_pos hk), if_pos (nI_le h hk)]
theorem set_in {σ : gM} {t k : Nat} {v : Int32} (h : k < gln (t + 1)) : fX5_set σ t (nI k) v = some (gset σ (t + 1) (upd (σ (t + 1)) k v)) := by
  have hb := gln_lt (t + 1)
  unfold fX5_set
  rw [if_neg (nI_pos (by omega)), if_neg (nI_ge h (by omega)), if_pos (nI_in h (by omega)), nI_cl (by omega)]
  rfl
theorem set_m1 {σ : gM} {t : Nat} {v : Int32} : fX5_set σ t (-1) v = some σ := if_pos m1_lt
/-! what is read of a snapshot -/
/-- the place behind an edge -/
def bh (w h k e : Nat) : Option Nat := if e = 0 then (if k < w then none else some (k - w)) else if e = 1 then (if k % w + 1 < w then some (k + 1) else none) else if e = 2 then (if k + w < w * h then some (k + w) else none) else (if k % w = 0 then none else some (k - 1))
/-- the first scrap from i on that lies at a place -/
def scF (f : Nat → Int32) (k : Nat) : Nat → Nat → Option Nat
  | 0, _ => none
  | d + 1, i => if f (123 + i) = nI k then some i else scF f k d (i + 1)
theorem bh_0 {w h k : Nat} : bh w h k 0 = if k < w then none else some (k - w) := rfl
theorem bh_1 {w h k : Nat} : bh w h k 1 = if k % w + 1 < w then some (k + 1) else none := rfl
theorem bh_2 {w h k : Nat} : bh w h k 2 = if k + w < w * h then some (k + w) else none := rfl
theorem bh_3 {w h k : Nat} : bh w h k 3 = if k % w = 0 then none else some (k - 1) := rfl
def sc (f : Nat → Int32) (n k : Nat) : Option Nat := scF f k n 0
def un (o e : Nat) : Nat := (e + 8 - o) % 4
def og (o e : Nat) : Nat := if o < 4 then un o e else (4 - un o e) % 4
def rv (o e : Nat) : Bool := ((decide (un o e < 2)) != (decide (e < 2))) != (decide (4 ≤ o) && (un o e == 0 || un o e == 2))
def rev (x : Int32) : Int32 := if x = -1 then -1 else (((x - x / 10 * 10) * 100) + (((x / 10) - (x / 10) / 10 * 10) * 10)) + (x / 100)
def tP (f : Nat → Int32) (s o e : Nat) : Int32 := if rv o e then rev (f (3 + 4 * s + og o e)) else f (3 + 4 * s + og o e)
def tL (f : Nat → Int32) (s o e : Nat) : Int32 := if f (99 + s) = 0 ∧ 4 ≤ o then 0 else f (51 + 4 * s + og o e)
def OKf (f : Nat → Int32) (w h n : Nat) : Prop :=
  (f 0 = nI w ∧ f 1 = nI h ∧ f 2 = nI n) ∧ (1 ≤ w ∧ w ≤ 6 ∧ 1 ≤ h ∧ h ≤ 6 ∧ n ≤ 12) ∧
  (∀ s, s < n → f (99 + s) = 0 ∨ f (99 + s) = 1) ∧
  (∀ s e, s < n → e < 4 → f (3 + 4 * s + e) = -1 ∨ ∃ v, v ≤ 999 ∧ f (3 + 4 * s + e) = nI v) ∧
  (∀ s, s < n → ∃ p : Option Nat, f (123 + s) = oI p ∧ ∀ k, p = some k → k < w * h) ∧
  (∀ s, s < n → ∃ o, o < 8 ∧ f (111 + s) = nI o) ∧
  (∀ s, s < n → f (123 + s) = -1 → f (111 + s) = 0) ∧
  (∀ s t k, s < n → t < n → k < 36 → f (123 + s) = nI k → f (123 + t) = nI k → s = t)
theorem wh_le {w h : Nat} (hw : w ≤ 6) (hh : h ≤ 6) : w * h ≤ 36 := Nat.mul_le_mul hw hh
theorem bh_lt {w h k e q : Nat} (hw : 1 ≤ w) (hk : k < w * h) (hb : bh w h k e = some q) : q < w * h := by
  unfold bh at hb
  split at hb
  · split at hb
    · cases hb
    · cases hb
      omega
  · split at hb
    · split at hb
      · rename_i h1
        cases hb
        have h2 := Nat.div_add_mod k w
        have h3 : k / w < h := Nat.div_lt_of_lt_mul hk
        have h4 : w * (k / w) + w * 1 ≤ w * h := by rw [← Nat.mul_add]; exact Nat.mul_le_mul_left w h3
        omega
      · cases hb
    · split at hb
      · split at hb
        · cases hb
          assumption
        · cases hb
      · split at hb
        · cases hb
        · cases hb
          omega
theorem scF_lt {f : Nat → Int32} {k : Nat} : ∀ (d i q : Nat), scF f k d i = some q → i ≤ q ∧ q < i + d ∧ f (123 + q) = nI k := by
  intro d
  induction d with
  | zero => intro i q h; cases h
  | succ d ih =>
    intro i q h
    unfold scF at h
    split at h
    · cases h
      exact ⟨Nat.le_refl _, by omega, by assumption⟩
    · have := ih (i + 1) q h
      exact ⟨by omega, by omega, this.2.2⟩
theorem scF_none {f : Nat → Int32} {k : Nat} : ∀ (d i : Nat), scF f k d i = none → ∀ q, i ≤ q → q < i + d → ¬ f (123 + q) = nI k := by
  intro d
  induction d with
  | zero => intro i h q h1 h2; omega
  | succ d ih =>
    intro i h q h1 h2
    unfold scF at h
    split at h
    · cases h
    · by_cases hq : q = i
      · rw [hq]; assumption
      · exact ih (i + 1) h q (by omega) (by omega)
theorem sc_lt {f : Nat → Int32} {n k q : Nat} (h : sc f n k = some q) : q < n ∧ f (123 + q) = nI k := by
  have := scF_lt n 0 q h
  exact ⟨by omega, this.2.2⟩
theorem sc_none {f : Nat → Int32} {n k q : Nat} (h : sc f n k = none) (hq : q < n) : ¬ f (123 + q) = nI k := scF_none n 0 h q (Nat.zero_le _) (by omega)
theorem sc_at {f : Nat → Int32} {w h n k q : Nat} (O : OKf f w h n) (hk : k < 36) (hq : q < n) (e : f (123 + q) = nI k) : sc f n k = some q := by
  cases hs : sc f n k with
  | none => exact absurd e (sc_none hs hq)
  | some z =>
    have h1 := sc_lt hs
    rw [O.2.2.2.2.2.2.2 z q k h1.1 hq hk h1.2 e]
/-! the place behind an edge, on both sides -/
theorem beh8 {σ : gM} {t w h k e : Nat} (h3 : σ t 3 = nI w) (h4 : σ t 4 = nI h) (w1 : 1 ≤ w) (w6 : w ≤ 6) (h6 : h ≤ 6) (hk : k < 36) (he : e < 4) : fX4_behind σ t (nI k) (nI e) = some (oI (bh w h k e)) := by
  have hwh : w * h ≤ 36 := wh_le w6 h6
  have hm : k % w < w := Nat.mod_lt _ w1
  unfold fX4_behind fX4_places
  rw [h3, h4, if_neg (nI_nle w1 (by omega)), if_pos (nI_ne0 w1 (by omega)), pk_rem (by omega) w1 (by omega), pk_mul]
  unfold gl
  simp only [Option.bind_some, nIa, nIa1]
  rcases (show e = 0 ∨ e = 1 ∨ e = 2 ∨ e = 3 by omega) with rfl | rfl | rfl | rfl
  · rw [if_pos (show nI 0 = 0 from rfl), bh_0]
    by_cases c : k < w
    · rw [if_pos (nI_lt c (by omega)), if_pos c]; rfl
    · rw [if_neg (nI_nlt (by omega) (by omega)), if_neg c, pk_sub (by omega)]; rfl
  · rw [if_neg (show ¬ nI 1 = 0 by decide), if_pos (show nI 1 = 1 from rfl), bh_1]
    by_cases c : k % w + 1 < w
    · rw [if_neg (nI_ge c (by omega)), if_pos c]; rfl
    · rw [if_pos (nI_le (by omega) (by omega)), if_neg c]; rfl
  · rw [if_neg (show ¬ nI 2 = 0 by decide), if_neg (show ¬ nI 2 = 1 by decide), if_pos (show nI 2 = 2 from rfl), bh_2]
    by_cases c : k + w < w * h
    · rw [if_neg (nI_ge c (by omega)), if_pos c]; rfl
    · rw [if_pos (nI_le (by omega) (by omega)), if_neg c]; rfl
  · rw [if_neg (show ¬ nI 3 = 0 by decide), if_neg (show ¬ nI 3 = 1 by decide), if_neg (show ¬ nI 3 = 2 by decide), bh_3]
    by_cases c : k % w = 0
    · rw [if_pos (by rw [c]; decide), if_pos c]; rfl
    · rw [if_neg (nI_nle (by omega) (by omega)), if_neg c, nIs1 (by rcases Nat.eq_zero_or_pos k with h0 | h0; exact absurd (by rw [h0]; exact Nat.zero_mod w) c; exact h0)]; rfl
end

section
/-! THE REFERENCE READS ITS DESK -/
theorem ck {x : Int32} {N k : Nat} (hx : x = nI k) (h : k < N) (hN : N < 2 ^ 31) : ¬ (x < 0 ∨ N ≤ x.toNatClampNeg) := by
  rw [hx]
  exact nI_in h hN
theorem yl0 : nI 0 = 0 := rfl
theorem yl1 : nI 1 = 1 := rfl
theorem yl2 : nI 2 = 2 := rfl
theorem yl3 : nI 3 = 3 := rfl
theorem n10 : ¬ (1 : Int32) = 0 := by decide
theorem n12 : ¬ (1 : Int32) = 2 := by decide
theorem n13 : ¬ (1 : Int32) = 3 := by decide
theorem n20 : ¬ (2 : Int32) = 0 := by decide
theorem n21 : ¬ (2 : Int32) = 1 := by decide
theorem n23 : ¬ (2 : Int32) = 3 := by decide
theorem n30 : ¬ (3 : Int32) = 0 := by decide
theorem n31 : ¬ (3 : Int32) = 1 := by decide
theorem n32 : ¬ (3 : Int32) = 2 := by decide
theorem n01 : ¬ (0 : Int32) = 1 := by decide
theorem n02 : ¬ (0 : Int32) = 2 := by decide
theorem n03 : ¬ (0 : Int32) = 3 := by decide
theorem gl_e {α β : Type} {a : α} {f : α → Option β} : gl a f = f a := rfl
theorem cl_0 : (0 : Int32).toNatClampNeg = 0 := by decide
theorem cl_1 : (1 : Int32).toNatClampNeg = 1 := by decide
theorem cl_2 : (2 : Int32).toNatClampNeg = 2 := by decide
theorem m1_0 : (0 : Int32) + -1 = -1 := by decide
end

section
/-! THE REFERENCE TURNS A SCRAP -/
def Off2 (τ τ' : gM) : Prop := ∀ k, k ≠ 128 → k ≠ 129 → τ' k = τ k
theorem Off2.rf {τ : gM} : Off2 τ τ := fun _ _ _ => rfl
theorem Off2.tr {a b c : gM} (h : Off2 a b) (g : Off2 b c) : Off2 a c := fun k h1 h2 => (g k h1 h2).trans (h k h1 h2)
theorem cl_3 : (3 : Int32).toNatClampNeg = 3 := by decide
def rv9 (x : Int32) : Int32 := if 0 ≤ x then (((x - x / 10 * 10) * 100) + (((x / 10) - (x / 10) / 10 * 10) * 10)) + (x / 100) else x
def rot1 (σ : gM) : gM := gset σ 128 (upd (σ 128) 0 (rv9 (σ 128 3)))
def rot2 (σ : gM) : gM := gset σ 128 (upd (σ 128) 3 (σ 128 2))
def rot3 (σ : gM) : gM := gset σ 128 (upd (σ 128) 2 (rv9 (σ 128 1)))
def rot4 (x : Int32) (σ : gM) : gM := gset σ 128 (upd (σ 128) 1 x)
def rot5 (σ : gM) : gM := gset σ 129 (upd (σ 129) 0 (σ 129 3))
def rot6 (σ : gM) : gM := gset σ 129 (upd (σ 129) 3 (σ 129 2))
def rot7 (σ : gM) : gM := gset σ 129 (upd (σ 129) 2 (σ 129 1))
def rot8 (x : Int32) (σ : gM) : gM := gset σ 129 (upd (σ 129) 1 x)
def rotA (σ : gM) : gM := rot4 (σ 128 0) (rot3 (rot2 (rot1 σ)))
def rotM (σ : gM) : gM := rot8 (rotA σ 129 0) (rot7 (rot6 (rot5 (rotA σ))))
theorem rot_off (σ : gM) : Off2 σ (rotM σ) := by
  intro k h1 h2
  simp only [rotM, rotA, rot1, rot2, rot3, rot4, rot5, rot6, rot7, rot8, gset, if_neg h1, if_neg h2]
theorem rot_at (σ : gM) : rotM σ 128 0 = rv9 (σ 128 3) ∧ rotM σ 128 1 = σ 128 0 ∧ rotM σ 128 2 = rv9 (σ 128 1) ∧ rotM σ 128 3 = σ 128 2 ∧ rotM σ 129 0 = σ 129 3 ∧ rotM σ 129 1 = σ 129 0 ∧ rotM σ 129 2 = σ 129 1 ∧ rotM σ 129 3 = σ 129 2 := ⟨rfl, rfl, rfl, rfl, rfl, rfl, rfl, rfl⟩
/-- one edge is taken over -/
def cpM (σ : gM) (i : Nat) (p l : Int32) : gM := gset (gset σ 128 (upd (σ 128) i p)) 129 (upd (σ 129) i l)
theorem cp_off (σ : gM) (i : Nat) (p l : Int32) : Off2 σ (cpM σ i p l) := by
  intro k h1 h2
  simp only [cpM, gset, if_neg h1, if_neg h2]
theorem ix3 (s i : Nat) : (3 + (4 * nI s)) + nI i = nI (3 + 4 * s + i) := by
  rw [show (3 : Int32) = nI 3 from rfl, show (4 : Int32) = nI 4 from rfl, pk_mul, nIa, nIa]
theorem ix51 (s i : Nat) : (51 + (4 * nI s)) + nI i = nI (51 + 4 * s + i) := by
  rw [show (51 : Int32) = nI 51 from rfl, show (4 : Int32) = nI 4 from rfl, pk_mul, nIa, nIa]
theorem ix99 (s : Nat) : 99 + nI s = nI (99 + s) := nIa 99 s
theorem ix111 (s : Nat) : 111 + nI s = nI (111 + s) := nIa 111 s
theorem ix123 (s : Nat) : 123 + nI s = nI (123 + s) := nIa 123 s
end

section
/-! THE REFERENCE TURNS A SCRAP: all of it -/
def kl (f : Nat → Int32) (s i : Nat) : Int32 := if f (99 + s) = 0 then 0 else f (51 + 4 * s + i)
def pv (x : Int32) : Prop := x = -1 ∨ ∃ v, v ≤ 999 ∧ x = nI v
def rN (v : Nat) : Nat := v % 10 * 100 + v / 10 % 10 * 10 + v / 100
theorem rN_le : ∀ v, v < 1000 → rN v ≤ 999 ∧ rN (rN v) = v := by decide +kernel
theorem rv9_n {v : Nat} (h : v ≤ 999) : rv9 (nI v) = nI (rN v) := by
  unfold rv9 rN
  rw [if_pos (nI_pos' (by omega)), show (10 : Int32) = nI 10 from rfl, show (100 : Int32) = nI 100 from rfl, pk_rem (by omega) (by omega) (by omega), pk_div (by omega) (by omega) (by omega), pk_rem (by omega) (by omega) (by omega), pk_div (by omega) (by omega) (by omega), pk_mul, pk_mul, nIa, nIa]
theorem R1 {x : Int32} (h : pv x) : rv9 x = rev x := by
  rcases h with rfl | ⟨v, h, rfl⟩
  · rfl
  · unfold rev rv9
    rw [if_neg (m1_ne (by omega)), if_pos (nI_pos' (by omega))]
theorem R2 {x : Int32} (h : pv x) : rv9 (rv9 x) = x := by
  rcases h with rfl | ⟨v, h, rfl⟩
  · rfl
  · have := rN_le v (by omega)
    rw [rv9_n h, rv9_n this.1, this.2]
theorem R3 {x : Int32} (h : pv x) : rv9 (rv9 (rv9 x)) = rev x := by rw [R2 h, R1 h]
theorem gF4 : ∃ m, gF = m + 4 := ⟨999999999999999996, rfl⟩
theorem gF5 : ∃ m, gF = m + 5 := ⟨999999999999999995, rfl⟩
end

section
/-! WHY AN EDGE DOES NOT FIT -/
theorem bp {α : Type} {v : Int32} {σ : gM} {F : Int32 → gM → Option α} : ((some (v, σ) : Option (Int32 × gM)).bind fun pv => gl pv.1 fun a => gl pv.2 fun b => F a b) = F v σ := rfl
def ovN (f : Nat → Int32) (v : Nat) : Nat := (f (111 + v)).toNatClampNeg
def vd (f : Nat → Int32) (s o e v : Nat) : Int32 := if tP f s o e = -1 then 1 else if tP f v (ovN f v) ((e + 2) % 4) = -1 then 1 else if tP f s o e + tP f v (ovN f v) ((e + 2) % 4) = 999 then (if tL f s o e = tL f v (ovN f v) ((e + 2) % 4) then 0 else 3) else 2
def rsQ (f : Nat → Int32) (n s o e : Nat) : Option Nat → Int32
  | none => -1
  | some v => if v = s then -1 else vd f s o e v
def rsP (f : Nat → Int32) (n s o e : Nat) : Option Nat → Int32
  | none => if tP f s o e = -1 then 0 else 4
  | some q => rsQ f n s o e (sc f n q)
theorem rsQ_n {f : Nat → Int32} {n s o e : Nat} : rsQ f n s o e none = -1 := rfl
theorem rsQ_s {f : Nat → Int32} {n s o e v : Nat} : rsQ f n s o e (some v) = if v = s then -1 else vd f s o e v := rfl
theorem rsP_n {f : Nat → Int32} {n s o e : Nat} : rsP f n s o e none = if tP f s o e = -1 then 0 else 4 := rfl
theorem rsP_s {f : Nat → Int32} {n s o e q : Nat} : rsP f n s o e (some q) = rsQ f n s o e (sc f n q) := rfl
theorem e2_4 {e : Nat} (he : e < 4) : (nI e + 2) - (nI e + 2) / 4 * 4 = nI ((e + 2) % 4) := by
  rw [show (2 : Int32) = nI 2 from rfl, nIa, show (4 : Int32) = nI 4 from rfl, pk_rem (by omega) (by omega) (by omega)]
/-- 0 fits, 1 to 4 why not, -1 nothing there -/
def rs (f : Nat → Int32) (w h n s k o e : Nat) : Int32 := rsP f n s o e (bh w h k e)
theorem OKf.pv {f : Nat → Int32} {w h n s e : Nat} (O : OKf f w h n) (hs : s < n) (he : e < 4) : pv (f (3 + 4 * s + e)) := O.2.2.2.1 s e hs he
theorem OKf.ov {f : Nat → Int32} {w h n s : Nat} (O : OKf f w h n) (hs : s < n) : ovN f s < 8 ∧ f (111 + s) = nI (ovN f s) := by
  obtain ⟨o, h1, h2⟩ := O.2.2.2.2.2.1 s hs
  unfold ovN
  rw [h2, nI_cl (by omega)]
  exact ⟨h1, rfl⟩
end

section
/-! THE CLASS READS A DESK THAT AGREES WITH A SNAPSHOT -/
def gD (d : Nat) : Prop := gln (d + 3) = 12 ∧ gln (d + 5) = 384 ∧ gln (d + 7) = 384 ∧ gln (d + 10) = 12 ∧ gln (d + 12) = 12 ∧ gln (d + 14) = 36
theorem gD_1 : gD 1 := by unfold gD; decide
theorem gD_16 : gD 16 := by unfold gD; decide
theorem gD_h {j : Nat} (hj : j < 5) : gD (33 + 15 * j) := by
  rcases (show j = 0 ∨ j = 1 ∨ j = 2 ∨ j = 3 ∨ j = 4 by omega) with rfl | rfl | rfl | rfl | rfl <;> (unfold gD; decide)
def DDc (σ : gM) (d : Nat) (f : Nat → Int32) (w h n : Nat) : Prop :=
  (σ (d + 1) 3 = nI n ∧ σ (d + 8) 3 = nI w ∧ σ (d + 8) 4 = nI h) ∧
  (∀ s, s < n → σ (d + 3) s = f (99 + s)) ∧
  (∀ s o e, s < n → o < 8 → e < 4 → σ (d + 5) (s * 32 + o * 4 + e) = tP f s o e ∧ σ (d + 7) (s * 32 + o * 4 + e) = tL f s o e) ∧
  (∀ s, s < 12 → σ (d + 10) s = if s < n then f (123 + s) else -1) ∧
  (∀ s, s < 12 → σ (d + 12) s = if s < n then f (111 + s) else 0) ∧
  (∀ k, k < 36 → σ (d + 14) k = oI (sc f n k))
def DDo (σ : gM) (d : Nat) (f : Nat → Int32) (w h n : Nat) : Prop := gD d ∧ OKf f w h n ∧ DDc σ d f w h n
variable {σ : gM} {d w h n : Nat} {f : Nat → Int32}
theorem siz8 (D : DDo σ d f w h n) : fX6_size σ (d + 1) = some (nI n) := congrArg some D.2.2.1.1
theorem plc8 (D : DDo σ d f w h n) {s : Nat} (hs : s < n) : fX4_placeOf σ (d + 8) (nI s) = some (f (123 + s)) := by
  have hn : n ≤ 12 := D.2.1.2.1.2.2.2.2
  unfold fX4_placeOf
  rw [get_in (show s < gln (d + 10) by rw [D.1.2.2.2.1]; omega), Option.bind_some]
  refine congrArg some ?_
  refine (D.2.2.2.2.2.1 s (by omega)).trans ?_
  rw [if_pos hs]
theorem lie8 (D : DDo σ d f w h n) {s : Nat} (hs : s < n) : fX4_lies σ (d + 8) (nI s) = some (if f (123 + s) = -1 then 0 else 1) := by
  have := plc8 D hs
  unfold fX4_placeOf at this
  unfold fX4_lies
  have e : fX5_get σ (d + 8 + 1) (nI s) = some (f (123 + s)) := by
    cases hg : fX5_get σ (d + 8 + 1) (nI s) with
    | none => rw [hg] at this; cases this
    | some v => rw [hg] at this; exact this
  rw [e, Option.bind_some]
  split <;> rfl
theorem ori8 (D : DDo σ d f w h n) {s : Nat} (hs : s < n) : fX4_orientationOf σ (d + 8) (nI s) = some (nI (ovN f s)) := by
  have hn : n ≤ 12 := D.2.1.2.1.2.2.2.2
  unfold fX4_orientationOf
  rw [get_in (show s < gln (d + 12) by rw [D.1.2.2.2.2.1]; omega), Option.bind_some]
  refine congrArg some ?_
  refine (D.2.2.2.2.2.2.1 s (by omega)).trans ?_
  rw [if_pos hs, (D.2.1.ov hs).2]
theorem knd8 (D : DDo σ d f w h n) {s : Nat} (hs : s < n) : fX6_kind σ (d + 1) (nI s) = some (f (99 + s)) := by
  have hn : n ≤ 12 := D.2.1.2.1.2.2.2.2
  unfold fX6_kind
  rw [get_in (show s < gln (d + 3) by rw [D.1.1]; omega), Option.bind_some]
  exact congrArg some (D.2.2.2.1 s hs)
def scO (f : Nat → Int32) (n : Nat) : Option Nat → Option Nat
  | none => none
  | some q => sc f n q
theorem sca8 (D : DDo σ d f w h n) {p : Option Nat} (hp : ∀ q, p = some q → q < 36) : fX4_scrapAt σ (d + 8) (oI p) = some (oI (scO f n p)) := by
  unfold fX4_scrapAt
  cases p with
  | none => rw [oI_n, get_m1]; rfl
  | some q =>
    have hq := hp q rfl
    rw [oI_s, get_in (show q < gln (d + 14) by rw [D.1.2.2.2.2.2]; omega), Option.bind_some]
    exact congrArg some (D.2.2.2.2.2.2.2 q hq)
theorem sca8s (D : DDo σ d f w h n) {q : Nat} (hq : q < 36) : fX4_scrapAt σ (d + 8) (nI q) = some (oI (sc f n q)) := sca8 D (p := some q) (fun _ e => by cases e; exact hq)
theorem ix32 (s o e : Nat) : ((nI s * 32) + (nI o * 4)) + nI e = nI (s * 32 + o * 4 + e) := by
  rw [show (32 : Int32) = nI 32 from rfl, show (4 : Int32) = nI 4 from rfl, pk_mul, pk_mul, nIa, nIa]
theorem pro8 (D : DDo σ d f w h n) {s o e : Nat} (hs : s < n) (ho : o < 8) (he : e < 4) : fX6_profile σ (d + 1) (nI s) (nI o) (nI e) = some (tP f s o e) := by
  have hn : n ≤ 12 := D.2.1.2.1.2.2.2.2
  unfold fX6_profile
  rw [ix32, get_in (show s * 32 + o * 4 + e < gln (d + 5) by rw [D.1.2.1]; omega), Option.bind_some]
  exact congrArg some (D.2.2.2.2.1 s o e hs ho he).1
theorem lin8 (D : DDo σ d f w h n) {s o e : Nat} (hs : s < n) (ho : o < 8) (he : e < 4) : fX6_line σ (d + 1) (nI s) (nI o) (nI e) = some (tL f s o e) := by
  have hn : n ≤ 12 := D.2.1.2.1.2.2.2.2
  unfold fX6_line
  rw [ix32, get_in (show s * 32 + o * 4 + e < gln (d + 7) by rw [D.1.2.2.1]; omega), Option.bind_some]
  exact congrArg some (D.2.2.2.2.1 s o e hs ho he).2
theorem beh8d (D : DDo σ d f w h n) {k e : Nat} (hk : k < 36) (he : e < 4) : fX4_behind σ (d + 8) (nI k) (nI e) = some (oI (bh w h k e)) := by
  obtain ⟨w1, w6, h1, h6, n12⟩ := D.2.1.2.1
  exact beh8 D.2.2.1.2.1 D.2.2.1.2.2 w1 w6 h6 hk he
/-- the other scrap behind an edge -/
def nbQ (s : Nat) : Option Nat → Option Nat
  | none => none
  | some v => if v = s then none else some v
def nb (f : Nat → Int32) (w h n s k e : Nat) : Option Nat := nbQ s (scO f n (bh w h k e))
theorem nbQ_n {s : Nat} : nbQ s none = none := rfl
theorem nbQ_s {s v : Nat} : nbQ s (some v) = if v = s then none else some v := rfl
theorem scO_n {f : Nat → Int32} {n : Nat} : scO f n none = none := rfl
theorem scO_s {f : Nat → Int32} {n q : Nat} : scO f n (some q) = sc f n q := rfl
theorem nei8 (D : DDo σ d f w h n) {s k e : Nat} (hs : s < n) (hk : k < w * h) (he : e < 4) : fX0_neighbour σ d (nI s) (nI k) (nI e) = some (oI (nb f w h n s k e)) := by
  obtain ⟨w1, w6, h1, h6, n12⟩ := D.2.1.2.1
  have hwh := wh_le w6 h6
  unfold fX0_neighbour nb
  rw [beh8d D (by omega) he, Option.bind_some, sca8 D (fun q hq => by have := bh_lt w1 hk hq; omega), Option.bind_some]
  cases hv : scO f n (bh w h k e) with
  | none => rw [nbQ_n, oI_n, if_neg (m1_ne' (by omega))]
  | some v =>
    have hvn : v < n := by
      cases hb : bh w h k e with
      | none => rw [hb] at hv; cases hv
      | some q => rw [hb] at hv; exact (sc_lt hv).1
    rw [nbQ_s, oI_s]
    by_cases c : v = s
    · rw [if_pos c, if_pos (by rw [c])]; rfl
    · rw [if_neg c, if_neg (fun q => c ((nI_eq (by omega) (by omega)).mp q))]; rfl
theorem a2_3 {e : Nat} (he : e < 4) : (nI e + 2) &&& 3 = nI ((e + 2) % 4) := by
  rcases (show e = 0 ∨ e = 1 ∨ e = 2 ∨ e = 3 by omega) with rfl | rfl | rfl | rfl <;> decide
theorem ver8 (D : DDo σ d f w h n) {s k o e : Nat} (hs : s < n) (hk : k < w * h) (ho : o < 8) (he : e < 4) : fX0_verdict σ d (nI s) (nI k) (nI o) (nI e) = some (rs f w h n s k o e) := by
  obtain ⟨w1, w6, h1, h6, n12⟩ := D.2.1.2.1
  have hwh := wh_le w6 h6
  unfold fX0_verdict
  rw [pro8 D hs ho he, Option.bind_some, beh8d D (by omega) he, Option.bind_some]
  unfold rs
  cases hb : bh w h k e with
  | none =>
    rw [if_pos oI_n, rsP_n]
    split <;> rfl
  | some q =>
    have hq : q < w * h := bh_lt w1 hk hb
    rw [oI_s, if_neg (m1_ne (by omega)), rsP_s, sca8s D (by omega), Option.bind_some]
    cases hv : sc f n q with
    | none => rw [if_pos oI_n]; rfl
    | some v =>
      have hvn := (sc_lt hv).1
      rw [rsQ_s, oI_s, if_neg (m1_ne (by omega))]
      by_cases c : v = s
      · rw [if_pos (show nI v = nI s by rw [c]), if_pos c]
      · have hov := D.2.1.ov hvn
        rw [if_neg (show ¬ nI v = nI s from fun q => c ((nI_eq (by omega) (by omega)).mp q)), if_neg c, ori8 D hvn, Option.bind_some, gl_e, a2_3 he, pro8 D hvn hov.1 (by omega), Option.bind_some, lin8 D hs ho he, Option.bind_some, lin8 D hvn hov.1 (by omega), Option.bind_some]
        unfold vd
        by_cases c1 : tP f s o e = -1
        · rw [if_pos c1, if_pos c1]
        · rw [if_neg c1, if_neg c1]
          by_cases c2 : tP f v (ovN f v) ((e + 2) % 4) = -1
          · rw [if_pos c2, if_pos c2]
          · rw [if_neg c2, if_neg c2]
            by_cases c3 : tP f s o e + tP f v (ovN f v) ((e + 2) % 4) = 999
            · rw [if_pos c3, if_pos c3]
              by_cases c4 : tL f s o e = tL f v (ovN f v) ((e + 2) % 4)
              · rw [if_pos c4, if_pos c4]
              · rw [if_neg c4, if_neg c4]
            · rw [if_neg c3, if_neg c3]
end

section
/-! COUNTING EDGES, ON BOTH SIDES -/
/-- a loop forward -/
def up (g : Nat → Nat → Nat) : Nat → Nat → Nat → Nat
  | 0, _, a => a
  | d + 1, i, a => up g d (i + 1) (g i a)
theorem up_0 {g : Nat → Nat → Nat} {i a : Nat} : up g 0 i a = a := rfl
theorem up_s {g : Nat → Nat → Nat} {d i a : Nat} : up g (d + 1) i a = up g d (i + 1) (g i a) := rfl
theorem vd_in (f : Nat → Int32) (s o e v : Nat) : vd f s o e v = 0 ∨ vd f s o e v = 1 ∨ vd f s o e v = 2 ∨ vd f s o e v = 3 := by
  unfold vd
  repeat' split
  all_goals simp
theorem rs_in (f : Nat → Int32) (w h n s k o e : Nat) : rs f w h n s k o e = -1 ∨ rs f w h n s k o e = 0 ∨ rs f w h n s k o e = 1 ∨ rs f w h n s k o e = 2 ∨ rs f w h n s k o e = 3 ∨ rs f w h n s k o e = 4 := by
  unfold rs
  cases bh w h k e with
  | none => rw [rsP_n]; split <;> simp
  | some q =>
    rw [rsP_s]
    cases sc f n q with
    | none => exact Or.inl rfl
    | some v =>
      rw [rsQ_s]
      split
      · exact Or.inl rfl
      · rcases vd_in f s o e v with h | h | h | h <;> rw [h] <;> simp
def gFit (f : Nat → Int32) (w h n s k o e a : Nat) : Nat := if rs f w h n s k o e = -1 then a else if rs f w h n s k o e = 0 then a + 1 else a
def gFlt (f : Nat → Int32) (w h n s k o e a : Nat) : Nat := if rs f w h n s k o e = -1 then a else if rs f w h n s k o e = 0 then a else a + 1
def nFit (f : Nat → Int32) (w h n s k o : Nat) : Nat := up (gFit f w h n s k o) 4 0 0
def nFlt (f : Nat → Int32) (w h n s k o : Nat) : Nat := up (gFlt f w h n s k o) 4 0 0
theorem i4 {i : Nat} (h : i < 4) : ¬ (4 : Int32) ≤ nI i := nI_ge h (by decide)
theorem i4e : (4 : Int32) ≤ nI 4 := by decide
theorem gF_lt {k : Nat} (h : k < 1000000) : k < gF := by unfold gF; omega
variable {σ : gM} {d w h n : Nat} {f : Nat → Int32}
theorem rs_le {s k o e : Nat} : rs f w h n s k o e ≤ 0 ↔ (rs f w h n s k o e = -1 ∨ rs f w h n s k o e = 0) := by
  rcases rs_in f w h n s k o e with c | c | c | c | c | c <;> rw [c] <;> decide
theorem clie8L (D : DDo σ d f w h n) {s k o : Nat} (hs : s < n) (hk : k < w * h) (ho : o < 8) : ∀ (j i m a : Nat), i + j = 4 → j < m → fX0_canLie_3 σ d (nI s) (nI k) (nI o) m (nI i) = some (if up (gFlt f w h n s k o) j i a = a then 1 else 0) ∧ a ≤ up (gFlt f w h n s k o) j i a := by
  intro j
  induction j with
  | zero =>
    intro i m a hi hm
    obtain ⟨m, rfl⟩ : ∃ q, m = q + 1 := ⟨m - 1, by omega⟩
    obtain rfl : i = 4 := by omega
    rw [fX0_canLie_3, if_pos i4e, up_0, if_pos rfl]
    exact ⟨rfl, Nat.le_refl _⟩
  | succ j ih =>
    intro i m a hi hm
    obtain ⟨m, rfl⟩ : ∃ q, m = q + 1 := ⟨m - 1, by omega⟩
    rw [fX0_canLie_3, if_neg (i4 (by omega)), ver8 D hs hk ho (by omega), Option.bind_some, gl_e, nIa1, up_s]
    by_cases c : rs f w h n s k o i ≤ 0
    · have e : gFlt f w h n s k o i a = a := by
        unfold gFlt
        rcases rs_le.mp c with q | q
        · rw [if_pos q]
        · rw [if_neg (by rw [q]; decide), if_pos q]
      rw [if_pos c, e]
      exact ih (i + 1) m a (by omega) (by omega)
    · have e : gFlt f w h n s k o i a = a + 1 := by
        unfold gFlt
        rw [if_neg (fun q => c (rs_le.mpr (Or.inl q))), if_neg (fun q => c (rs_le.mpr (Or.inr q)))]
      have := (ih (i + 1) m (a + 1) (by omega) (by omega)).2
      rw [if_neg c, e, if_neg (by omega)]
      exact ⟨rfl, by omega⟩
theorem clie8 (D : DDo σ d f w h n) {s k o : Nat} (hs : s < n) (hk : k < w * h) (ho : o < 8) : fX0_canLie σ d (nI s) (nI k) (nI o) = some (if nFlt f w h n s k o = 0 then 1 else 0) := (clie8L D hs hk ho 4 0 gF 0 rfl (gF_lt (by decide))).1
end

section
/-! ARGUMENTS, ON BOTH SIDES -/
def inI (a lo hi : Int32) : Int32 := if a < lo then 0 else if hi < a then 0 else 1
theorem in8e {τ : gM} {a lo hi : Int32} : fX8_isWithin τ a lo hi = some (inI a lo hi) := by
  unfold fX8_isWithin inI
  split
  · rfl
  · split <;> rfl
theorem inI_01 (a lo hi : Int32) : inI a lo hi = 0 ∨ inI a lo hi = 1 := by
  unfold inI
  split
  · exact Or.inl rfl
  · split
    · exact Or.inl rfl
    · exact Or.inr rfl
theorem inN (x : Int32) {n : Nat} (hn : n < 1000) : inI x 0 (nI n - 1) = 0 ∨ ∃ s, s < n ∧ x = nI s ∧ inI x 0 (nI n - 1) = 1 := by
  rcases pk_ix x (n := n) (by omega) with h | h | ⟨j, h, rfl⟩
  · exact Or.inl (if_pos h)
  · refine Or.inl ?_
    unfold inI
    by_cases c : x < 0
    · rw [if_pos c]
    · have e : (nI n - 1).toInt = (n : Int) - 1 := pk_sub_toInt (a := n) (b := 1) (by omega) (by decide)
      have e2 := Int32.le_iff_toInt_le.mp h
      rw [nI_toInt (by omega)] at e2
      rw [if_neg c, if_pos (Int32.lt_iff_toInt_lt.mpr (by omega))]
  · refine Or.inr ⟨j, h, rfl, ?_⟩
    have e : (nI n - 1).toInt = (n : Int) - 1 := pk_sub_toInt (a := n) (b := 1) (by omega) (by decide)
    unfold inI
    rw [if_neg (nI_pos (by omega)), if_neg (fun q => by have := Int32.lt_iff_toInt_lt.mp q; rw [nI_toInt (by omega)] at this; omega)]
theorem up_le {g : Nat → Nat → Nat} (hg : ∀ i a, g i a ≤ a + 1) : ∀ d i a, up g d i a ≤ a + d := by
  intro d
  induction d with
  | zero => intro i a; exact Nat.le_refl _
  | succ d ih =>
    intro i a
    rw [up_s]
    have := ih (i + 1) (g i a)
    have := hg i a
    omega
theorem gFlt_le (f : Nat → Int32) (w h n s k o : Nat) : ∀ i a, gFlt f w h n s k o i a ≤ a + 1 := by
  intro i a
  unfold gFlt
  repeat' split
  all_goals omega
theorem nFlt_le (f : Nat → Int32) (w h n s k o : Nat) : nFlt f w h n s k o ≤ 4 := by
  have := up_le (gFlt_le f w h n s k o) 4 0 0
  unfold nFlt
  omega
theorem nI_z {n : Nat} (h : n < 2 ^ 31) : nI n = 0 ↔ n = 0 := nI_eq (b := 0) h (by decide)
variable {σ : gM} {w h n : Nat} {f : Nat → Int32}
theorem isc8 {x : Int32} (D : DDo σ 1 f w h n) : fX8_isScrap σ 0 x = some (inI x 0 (nI n - 1)) := by
  unfold fX8_isScrap
  rw [show fX6_size σ (0 + 1 + 1) = some (nI n) from siz8 D, Option.bind_some, in8e, Option.bind_some, if_pos (inI_01 _ _ _)]
theorem pls8 {d : Nat} (D : DDo σ d f w h n) : fX4_places σ (d + 8) = some (nI (w * h)) := by
  unfold fX4_places
  rw [D.2.2.1.2.1, D.2.2.1.2.2, pk_mul]
theorem ipl8 {x : Int32} (D : DDo σ 1 f w h n) : fX8_isPlace σ 0 x = some (inI x 0 (nI (w * h) - 1)) := by
  unfold fX8_isPlace
  rw [show fX4_places σ (0 + 1 + 8) = some (nI (w * h)) from pls8 D, Option.bind_some, in8e, Option.bind_some, if_pos (inI_01 _ _ _)]
theorem ior8 {x : Int32} : fX8_isOrientation σ x = some (inI x 0 7) := by
  unfold fX8_isOrientation
  rw [in8e, Option.bind_some, if_pos (inI_01 _ _ _)]
theorem ied8 {x : Int32} : fX8_isEdge σ x = some (inI x 0 3) := by
  unfold fX8_isEdge
  rw [in8e, Option.bind_some, if_pos (inI_01 _ _ _)]
theorem inO (x : Int32) : inI x 0 7 = 0 ∨ ∃ s, s < 8 ∧ x = nI s ∧ inI x 0 7 = 1 := inN x (n := 8) (by decide)
theorem inE (x : Int32) : inI x 0 3 = 0 ∨ ∃ s, s < 4 ∧ x = nI s ∧ inI x 0 3 = 1 := inN x (n := 4) (by decide)
theorem in1 (x : Int32) : inI x 0 1 = 0 ∨ ∃ s, s < 2 ∧ x = nI s ∧ inI x 0 1 = 1 := inN x (n := 2) (by decide)
end

section
/-! THE RELATION, AND THE CALLS THAT ONLY READ -/
theorem n01' : ¬ (-1001 : Int32) = 0 := by decide
end

section
/-! WAYS -/
def gWay (f : Nat → Int32) (w h n s k o a : Nat) : Nat := if nFlt f w h n s k o = 0 then a + 1 else a
def nWay (f : Nat → Int32) (w h n s k : Nat) : Nat := up (gWay f w h n s k) 8 0 0
theorem i8 {i : Nat} (h : i < 8) : ¬ (8 : Int32) ≤ nI i := nI_ge h (by decide)
theorem i8e : (8 : Int32) ≤ nI 8 := by decide
theorem way8L {σ : gM} {t w h n s k : Nat} {f : Nat → Int32} (D : DDo σ t f w h n) (hs : s < n) (hk : k < w * h) : ∀ (d i m a : Nat), i + d = 8 → d < m → fX0_countWays_5 σ t (nI s) (nI k) m (nI a) (nI i) = some (nI (up (gWay f w h n s k) d i a)) := by
  intro d
  induction d with
  | zero =>
    intro i m a hi hm
    obtain ⟨m, rfl⟩ : ∃ q, m = q + 1 := ⟨m - 1, by omega⟩
    obtain rfl : i = 8 := by omega
    rw [fX0_countWays_5, if_pos i8e, up_0]
  | succ d ih =>
    intro i m a hi hm
    obtain ⟨m, rfl⟩ : ∃ q, m = q + 1 := ⟨m - 1, by omega⟩
    rw [fX0_countWays_5, if_neg (i8 (by omega)), clie8 D hs hk (by omega), Option.bind_some, up_s]
    simp only [gl_e, nIa1]
    unfold gWay
    by_cases c : nFlt f w h n s k i = 0
    · rw [if_pos c, if_pos c, if_neg n10]
      exact ih (i + 1) m (a + 1) (by omega) (by omega)
    · rw [if_neg c, if_neg c, if_pos rfl]
      exact ih (i + 1) m a (by omega) (by omega)
end
