/-! THE REFERENCE READS ITS DESK -/
theorem ck {x : Int32} {N k : Nat} (hx : x = nI k) (h : k < N) (hN : N < 2 ^ 31) : ¬ (x < 0 ∨ N ≤ x.toNatClampNeg) := by
  rw [hx]
  exact nI_in h hN
theorem in9t {τ : gM} {x b : Nat} (h : x ≤ b) (hb : b < 2 ^ 31) : fX9_in τ (nI x) 0 (nI b) = some 1 := by
  unfold fX9_in
  rw [if_neg (nI_pos (by omega)), if_neg (nI_nlt h hb)]
theorem in9f {τ : gM} {x b : Nat} (h : b < x) (hb : x < 2 ^ 31) : fX9_in τ (nI x) 0 (nI b) = some 0 := by
  unfold fX9_in
  rw [if_neg (nI_pos (by omega)), if_pos (nI_lt h hb)]
theorem in9m {τ : gM} {b : Int32} : fX9_in τ (-1) 0 b = some 0 := if_pos m1_lt
theorem yl0 : nI 0 = 0 := rfl
theorem yl1 : nI 1 = 1 := rfl
theorem yl2 : nI 2 = 2 := rfl
theorem yl3 : nI 3 = 3 := rfl
theorem n10 : ¬ (1 : Int32) = 0 := by decide
theorem n12 : ¬ (1 : Int32) = 2 := by decide
theorem n13 : ¬ (1 : Int32) = 3 := by decide
theorem n20 : ¬ (2 : Int32) = 0 := by decide
theorem n21 : ¬ (2 : Int32) = 1 := by decide
theorem n23 : ¬ (2 : Int32) = 3 := by decide
theorem n30 : ¬ (3 : Int32) = 0 := by decide
theorem n31 : ¬ (3 : Int32) = 1 := by decide
theorem n32 : ¬ (3 : Int32) = 2 := by decide
theorem n01 : ¬ (0 : Int32) = 1 := by decide
theorem n02 : ¬ (0 : Int32) = 2 := by decide
theorem n03 : ¬ (0 : Int32) = 3 := by decide
theorem k10 : ¬ ((0 : Int32) < 0 ∨ gln (124 + 1) ≤ (0 : Int32).toNatClampNeg) := by decide
theorem k11 : ¬ ((1 : Int32) < 0 ∨ gln (124 + 1) ≤ (1 : Int32).toNatClampNeg) := by decide
theorem k12 : ¬ ((2 : Int32) < 0 ∨ gln (124 + 1) ≤ (2 : Int32).toNatClampNeg) := by decide
theorem gl_e {α β : Type} {a : α} {f : α → Option β} : gl a f = f a := rfl
theorem cl_0 : (0 : Int32).toNatClampNeg = 0 := by decide
theorem cl_1 : (1 : Int32).toNatClampNeg = 1 := by decide
theorem cl_2 : (2 : Int32).toNatClampNeg = 2 := by decide
theorem m1_0 : (0 : Int32) + -1 = -1 := by decide
theorem beh9_0 {τ : gM} {w h k : Nat} (h0 : τ 125 0 = nI w) (h1 : τ 125 1 = nI h) (w1 : 1 ≤ w) (w6 : w ≤ 6) (h1' : 1 ≤ h) (h6 : h ≤ 6) (hk : k < w * h) : fX9_behind τ 124 (nI k) 0 = some (oI (bh w h k 0)) := by
  have hwh : w * h ≤ 36 := wh_le w6 h6
  have hm : k % w < w := Nat.mod_lt _ w1
  have hdv : k / w < h := Nat.div_lt_of_lt_mul hk
  have hdm := Nat.div_add_mod k w
  have e0 : τ (124 + 1) (0 : Int32).toNatClampNeg = nI w := by rw [cl_0]; exact h0
  have e1 : τ (124 + 1) (1 : Int32).toNatClampNeg = nI h := by rw [cl_1]; exact h1
  have hz : ¬ nI w = 0 := nI_ne0 w1 (by omega)
  have hd : nI k / nI w = nI (k / w) := pk_div (by omega) w1 (by omega)
  have hr : nI k - nI (k / w) * nI w = nI (k % w) := by rw [← hd]; exact pk_rem (by omega) w1 (by omega)
  have a1 : nI w - 1 = nI (w - 1) := nIs1 w1
  have a2 : nI h - 1 = nI (h - 1) := nIs1 h1'
  unfold fX9_behind
  rw [if_pos k10, e0, if_pos hz, if_neg n01, if_neg n03]
  rw [gl_e, if_pos k10, if_pos hz, if_neg n02, if_pos rfl, gl_e, if_pos k10, hd, hr, a1, Int32.add_zero, in9t (by omega) (by omega), Option.bind_some, if_neg n10, if_pos k11, e1, a2, bh_0]
  by_cases c : k < w
  · rw [Nat.div_eq_of_lt c, yl0, m1_0, in9m, if_pos c]
    rfl
  · rw [show k / w = (k / w - 1) + 1 by have := Nat.div_pos (show w ≤ k by omega) w1; omega, pk_m1, in9t (by omega) (by omega), if_neg c, pk_mul, nIa, Option.bind_some, if_neg n10, if_pos k10]
    rw [Nat.sub_mul, Nat.mul_comm, Nat.one_mul, show w * (k / w) - w + k % w = k - w by have := Nat.div_pos (show w ≤ k by omega) w1; have := Nat.mul_le_mul_left w this; omega]
    rfl
theorem beh9_1 {τ : gM} {w h k : Nat} (h0 : τ 125 0 = nI w) (h1 : τ 125 1 = nI h) (w1 : 1 ≤ w) (w6 : w ≤ 6) (h1' : 1 ≤ h) (h6 : h ≤ 6) (hk : k < w * h) : fX9_behind τ 124 (nI k) 1 = some (oI (bh w h k 1)) := by
  have hwh : w * h ≤ 36 := wh_le w6 h6
  have hm : k % w < w := Nat.mod_lt _ w1
  have hdv : k / w < h := Nat.div_lt_of_lt_mul hk
  have hdm := Nat.div_add_mod k w
  have e0 : τ (124 + 1) (0 : Int32).toNatClampNeg = nI w := by rw [cl_0]; exact h0
  have e1 : τ (124 + 1) (1 : Int32).toNatClampNeg = nI h := by rw [cl_1]; exact h1
  have hz : ¬ nI w = 0 := nI_ne0 w1 (by omega)
  have hd : nI k / nI w = nI (k / w) := pk_div (by omega) w1 (by omega)
  have hr : nI k - nI (k / w) * nI w = nI (k % w) := by rw [← hd]; exact pk_rem (by omega) w1 (by omega)
  have a1 : nI w - 1 = nI (w - 1) := nIs1 w1
  have a2 : nI h - 1 = nI (h - 1) := nIs1 h1'
  unfold fX9_behind
  rw [if_pos k10, e0, if_pos hz, if_pos rfl, gl_e, if_pos k10, if_pos hz, if_neg n12, if_neg n10, gl_e, if_pos k10, hd, hr, a1, Int32.add_zero, nIa1, bh_1]
  by_cases c : k % w + 1 < w
  · rw [in9t (by omega) (by omega), Option.bind_some, if_neg n10, if_pos k11, e1, a2, in9t (by omega) (by omega), Option.bind_some, if_neg n10, if_pos k10, if_pos c, pk_mul, nIa]
    rw [Nat.mul_comm, ← Nat.add_assoc, hdm]
    rfl
  · rw [in9f (by omega) (by omega), if_neg c]
    rfl
theorem beh9_2 {τ : gM} {w h k : Nat} (h0 : τ 125 0 = nI w) (h1 : τ 125 1 = nI h) (w1 : 1 ≤ w) (w6 : w ≤ 6) (h1' : 1 ≤ h) (h6 : h ≤ 6) (hk : k < w * h) : fX9_behind τ 124 (nI k) 2 = some (oI (bh w h k 2)) := by
  have hwh : w * h ≤ 36 := wh_le w6 h6
  have hm : k % w < w := Nat.mod_lt _ w1
  have hdv : k / w < h := Nat.div_lt_of_lt_mul hk
  have hdm := Nat.div_add_mod k w
  have e0 : τ (124 + 1) (0 : Int32).toNatClampNeg = nI w := by rw [cl_0]; exact h0
  have e1 : τ (124 + 1) (1 : Int32).toNatClampNeg = nI h := by rw [cl_1]; exact h1
  have hz : ¬ nI w = 0 := nI_ne0 w1 (by omega)
  have hd : nI k / nI w = nI (k / w) := pk_div (by omega) w1 (by omega)
  have hr : nI k - nI (k / w) * nI w = nI (k % w) := by rw [← hd]; exact pk_rem (by omega) w1 (by omega)
  have a1 : nI w - 1 = nI (w - 1) := nIs1 w1
  have a2 : nI h - 1 = nI (h - 1) := nIs1 h1'
  unfold fX9_behind
  rw [if_pos k10, e0, if_pos hz, if_neg n21, if_neg n23, gl_e, if_pos k10, if_pos hz, if_pos rfl, gl_e, if_pos k10, hd, hr, a1, Int32.add_zero, nIa1, in9t (by omega) (by omega), Option.bind_some, if_neg n10, if_pos k11, e1, a2, bh_2]
  by_cases c : k / w + 1 < h
  · have c2 : w * (k / w + 1 + 1) ≤ w * h := Nat.mul_le_mul_left w c
    rw [Nat.mul_add, Nat.mul_add] at c2
    rw [in9t (by omega) (by omega), Option.bind_some, if_neg n10, if_pos k10, if_pos (show k + w < w * h by omega), pk_mul, nIa]
    rw [Nat.add_mul, Nat.mul_comm, Nat.one_mul, show w * (k / w) + w + k % w = k + w by omega]
    rfl
  · have c2 : h = k / w + 1 := by omega
    rw [in9f (by omega) (by omega), if_neg (show ¬ k + w < w * h by rw [c2, Nat.mul_add]; omega)]
    rfl
theorem beh9_3 {τ : gM} {w h k : Nat} (h0 : τ 125 0 = nI w) (h1 : τ 125 1 = nI h) (w1 : 1 ≤ w) (w6 : w ≤ 6) (h1' : 1 ≤ h) (h6 : h ≤ 6) (hk : k < w * h) : fX9_behind τ 124 (nI k) 3 = some (oI (bh w h k 3)) := by
  have hwh : w * h ≤ 36 := wh_le w6 h6
  have hm : k % w < w := Nat.mod_lt _ w1
  have hdv : k / w < h := Nat.div_lt_of_lt_mul hk
  have hdm := Nat.div_add_mod k w
  have e0 : τ (124 + 1) (0 : Int32).toNatClampNeg = nI w := by rw [cl_0]; exact h0
  have e1 : τ (124 + 1) (1 : Int32).toNatClampNeg = nI h := by rw [cl_1]; exact h1
  have hz : ¬ nI w = 0 := nI_ne0 w1 (by omega)
  have hd : nI k / nI w = nI (k / w) := pk_div (by omega) w1 (by omega)
  have hr : nI k - nI (k / w) * nI w = nI (k % w) := by rw [← hd]; exact pk_rem (by omega) w1 (by omega)
  have a1 : nI w - 1 = nI (w - 1) := nIs1 w1
  have a2 : nI h - 1 = nI (h - 1) := nIs1 h1'
  unfold fX9_behind
  rw [if_pos k10, e0, if_pos hz, if_neg n31, if_pos rfl, gl_e, if_pos k10, if_pos hz, if_neg n32, if_neg n30, gl_e, if_pos k10, hd, hr, a1, Int32.add_zero, bh_3]
  by_cases c : k % w = 0
  · rw [c, yl0, m1_0, in9m, if_pos rfl]
    rfl
  · rw [show nI (k % w) + -1 = nI (k % w - 1) by rw [show k % w = (k % w - 1) + 1 by omega, pk_m1]; rfl, in9t (by omega) (by omega), Option.bind_some, if_neg n10, if_pos k11, e1, a2, in9t (by omega) (by omega), Option.bind_some, if_neg n10, if_pos k10, if_neg c, pk_mul, nIa]
    rw [Nat.mul_comm, show w * (k / w) + (k % w - 1) = k - 1 by omega]
    rfl
theorem beh9 {τ : gM} {w h k e : Nat} (h0 : τ 125 0 = nI w) (h1 : τ 125 1 = nI h) (w1 : 1 ≤ w) (w6 : w ≤ 6) (h1' : 1 ≤ h) (h6 : h ≤ 6) (hk : k < w * h) (he : e < 4) : fX9_behind τ 124 (nI k) (nI e) = some (oI (bh w h k e)) := by
  rcases (show e = 0 ∨ e = 1 ∨ e = 2 ∨ e = 3 by omega) with rfl | rfl | rfl | rfl
  · exact beh9_0 h0 h1 w1 w6 h1' h6 hk
  · exact beh9_1 h0 h1 w1 w6 h1' h6 hk
  · exact beh9_2 h0 h1 w1 w6 h1' h6 hk
  · exact beh9_3 h0 h1 w1 w6 h1' h6 hk
theorem sca9L {τ : gM} {N k : Nat} (h2 : τ 125 2 = nI N) (hN : N ≤ 12) : ∀ (d i n : Nat), i + d = N → d < n → fX9_scrapAt_2 τ 124 (nI k) n (nI i) = some (oI (scF (τ 125) k d i)) := by
  have e2 : τ (124 + 1) (2 : Int32).toNatClampNeg = nI N := h2
  intro d
  induction d with
  | zero =>
    intro i n hi hn
    obtain ⟨m, rfl⟩ : ∃ m, n = m + 1 := ⟨n - 1, by omega⟩
    unfold fX9_scrapAt_2
    rw [if_pos k12, e2, if_pos (nI_le (by omega) (by omega))]
    rfl
  | succ d ih =>
    intro i n hi hn
    obtain ⟨m, rfl⟩ : ∃ m, n = m + 1 := ⟨n - 1, by omega⟩
    have e : (123 : Int32) + nI i = nI (123 + i) := nIa 123 i
    unfold fX9_scrapAt_2 scF
    rw [if_pos k12, e2, if_neg (nI_ge (by omega) (by omega)), e, if_pos (nI_in (by show 123 + i < 135; omega) (by decide)), nI_cl (by omega)]
    by_cases c : τ (124 + 1) (123 + i) = nI k
    · rw [if_pos c, if_pos c]
      rfl
    · rw [if_neg c, if_neg c]
      unfold gl
      rw [nIa1]
      exact ih (i + 1) m (by omega) (by omega)
theorem sca9 {τ : gM} {N k : Nat} (h2 : τ 125 2 = nI N) (hN : N ≤ 12) : fX9_scrapAt τ 124 (nI k) = some (oI (sc (τ 125) N k)) := sca9L h2 hN N 0 gF (by omega) (by unfold gF; omega)
