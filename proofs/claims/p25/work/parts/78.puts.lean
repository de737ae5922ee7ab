/-! p25: A SCRAP THAT IS LAID FITS AS IT WAS SEEN BEFORE -/
variable {w h n s : Nat} {f : Nat → Int32}
theorem bh_ne {p e q : Nat} (w1 : 1 ≤ w) (hb : bh w h p e = some q) : q ≠ p := by
  unfold bh at hb
  split at hb
  · split at hb
    · cases hb
    · cases hb
      omega
  · split at hb
    · split at hb
      · cases hb
        omega
      · cases hb
    · split at hb
      · split at hb
        · cases hb
          omega
        · cases hb
      · split at hb
        · cases hb
        · rename_i c
          cases hb
          have : p ≠ 0 := fun q => c (by rw [q]; exact Nat.zero_mod w)
          omega
theorem tP_put {p o : Int32} {s t : Nat} (ht : t < 12) (o' e : Nat) : tP (pF f s p o) t o' e = tP f t o' e := tP_cong pF_lo ht o' e
theorem tL_put {p o : Int32} {s t : Nat} (ht : t < 12) (o' e : Nat) : tL (pF f s p o) t o' e = tL f t o' e := tL_cong pF_lo ht o' e
theorem rs_put {p o e : Nat} (O : OKf f w h n) (O' : OKf (pF f s (nI p) (nI o)) w h n) (hs : s < n) (hp : p < w * h) (c1 : f (123 + s) = -1) : rs (pF f s (nI p) (nI o)) w h n s p o e = rs f w h n s p o e := by
  obtain ⟨w1, w6, h1, h6, n12⟩ := O.2.1
  have hwh := wh_le w6 h6
  unfold rs
  cases hb : bh w h p e with
  | none => rw [rsP_n, rsP_n, tP_put (by omega)]
  | some q =>
    have hq := bh_lt w1 hp hb
    have hn := bh_ne w1 hb
    have e1 : sc (pF f s (nI p) (nI o)) n q = sc f n q := by
      rw [sc_put O O' hs (by omega), if_neg (fun x => hn ((nI_eq (by omega) (by omega)).mp x).symm), if_neg (fun x => m1_ne' (show q < 2 ^ 31 by omega) (c1.symm.trans x))]
    rw [rsP_s, rsP_s, e1]
    cases hv : sc f n q with
    | none => rfl
    | some v =>
      have hvn := sc_lt hv
      have hvs : v ≠ s := fun x => by
        rw [x] at hvn
        exact m1_ne' (show q < 2 ^ 31 by omega) (c1.symm.trans hvn.2)
      have e2 : ovN (pF f s (nI p) (nI o)) v = ovN f v := by
        unfold ovN
        rw [pF_ne (by omega) (by omega)]
      rw [rsQ_s, rsQ_s, if_neg hvs, if_neg hvs]
      unfold vd
      rw [e2, tP_put (by omega), tP_put (by omega), tL_put (by omega), tL_put (by omega)]
theorem nFlt_put {p o : Nat} (O : OKf f w h n) (O' : OKf (pF f s (nI p) (nI o)) w h n) (hs : s < n) (hp : p < w * h) (c1 : f (123 + s) = -1) : nFlt (pF f s (nI p) (nI o)) w h n s p o = nFlt f w h n s p o := by
  rw [nFlt_s4, nFlt_s4]
  unfold s4
  dsimp only
  rw [rs_put O O' hs hp c1, rs_put O O' hs hp c1, rs_put O O' hs hp c1, rs_put O O' hs hp c1]
theorem nWay_sm (f : Nat → Int32) (w h n s p : Nat) : nWay f w h n s p = sm (fun o => if nFlt f w h n s p o = 0 then 1 else 0) 8 := by
  unfold nWay
  rw [up_sm (g := fun o => if nFlt f w h n s p o = 0 then 1 else 0) (G := gWay f w h n s p) (fun i a => by unfold gWay; split <;> rfl), Nat.zero_add]
theorem sm_ge {g : Nat → Nat} {i : Nat} : ∀ m, i < m → g i ≤ sm g m := by
  intro m
  induction m with
  | zero => intro hi; omega
  | succ m ih =>
    intro hi
    rw [sm_s]
    by_cases c : i = m
    · rw [c]; omega
    · have := ih (by omega); omega
theorem nWay_bd {p o : Nat} (ho : o < 8) (c : nFlt f w h n s p o = 0) : 0 < nWay f w h n s p ∧ nWay f w h n s p ≤ 8 := by
  rw [nWay_sm]
  constructor
  · have := sm_ge (g := fun o => if nFlt f w h n s p o = 0 then 1 else 0) 8 ho
    rw [if_pos c] at this
    omega
  · have h1 : sm (fun o => if nFlt f w h n s p o = 0 then 1 else 0) 8 ≤ sm (fun _ => 1) 8 := sm_le 8 (fun i _ => by split <;> omega)
    exact h1
theorem pF_3 {p a b : Int32} : pF (pF (pF f s p a) s p b) s p a = pF f s p a := by
  funext j
  by_cases c1 : j = 111 + s
  · rw [c1, pF_o, pF_o]
  · by_cases c2 : j = 123 + s
    · rw [c2, pF_p, pF_p]
    · rw [pF_ne c2 c1, pF_ne c2 c1, pF_ne c2 c1]
theorem sm_sh {g : Nat → Nat} : ∀ n, sm g (n + 1) = g 0 + sm (fun i => g (i + 1)) n := by
  intro n
  induction n with
  | zero => rw [sm_s, sm_0, sm_0]; omega
  | succ n ih => rw [sm_s, ih, sm_s]; omega
/-- how many lie when the first scrap is gone -/
theorem nLy_rem (n12 : n ≤ 12) (hn : 0 < n) : nLy f n = (if f 123 = -1 then 0 else 1) + nLy (zF f n 0) (n - 1) := by
  obtain ⟨m, rfl⟩ : ∃ m, n = m + 1 := ⟨n - 1, by omega⟩
  rw [nLy_sm, nLy_sm, sm_sh]
  refine congrArg (fun x => (if f 123 = -1 then 0 else 1) + x) (sm_cong m (fun t ht => ?_))
  have e := (zF_t (f := f) (s := 0) n12 (show t < m + 1 - 1 by omega)).2.2.2
  have e2 : shf 0 t = t + 1 := if_neg (by omega)
  rw [e, e2]
