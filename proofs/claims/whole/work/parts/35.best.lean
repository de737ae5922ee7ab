/-! THE BEST PLACE: the outer loops -/
theorem hB_ge {f : Nat → Int32} {w h n s k : Nat} : ∀ d i (p : Int32 × Int32), (-1 : Int32) ≤ p.2 → (-1 : Int32) ≤ (up2 (hB f w h n s k) d i p).2 := by
  intro d
  induction d with
  | zero => intro i p hp; exact hp
  | succ d ih =>
    intro i p hp
    refine ih (i + 1) (hB f w h n s k i p) ?_
    unfold hB
    split
    · exact hp
    · split
      · have := nSm_le f w h n s k
        refine Int32.le_iff_toInt_le.mpr ?_
        show (-1 : Int) ≤ (nI (nSm f w h n s k)).toInt
        rw [nI_toInt (by omega)]
        omega
      · exact hp
theorem hP_ge {f : Nat → Int32} {w h n s k : Nat} (p : Int32 × Int32) (hp : (-1 : Int32) ≤ p.2) : (-1 : Int32) ≤ (hP f w h n s k p).2 := by
  unfold hP
  split
  · exact hB_ge 8 0 p hp
  · exact hp
theorem bso8L {σ : gM} {t w h n s : Nat} {f : Nat → Int32} (D : DDo σ t f w h n) (hs : s < n) : ∀ (d i m : Nat) (p : Int32 × Int32), i + d = w * h → d < m → (-1 : Int32) ≤ p.2 → fX0_bestPlace_7 σ t (nI s) m p.1 p.2 (nI i) = some (up2 (hP f w h n s) d i p).1 := by
  obtain ⟨w1, w6, h1, h6, n12⟩ := D.2.1.2.1
  have hwh := wh_le w6 h6
  intro d
  induction d with
  | zero =>
    intro i m p hi hm hp
    obtain ⟨m, rfl⟩ : ∃ q, m = q + 1 := ⟨m - 1, by omega⟩
    rw [fX0_bestPlace_7, pls8 D, Option.bind_some, if_pos (nI_le (by omega) (by omega))]
    rfl
  | succ d ih =>
    intro i m p hi hm hp
    obtain ⟨m, rfl⟩ : ∃ q, m = q + 1 := ⟨m - 1, by omega⟩
    rw [fX0_bestPlace_7, pls8 D, Option.bind_some, if_neg (nI_ge (by omega) (by omega)), sca8s D (by omega), Option.bind_some]
    show _ = some (up2 (hP f w h n s) d (i + 1) (hP f w h n s i p)).1
    have hq := hP_ge (f := f) (w := w) (h := h) (n := n) (s := s) (k := i) p hp
    cases hv : sc f n i with
    | none =>
      rw [if_pos oI_n, sea8 D hs (by omega), Option.bind_some]
      have e : hP f w h n s i p = up2 (hB f w h n s i) 8 0 p := if_pos hv
      refine (bst8L D hs (by omega) _ 8 0 gF p rfl (gF_lt (by decide))).trans ?_
      rw [e] at hq ⊢
      exact ih (i + 1) m _ (by omega) (by omega) hq
    | some v =>
      have hvn := (sc_lt hv).1
      have e : hP f w h n s i p = p := if_neg (fun q => by rw [hv] at q; cases q)
      obtain ⟨g, hg⟩ := gF4
      rw [oI_s, if_neg (m1_ne (by omega)), hg, fX0_bestPlace_48, if_neg (show ¬ (8 : Int32) ≤ 0 by decide), if_pos hp, gl_e, nIa1, e]
      exact ih (i + 1) m p (by omega) (by omega) hp
theorem bsp8 {σ : gM} {t w h n s : Nat} {f : Nat → Int32} (D : DDo σ t f w h n) (hs : s < n) : fX0_bestPlace σ t (nI s) = some (bsP f w h n s) := by
  obtain ⟨w1, w6, h1, h6, n12⟩ := D.2.1.2.1
  have hwh := wh_le w6 h6
  exact bso8L D hs (w * h) 0 gF (-1, -1) (by omega) (gF_lt (by omega)) (by decide)
