/-! THE BEST PLACE, PURELY, AND ON THE CLASS'S SIDE -/
def up2 (g : Nat → Int32 × Int32 → Int32 × Int32) : Nat → Nat → Int32 × Int32 → Int32 × Int32
  | 0, _, p => p
  | d + 1, i, p => up2 g d (i + 1) (g i p)
def hB (f : Nat → Int32) (w h n s k o : Nat) (p : Int32 × Int32) : Int32 × Int32 := if nI (nSm f w h n s k) ≤ p.2 then p else if nFlt f w h n s k o = 0 then (nI (10 * k + o), nI (nSm f w h n s k)) else p
def hP (f : Nat → Int32) (w h n s k : Nat) (p : Int32 × Int32) : Int32 × Int32 := if sc f n k = none then up2 (hB f w h n s k) 8 0 p else p
def bsP (f : Nat → Int32) (w h n s : Nat) : Int32 := (up2 (hP f w h n s) (w * h) 0 (-1, -1)).1
theorem hB_id {f : Nat → Int32} {w h n s k : Nat} {p : Int32 × Int32} (hp : nI (nSm f w h n s k) ≤ p.2) : ∀ d i, up2 (hB f w h n s k) d i p = p := by
  intro d
  induction d with
  | zero => intro i; rfl
  | succ d ih =>
    intro i
    show up2 _ d (i + 1) (hB f w h n s k i p) = p
    rw [show hB f w h n s k i p = p from if_pos hp]
    exact ih (i + 1)
theorem bst8L {σ : gM} {t w h n s k : Nat} {f : Nat → Int32} (D : DDo σ t f w h n) (hs : s < n) (hk : k < w * h) (K : Int32 → Int32 → Int32 → Option Int32) : ∀ (d i m : Nat) (p : Int32 × Int32), i + d = 8 → d < m → fX0_bestPlace_48 K σ t (nI s) m p.1 p.2 (nI k) (nI (nSm f w h n s k)) (nI i) = K (up2 (hB f w h n s k) d i p).1 (up2 (hB f w h n s k) d i p).2 (nI (k + 1)) := by
  intro d
  induction d with
  | zero =>
    intro i m p hi hm
    obtain ⟨m, rfl⟩ : ∃ q, m = q + 1 := ⟨m - 1, by omega⟩
    obtain rfl : i = 8 := by omega
    rw [fX0_bestPlace_48, if_pos i8e, gl_e, nIa1]
    rfl
  | succ d ih =>
    intro i m p hi hm
    obtain ⟨m, rfl⟩ : ∃ q, m = q + 1 := ⟨m - 1, by omega⟩
    rw [fX0_bestPlace_48, if_neg (i8 (by omega))]
    by_cases c : nI (nSm f w h n s k) ≤ p.2
    · rw [if_pos c, gl_e, nIa1, hB_id c]
    · rw [if_neg c, clie8 D hs hk (by omega), Option.bind_some]
      simp only [gl_e, nIa1]
      rw [show (10 : Int32) = nI 10 from rfl, pk_mul, nIa, Nat.mul_comm k 10]
      show _ = K (up2 (hB f w h n s k) d (i + 1) (hB f w h n s k i p)).1 (up2 (hB f w h n s k) d (i + 1) (hB f w h n s k i p)).2 (nI (k + 1))
      rw [show hB f w h n s k i p = if nFlt f w h n s k i = 0 then (nI (10 * k + i), nI (nSm f w h n s k)) else p from if_neg c]
      by_cases c2 : nFlt f w h n s k i = 0
      · rw [if_pos c2, if_pos c2, if_neg n10]
        exact ih (i + 1) m (nI (10 * k + i), nI (nSm f w h n s k)) (by omega) (by omega)
      · rw [if_neg c2, if_neg c2, if_pos rfl]
        exact ih (i + 1) m p (by omega) (by omega)
