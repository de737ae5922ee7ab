section
/-! TYPING -/
theorem DDo.mv {σ σ' : gM} {d w h n : Nat} {f : Nat → Int32} (D : DDo σ d f w h n) (A : ∀ k, d + 1 ≤ k → k ≤ d + 14 → σ' k = σ k) : DDo σ' d f w h n := by
  unfold DDo DDc
  rw [A (d + 1) (by omega) (by omega), A (d + 8) (by omega) (by omega), A (d + 3) (by omega) (by omega), A (d + 5) (by omega) (by omega), A (d + 7) (by omega) (by omega), A (d + 10) (by omega) (by omega), A (d + 12) (by omega) (by omega), A (d + 14) (by omega) (by omega)]
  exact D
theorem inC (x : Int32) : inI x 32 126 = 0 ∨ ∃ c, 32 ≤ c ∧ c ≤ 126 ∧ x = nI c ∧ inI x 32 126 = 1 := by
  unfold inI
  by_cases c1 : x < 32
  · exact Or.inl (if_pos c1)
  · by_cases c2 : 126 < x
    · rw [if_neg c1, if_pos c2]; exact Or.inl rfl
    · have e1 : ¬ x.toInt < 32 := fun q => c1 (Int32.lt_iff_toInt_lt.mpr q)
      have e2 : ¬ 126 < x.toInt := fun q => c2 (Int32.lt_iff_toInt_lt.mpr q)
      obtain ⟨j, hj, rfl⟩ := nI_of (x := x) (fun q => by have : x.toInt < 0 := Int32.lt_iff_toInt_lt.mp q; omega)
      rw [nI_toInt hj] at e1 e2
      rw [if_neg c1, if_neg c2]
      exact Or.inr ⟨j, by omega, by omega, rfl, rfl⟩
end

section
/-! SEAMS AT A PLACE -/
def gSm (f : Nat → Int32) (w h n s k e a : Nat) : Nat := if nb f w h n s k e = none then a else a + 1
def nSm (f : Nat → Int32) (w h n s k : Nat) : Nat := up (gSm f w h n s k) 4 0 0
theorem gSm_le (f : Nat → Int32) (w h n s k : Nat) : ∀ i a, gSm f w h n s k i a ≤ a + 1 := by
  intro i a
  unfold gSm
  split <;> omega
theorem nSm_le (f : Nat → Int32) (w h n s k : Nat) : nSm f w h n s k ≤ 4 := by
  have := up_le (gSm_le f w h n s k) 4 0 0
  unfold nSm
  omega
theorem nb_lt {f : Nat → Int32} {w h n s k e v : Nat} (hv : nb f w h n s k e = some v) : v < n ∧ v ≠ s := by
  unfold nb at hv
  cases hb : bh w h k e with
  | none => rw [hb] at hv; cases hv
  | some q =>
    rw [hb, scO_s] at hv
    cases hc : sc f n q with
    | none => rw [hc] at hv; cases hv
    | some z =>
      rw [hc, nbQ_s] at hv
      split at hv
      · cases hv
      · cases hv
        exact ⟨(sc_lt hc).1, by assumption⟩
theorem sea8L {σ : gM} {t w h n s k : Nat} {f : Nat → Int32} (D : DDo σ t f w h n) (hs : s < n) (hk : k < w * h) : ∀ (d i m a : Nat), i + d = 4 → d < m → fX0_seamsAt_5 σ t (nI s) (nI k) m (nI a) (nI i) = some (nI (up (gSm f w h n s k) d i a)) := by
  have n12 := D.2.1.2.1.2.2.2.2
  intro d
  induction d with
  | zero =>
    intro i m a hi hm
    obtain ⟨m, rfl⟩ : ∃ q, m = q + 1 := ⟨m - 1, by omega⟩
    obtain rfl : i = 4 := by omega
    rw [fX0_seamsAt_5, if_pos i4e, up_0]
  | succ d ih =>
    intro i m a hi hm
    obtain ⟨m, rfl⟩ : ∃ q, m = q + 1 := ⟨m - 1, by omega⟩
    rw [fX0_seamsAt_5, if_neg (i4 (by omega)), nei8 D hs hk (by omega), Option.bind_some, up_s]
    simp only [gl_e, nIa1]
    unfold gSm
    cases hv : nb f w h n s k i with
    | none =>
      rw [if_pos oI_n, if_pos rfl]
      exact ih (i + 1) m a (by omega) (by omega)
    | some v =>
      have hvn := (nb_lt hv).1
      rw [oI_s, if_neg (m1_ne (by omega)), if_neg (fun q => by cases q)]
      exact ih (i + 1) m (a + 1) (by omega) (by omega)
theorem sea8 {σ : gM} {t w h n s k : Nat} {f : Nat → Int32} (D : DDo σ t f w h n) (hs : s < n) (hk : k < w * h) : fX0_seamsAt σ t (nI s) (nI k) = some (nI (nSm f w h n s k)) := sea8L D hs hk 4 0 gF 0 rfl (gF_lt (by decide))
end

section
/-! COUNTING THE EDGES OF A SCRAP THAT LIES -/
theorem vop8 {σ : gM} {t w h n s k e : Nat} {f : Nat → Int32} (D : DDo σ t f w h n) (hs : s < n) (hk : k < w * h) (hp : f (123 + s) = nI k) (he : e < 4) : fX0_verdictOnPage σ t (nI s) (nI e) = some (rs f w h n s k (ovN f s) e) := by
  obtain ⟨w1, w6, h1, h6, n12⟩ := D.2.1.2.1
  have hwh := wh_le w6 h6
  unfold fX0_verdictOnPage
  rw [plc8 D hs, Option.bind_some, hp, if_neg (m1_ne (by omega)), ori8 D hs, Option.bind_some, ver8 D hs hk (D.2.1.ov hs).1 he, Option.bind_some]
theorem cft8L {σ : gM} {t w h n s k : Nat} {f : Nat → Int32} (D : DDo σ t f w h n) (hs : s < n) (hk : k < w * h) (hp : f (123 + s) = nI k) : ∀ (d i m a : Nat), i + d = 4 → d < m → fX0_countFits_4 σ t (nI s) m (nI a) (nI i) = some (nI (up (gFit f w h n s k (ovN f s)) d i a)) := by
  intro d
  induction d with
  | zero =>
    intro i m a hi hm
    obtain ⟨m, rfl⟩ : ∃ q, m = q + 1 := ⟨m - 1, by omega⟩
    obtain rfl : i = 4 := by omega
    rw [fX0_countFits_4, if_pos i4e, up_0]
  | succ d ih =>
    intro i m a hi hm
    obtain ⟨m, rfl⟩ : ∃ q, m = q + 1 := ⟨m - 1, by omega⟩
    rw [fX0_countFits_4, if_neg (i4 (by omega)), vop8 D hs hk hp (by omega), Option.bind_some, up_s]
    simp only [gl_e, nIa1]
    unfold gFit
    by_cases c : rs f w h n s k (ovN f s) i = 0
    · rw [if_pos c, if_neg (by rw [c]; decide), if_pos c]
      exact ih (i + 1) m (a + 1) (by omega) (by omega)
    · rw [if_neg c, if_neg c, ite_self]
      exact ih (i + 1) m a (by omega) (by omega)
theorem cft8 {σ : gM} {t w h n s k : Nat} {f : Nat → Int32} (D : DDo σ t f w h n) (hs : s < n) (hk : k < w * h) (hp : f (123 + s) = nI k) : fX0_countFits σ t (nI s) = some (nI (nFit f w h n s k (ovN f s))) := cft8L D hs hk hp 4 0 gF 0 rfl (gF_lt (by decide))
theorem cfl8L {σ : gM} {t w h n s k : Nat} {f : Nat → Int32} (D : DDo σ t f w h n) (hs : s < n) (hk : k < w * h) (hp : f (123 + s) = nI k) : ∀ (d i m a : Nat), i + d = 4 → d < m → fX0_countFaults_4 σ t (nI s) m (nI a) (nI i) = some (nI (up (gFlt f w h n s k (ovN f s)) d i a)) := by
  intro d
  induction d with
  | zero =>
    intro i m a hi hm
    obtain ⟨m, rfl⟩ : ∃ q, m = q + 1 := ⟨m - 1, by omega⟩
    obtain rfl : i = 4 := by omega
    rw [fX0_countFaults_4, if_pos i4e, up_0]
  | succ d ih =>
    intro i m a hi hm
    obtain ⟨m, rfl⟩ : ∃ q, m = q + 1 := ⟨m - 1, by omega⟩
    rw [fX0_countFaults_4, if_neg (i4 (by omega)), vop8 D hs hk hp (by omega), Option.bind_some, up_s]
    simp only [gl_e, nIa1]
    unfold gFlt
    by_cases c : rs f w h n s k (ovN f s) i ≤ 0
    · rw [if_pos c]
      rcases rs_le.mp c with q | q
      · rw [if_pos q]
        exact ih (i + 1) m a (by omega) (by omega)
      · rw [if_neg (by rw [q]; decide), if_pos q]
        exact ih (i + 1) m a (by omega) (by omega)
    · rw [if_neg c, if_neg (fun q => c (rs_le.mpr (Or.inl q))), if_neg (fun q => c (rs_le.mpr (Or.inr q)))]
      exact ih (i + 1) m (a + 1) (by omega) (by omega)
theorem cfl8 {σ : gM} {t w h n s k : Nat} {f : Nat → Int32} (D : DDo σ t f w h n) (hs : s < n) (hk : k < w * h) (hp : f (123 + s) = nI k) : fX0_countFaults σ t (nI s) = some (nI (nFlt f w h n s k (ovN f s))) := cfl8L D hs hk hp 4 0 gF 0 rfl (gF_lt (by decide))
end

section
/-! THE BEST PLACE, PURELY, AND ON THE CLASS'S SIDE -/
def up2 (g : Nat → Int32 × Int32 → Int32 × Int32) : Nat → Nat → Int32 × Int32 → Int32 × Int32
  | 0, _, p => p
  | d + 1, i, p => up2 g d (i + 1) (g i p)
def hB (f : Nat → Int32) (w h n s k o : Nat) (p : Int32 × Int32) : Int32 × Int32 := if nI (nSm f w h n s k) ≤ p.2 then p else if nFlt f w h n s k o = 0 then (nI (10 * k + o), nI (nSm f w h n s k)) else p
def hP (f : Nat → Int32) (w h n s k : Nat) (p : Int32 × Int32) : Int32 × Int32 := if sc f n k = none then up2 (hB f w h n s k) 8 0 p else p
def bsP (f : Nat → Int32) (w h n s : Nat) : Int32 := (up2 (hP f w h n s) (w * h) 0 (-1, -1)).1
theorem hB_id {f : Nat → Int32} {w h n s k : Nat} {p : Int32 × Int32} (hp : nI (nSm f w h n s k) ≤ p.2) : ∀ d i, up2 (hB f w h n s k) d i p = p := by
  intro d
  induction d with
  | zero => intro i; rfl
  | succ d ih =>
    intro i
    show up2 _ d (i + 1) (hB f w h n s k i p) = p
    rw [show hB f w h n s k i p = p from if_pos hp]
    exact ih (i + 1)
theorem bst8L {σ : gM} {t w h n s k : Nat} {f : Nat → Int32} (D : DDo σ t f w h n) (hs : s < n) (hk : k < w * h) (K : Int32 → Int32 → Int32 → Option Int32) : ∀ (d i m : Nat) (p : Int32 × Int32), i + d = 8 → d < m → fX0_bestPlace_48 K σ t (nI s) m p.1 p.2 (nI k) (nI (nSm f w h n s k)) (nI i) = K (up2 (hB f w h n s k) d i p).1 (up2 (hB f w h n s k) d i p).2 (nI (k + 1)) := by
  intro d
  induction d with
  | zero =>
    intro i m p hi hm
    obtain ⟨m, rfl⟩ : ∃ q, m = q + 1 := ⟨m - 1, by omega⟩
    obtain rfl : i = 8 := by omega
    rw [fX0_bestPlace_48, if_pos i8e, gl_e, nIa1]
    rfl
  | succ d ih =>
    intro i m p hi hm
    obtain ⟨m, rfl⟩ : ∃ q, m = q + 1 := ⟨m - 1, by omega⟩
    rw [fX0_bestPlace_48, if_neg (i8 (by omega))]
    by_cases c : nI (nSm f w h n s k) ≤ p.2
    · rw [if_pos c, gl_e, nIa1, hB_id c]
    · rw [if_neg c, clie8 D hs hk (by omega), Option.bind_some]
      simp only [gl_e, nIa1]
      rw [show (10 : Int32) = nI 10 from rfl, pk_mul, nIa, Nat.mul_comm k 10]
      show _ = K (up2 (hB f w h n s k) d (i + 1) (hB f w h n s k i p)).1 (up2 (hB f w h n s k) d (i + 1) (hB f w h n s k i p)).2 (nI (k + 1))
      rw [show hB f w h n s k i p = if nFlt f w h n s k i = 0 then (nI (10 * k + i), nI (nSm f w h n s k)) else p from if_neg c]
      by_cases c2 : nFlt f w h n s k i = 0
      · rw [if_pos c2, if_pos c2, if_neg n10]
        exact ih (i + 1) m (nI (10 * k + i), nI (nSm f w h n s k)) (by omega) (by omega)
      · rw [if_neg c2, if_neg c2, if_pos rfl]
        exact ih (i + 1) m p (by omega) (by omega)
end

section
/-! THE BEST PLACE: the outer loops -/
theorem hB_ge {f : Nat → Int32} {w h n s k : Nat} : ∀ d i (p : Int32 × Int32), (-1 : Int32) ≤ p.2 → (-1 : Int32) ≤ (up2 (hB f w h n s k) d i p).2 := by
  intro d
  induction d with
  | zero => intro i p hp; exact hp
  | succ d ih =>
    intro i p hp
    refine ih (i + 1) (hB f w h n s k i p) ?_
    unfold hB
    split
    · exact hp
    · split
      · have := nSm_le f w h n s k
        refine Int32.le_iff_toInt_le.mpr ?_
        show (-1 : Int) ≤ (nI (nSm f w h n s k)).toInt
        rw [nI_toInt (by omega)]
        omega
      · exact hp
theorem hP_ge {f : Nat → Int32} {w h n s k : Nat} (p : Int32 × Int32) (hp : (-1 : Int32) ≤ p.2) : (-1 : Int32) ≤ (hP f w h n s k p).2 := by
  unfold hP
  split
  · exact hB_ge 8 0 p hp
  · exact hp
theorem bso8L {σ : gM} {t w h n s : Nat} {f : Nat → Int32} (D : DDo σ t f w h n) (hs : s < n) : ∀ (d i m : Nat) (p : Int32 × Int32), i + d = w * h → d < m → (-1 : Int32) ≤ p.2 → fX0_bestPlace_7 σ t (nI s) m p.1 p.2 (nI i) = some (up2 (hP f w h n s) d i p).1 := by
  obtain ⟨w1, w6, h1, h6, n12⟩ := D.2.1.2.1
  have hwh := wh_le w6 h6
  intro d
  induction d with
  | zero =>
    intro i m p hi hm hp
    obtain ⟨m, rfl⟩ : ∃ q, m = q + 1 := ⟨m - 1, by omega⟩
    rw [fX0_bestPlace_7, pls8 D, Option.bind_some, if_pos (nI_le (by omega) (by omega))]
    rfl
  | succ d ih =>
    intro i m p hi hm hp
    obtain ⟨m, rfl⟩ : ∃ q, m = q + 1 := ⟨m - 1, by omega⟩
    rw [fX0_bestPlace_7, pls8 D, Option.bind_some, if_neg (nI_ge (by omega) (by omega)), sca8s D (by omega), Option.bind_some]
    show _ = some (up2 (hP f w h n s) d (i + 1) (hP f w h n s i p)).1
    have hq := hP_ge (f := f) (w := w) (h := h) (n := n) (s := s) (k := i) p hp
    cases hv : sc f n i with
    | none =>
      rw [if_pos oI_n, sea8 D hs (by omega), Option.bind_some]
      have e : hP f w h n s i p = up2 (hB f w h n s i) 8 0 p := if_pos hv
      refine (bst8L D hs (by omega) _ 8 0 gF p rfl (gF_lt (by decide))).trans ?_
      rw [e] at hq ⊢
      exact ih (i + 1) m _ (by omega) (by omega) hq
    | some v =>
      have hvn := (sc_lt hv).1
      have e : hP f w h n s i p = p := if_neg (fun q => by rw [hv] at q; cases q)
      obtain ⟨g, hg⟩ := gF4
      rw [oI_s, if_neg (m1_ne (by omega)), hg, fX0_bestPlace_48, if_neg (show ¬ (8 : Int32) ≤ 0 by decide), if_pos hp, gl_e, nIa1, e]
      exact ih (i + 1) m p (by omega) (by omega) hp
theorem bsp8 {σ : gM} {t w h n s : Nat} {f : Nat → Int32} (D : DDo σ t f w h n) (hs : s < n) : fX0_bestPlace σ t (nI s) = some (bsP f w h n s) := by
  obtain ⟨w1, w6, h1, h6, n12⟩ := D.2.1.2.1
  have hwh := wh_le w6 h6
  exact bso8L D hs (w * h) 0 gF (-1, -1) (by omega) (gF_lt (by omega)) (by decide)
end

section
/-! ONE DESK BECOMES A COPY OF ANOTHER -/
theorem rcp {σ : gM} {t o N : Nat} (h1 : gln (t + 1) = N) (h2 : gln (o + 1) = N) : ∃ σ', fX5_copy σ t o = some σ' ∧ (∀ k, k ≠ t + 1 → σ' k = σ k) ∧ ∀ j, j < N → σ' (t + 1) j = σ (o + 1) j := by
  have hN : N < 1000 := by rw [← h1]; exact gln_lt _
  refine ⟨gset σ (t + 1) (va_cpy (σ (o + 1)) (σ (t + 1)) 0 0 N), ?_, fun k hk => gset_ne hk, fun j hj => ?_⟩
  · unfold fX5_copy
    rw [gl_e, h1, h2, ite_self, cl_0, nI_cl (by omega), if_pos ⟨by decide, by decide, nI_pos (by omega), by omega, by omega⟩, gl_e]
  · rw [gset_at, pk_cpy_in (by omega) (by omega)]
    rw [show 0 + (j - 0) = j by omega]
theorem dcp {σ : gM} {t o : Nat} (gt : gD t) (go : gD o) (hd : t + 15 ≤ o ∨ o + 15 ≤ t) : ∃ σ', fX0_copy σ t o = some σ' ∧ (∀ k, (k ≤ t ∨ t + 14 < k) → σ' k = σ k) ∧ ∀ {f : Nat → Int32} {w h n : Nat}, DDo σ o f w h n → DDo σ' t f w h n := by
  obtain ⟨s1, a1, b1, c1⟩ := rcp (σ := σ) (t := t + 1 + 1) (o := o + 1 + 1) gt.1 go.1
  obtain ⟨s2, a2, b2, c2⟩ := rcp (σ := s1) (t := t + 1 + 3) (o := o + 1 + 3) gt.2.1 go.2.1
  obtain ⟨s3, a3, b3, c3⟩ := rcp (σ := s2) (t := t + 1 + 5) (o := o + 1 + 5) gt.2.2.1 go.2.2.1
  have b4 : ∀ k, k ≠ t + 1 → gset s3 (t + 1) (upd (s3 (t + 1)) 3 (s3 (o + 1) 3)) k = s3 k := fun k hk => gset_ne hk
  have c4 : gset s3 (t + 1) (upd (s3 (t + 1)) 3 (s3 (o + 1) 3)) (t + 1) 3 = s3 (o + 1) 3 := by rw [gset_at]; exact pk_us
  generalize hs4 : gset s3 (t + 1) (upd (s3 (t + 1)) 3 (s3 (o + 1) 3)) = s4 at b4 c4
  have b5 : ∀ k, k ≠ t + 8 → gset s4 (t + 8) (upd (s4 (t + 8)) 3 (s4 (o + 8) 3)) k = s4 k := fun k hk => gset_ne hk
  have c5 : gset s4 (t + 8) (upd (s4 (t + 8)) 3 (s4 (o + 8) 3)) (t + 8) 3 = s4 (o + 8) 3 := by rw [gset_at]; exact pk_us
  generalize hs5 : gset s4 (t + 8) (upd (s4 (t + 8)) 3 (s4 (o + 8) 3)) = s5 at b5 c5
  have b6 : ∀ k, k ≠ t + 8 → gset s5 (t + 8) (upd (s5 (t + 8)) 4 (s5 (o + 8) 4)) k = s5 k := fun k hk => gset_ne hk
  have c6 : gset s5 (t + 8) (upd (s5 (t + 8)) 4 (s5 (o + 8) 4)) (t + 8) 4 = s5 (o + 8) 4 := by rw [gset_at]; exact pk_us
  have c6' : gset s5 (t + 8) (upd (s5 (t + 8)) 4 (s5 (o + 8) 4)) (t + 8) 3 = s5 (t + 8) 3 := by rw [gset_at]; exact pk_un (by decide)
  generalize hs6 : gset s5 (t + 8) (upd (s5 (t + 8)) 4 (s5 (o + 8) 4)) = s6 at b6 c6 c6'
  obtain ⟨s7, a7, b7, c7⟩ := rcp (σ := s6) (t := t + 8 + 1) (o := o + 8 + 1) gt.2.2.2.1 go.2.2.2.1
  obtain ⟨s8, a8, b8, c8⟩ := rcp (σ := s7) (t := t + 8 + 3) (o := o + 8 + 3) gt.2.2.2.2.1 go.2.2.2.2.1
  obtain ⟨s9, a9, b9, c9⟩ := rcp (σ := s8) (t := t + 8 + 5) (o := o + 8 + 5) gt.2.2.2.2.2 go.2.2.2.2.2
  refine ⟨s9, ?_, ?_, ?_⟩
  · unfold fX0_copy fX6_copy fX4_copy
    rw [a1, Option.bind_some, a2, Option.bind_some, a3, Option.bind_some, gl_e, hs4, Option.bind_some, gl_e, hs5, gl_e, hs6, a7, Option.bind_some, a8, Option.bind_some, a9]
    rfl
  · intro k hk
    rw [b9 k (by omega), b8 k (by omega), b7 k (by omega), b6 k (by omega), b5 k (by omega), b4 k (by omega), b3 k (by omega), b2 k (by omega), b1 k (by omega)]
  · intro f w h n D
    have n12 := D.2.1.2.1.2.2.2.2
    obtain ⟨-, O, ⟨z1, z2, z3⟩, y1, y2, y3, y4, y5⟩ := D
    refine ⟨gt, O, ⟨?_, ?_, ?_⟩, ?_, ?_, ?_, ?_, ?_⟩
    · rw [b9 _ (by omega), b8 _ (by omega), b7 _ (by omega), b6 _ (by omega), b5 _ (by omega), c4, b3 _ (by omega), b2 _ (by omega), b1 _ (by omega)]
      exact z1
    · rw [b9 _ (by omega), b8 _ (by omega), b7 _ (by omega), c6', c5, b4 _ (by omega), b3 _ (by omega), b2 _ (by omega), b1 _ (by omega)]
      exact z2
    · rw [b9 _ (by omega), b8 _ (by omega), b7 _ (by omega), c6, b5 _ (by omega), b4 _ (by omega), b3 _ (by omega), b2 _ (by omega), b1 _ (by omega)]
      exact z3
    · intro s hs
      rw [b9 _ (by omega), b8 _ (by omega), b7 _ (by omega), b6 _ (by omega), b5 _ (by omega), b4 _ (by omega), b3 _ (by omega), b2 _ (by omega)]
      exact (c1 s (by omega)).trans (y1 s hs)
    · intro s o' e hs ho he
      rw [b9 _ (by omega), b8 _ (by omega), b7 _ (by omega), b6 _ (by omega), b5 _ (by omega), b4 _ (by omega), b3 _ (by omega), b9 (t + 7) (by omega), b8 (t + 7) (by omega), b7 (t + 7) (by omega), b6 (t + 7) (by omega), b5 (t + 7) (by omega), b4 (t + 7) (by omega)]
      refine ⟨((c2 _ (by omega)).trans ?_).trans (y2 s o' e hs ho he).1, ((c3 _ (by omega)).trans ?_).trans (y2 s o' e hs ho he).2⟩
      · exact congrFun (b1 (o + 5) (by omega)) _
      · exact congrFun ((b2 (o + 7) (by omega)).trans (b1 (o + 7) (by omega))) _
    · intro s hs
      rw [b9 _ (by omega), b8 _ (by omega)]
      refine ((c7 s hs).trans ?_).trans (y3 s hs)
      show s6 (o + 10) s = σ (o + 10) s
      rw [b6 _ (by omega), b5 _ (by omega), b4 _ (by omega), b3 _ (by omega), b2 _ (by omega), b1 _ (by omega)]
    · intro s hs
      rw [b9 _ (by omega)]
      refine ((c8 s hs).trans ?_).trans (y4 s hs)
      show s7 (o + 12) s = σ (o + 12) s
      rw [b7 _ (by omega), b6 _ (by omega), b5 _ (by omega), b4 _ (by omega), b3 _ (by omega), b2 _ (by omega), b1 _ (by omega)]
    · intro k hk
      refine ((c9 k hk).trans ?_).trans (y5 k hk)
      show s8 (o + 14) k = σ (o + 14) k
      rw [b8 _ (by omega), b7 _ (by omega), b6 _ (by omega), b5 _ (by omega), b4 _ (by omega), b3 _ (by omega), b2 _ (by omega), b1 _ (by omega)]
end

section
/-! THE HISTORY: which desk holds a state -/
theorem sta8 {σ : gM} {o i : Nat} (h1 : σ 31 1 = nI o) (ho : o < 5) (hi : i < 6) : fX3_state σ 31 (nI i) = some (some (33 + 15 * ((o + i) % 5))) := by
  unfold fX3_state
  rw [h1, nIa, show (5 : Int32) = nI 5 from rfl, pk_rem (by omega) (by omega) (by omega), gl_e, if_neg (nI_pos (by omega)), if_neg (nI_pos (by omega)), if_neg (show ¬ nI (gln (31 + 1)) ≤ nI ((o + i) % 5) from nI_ge (b := 5) (by omega) (by decide)), if_pos (nI_in (N := gln (31 + 1)) (show (o + i) % 5 < 5 by omega) (by decide)), nI_cl (by omega)]
  rw [show 31 + 1 + (1 + 15 * ((o + i) % 5)) = 33 + 15 * ((o + i) % 5) by omega]
end

section
/-! THE CLASS KEEPS A STATE -/
/-- the history of the class: k states, g i the i-th -/
def HH (σ : gM) (k : Nat) (g : Nat → Nat → Int32) : Prop := ∃ o, k ≤ 5 ∧ o < 5 ∧ σ 31 2 = nI k ∧ σ 31 1 = nI o ∧ ∀ i, i < k → ∃ w h n, DDo σ (33 + 15 * ((o + i) % 5)) (g i) w h n
/-- what is kept behind a change: the last is new; of five the first goes -/
def kN (k : Nat) : Nat := if k < 5 then k + 1 else 5
def kG (k : Nat) (g : Nat → Nat → Int32) (f : Nat → Int32) (i : Nat) : Nat → Int32 := if k < 5 then (if i < k then g i else f) else (if i < 4 then g (i + 1) else f)
theorem gD_s {o i : Nat} : gD (33 + 15 * ((o + i) % 5)) := gD_h (by omega)
theorem kee8 {σ : gM} {k : Nat} {g : Nat → Nat → Int32} {f : Nat → Int32} {w h n : Nat} (H : HH σ k g) (D : DDo σ 1 f w h n) : ∃ σ', fX3_keep σ 31 1 = some σ' ∧ (∀ c, (c < 31 ∨ 108 ≤ c) → σ' c = σ c) ∧ HH σ' (kN k) (kG k g f) := by
  obtain ⟨o, hk, ho, z2, z1, Z⟩ := H
  by_cases c5 : k < 5
  · obtain ⟨σ1, a1, b1, d1⟩ := dcp (σ := σ) (t := 33 + 15 * ((o + k) % 5)) (o := 1) gD_s gD_1 (by omega)
    have e31 : σ1 31 = σ 31 := b1 31 (by omega)
    refine ⟨gset σ1 31 (upd (σ1 31) 2 (nI (k + 1))), ?_, ?_, ?_⟩
    · unfold fX3_keep
      rw [z2, if_pos (show nI k < 5 from nI_lt (b := 5) c5 (by decide)), sta8 z1 ho (by omega), Option.bind_some]
      show (fX0_copy σ (33 + 15 * ((o + k) % 5)) 1).bind _ = _
      rw [a1, Option.bind_some, gl_e, e31, z2, nIa1]
    · intro c hc
      rw [gset_ne (by omega), b1 c (by omega)]
    · have M : ∀ {d : Nat} {f : Nat → Int32} {w h n : Nat}, 31 < d + 1 → DDo σ1 d f w h n → DDo (gset σ1 31 (upd (σ1 31) 2 (nI (k + 1)))) d f w h n := fun hd D => D.mv (fun c h1 h2 => gset_ne (by omega))
      refine ⟨o, by unfold kN; rw [if_pos c5]; omega, ho, ?_, ?_, ?_⟩
      · unfold kN
        rw [if_pos c5, gset_at, pk_us]
      · rw [gset_at, pk_un (by decide), e31, z1]
      · intro i hi
        unfold kN at hi
        rw [if_pos c5] at hi
        unfold kG
        rw [if_pos c5]
        by_cases ci : i < k
        · obtain ⟨w', h', n', D'⟩ := Z i ci
          rw [if_pos ci]
          exact ⟨w', h', n', M (by omega) (D'.mv (fun c h1 h2 => b1 c (by omega)))⟩
        · obtain rfl : i = k := by omega
          rw [if_neg ci]
          exact ⟨w, h, n, M (by omega) (d1 D)⟩
  · obtain rfl : k = 5 := by omega
    have q1 : ∀ c, c ≠ 31 → gset (gset σ 31 (upd (σ 31) 1 (nI ((o + 1) % 5)))) 31 (upd (gset σ 31 (upd (σ 31) 1 (nI ((o + 1) % 5))) 31) 2 (nI 4)) c = σ c := fun c hc => by rw [gset_ne hc, gset_ne hc]
    have q2 : gset (gset σ 31 (upd (σ 31) 1 (nI ((o + 1) % 5)))) 31 (upd (gset σ 31 (upd (σ 31) 1 (nI ((o + 1) % 5))) 31) 2 (nI 4)) 31 1 = nI ((o + 1) % 5) := rfl
    have q3 : gset (gset σ 31 (upd (σ 31) 1 (nI ((o + 1) % 5)))) 31 (upd (gset σ 31 (upd (σ 31) 1 (nI ((o + 1) % 5))) 31) 2 (nI 4)) 31 2 = nI 4 := rfl
    generalize hs8 : gset (gset σ 31 (upd (σ 31) 1 (nI ((o + 1) % 5)))) 31 (upd (gset σ 31 (upd (σ 31) 1 (nI ((o + 1) % 5))) 31) 2 (nI 4)) = s8 at q1 q2 q3
    have D8 : DDo s8 1 f w h n := D.mv (fun c h1 h2 => q1 c (by omega))
    obtain ⟨σ1, a1, b1, d1⟩ := dcp (σ := s8) (t := 33 + 15 * (((o + 1) % 5 + 4) % 5)) (o := 1) gD_s gD_1 (by omega)
    have e31 : σ1 31 = s8 31 := b1 31 (by omega)
    refine ⟨gset σ1 31 (upd (σ1 31) 2 (nI 5)), ?_, ?_, ?_⟩
    · unfold fX3_keep
      rw [z2, if_neg (show ¬ nI 5 < 5 by decide), z1, nIa1, show (5 : Int32) = nI 5 from rfl, pk_rem (by omega) (by omega) (by omega), gl_e, gl_e, show gset σ 31 (upd (σ 31) 1 (nI ((o + 1) % 5))) 31 2 - 1 = nI 4 from (congrArg (fun x => x - 1) z2).trans (nI_pred 4), hs8, q3, sta8 q2 (by omega) (by decide), Option.bind_some]
      show (fX0_copy s8 (33 + 15 * (((o + 1) % 5 + 4) % 5)) 1).bind _ = _
      rw [a1, Option.bind_some, gl_e, e31, q3]
      rfl
    · intro c hc
      rw [gset_ne (by omega), b1 c (by omega), q1 c (by omega)]
    · have M : ∀ {d : Nat} {f : Nat → Int32} {w h n : Nat}, 31 < d + 1 → DDo σ1 d f w h n → DDo (gset σ1 31 (upd (σ1 31) 2 (nI 5))) d f w h n := fun hd D => D.mv (fun c h1 h2 => gset_ne (by omega))
      refine ⟨(o + 1) % 5, by decide, by omega, ?_, ?_, ?_⟩
      · show gset σ1 31 (upd (σ1 31) 2 (nI 5)) 31 2 = nI 5
        rw [gset_at, pk_us]
      · rw [gset_at, pk_un (by decide), e31, q2]
      · intro i hi
        have hi : i < 5 := hi
        show ∃ w h n, DDo _ _ (if i < 4 then g (i + 1) else f) w h n
        by_cases ci : i < 4
        · obtain ⟨w', h', n', D'⟩ := Z (i + 1) (by omega)
          rw [if_pos ci, show ((o + 1) % 5 + i) % 5 = (o + (i + 1)) % 5 by omega]
          exact ⟨w', h', n', M (by omega) (D'.mv (fun c h1 h2 => by rw [b1 c (by omega), q1 c (by omega)]))⟩
        · obtain rfl : i = 4 := by omega
          rw [if_neg ci]
          exact ⟨w, h, n, M (by omega) (d1 D8)⟩
end

section
/-! THE REFERENCE KEEPS A STATE -/
theorem ix135 (k i : Nat) : (135 * nI k) + nI i = nI (135 * k + i) := by
  rw [show (135 : Int32) = nI 135 from rfl, pk_mul, nIa]
end
