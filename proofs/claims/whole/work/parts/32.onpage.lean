/-! COUNTING THE EDGES OF A SCRAP THAT LIES -/
theorem vop8 {σ : gM} {t w h n s k e : Nat} {f : Nat → Int32} (D : DDo σ t f w h n) (hs : s < n) (hk : k < w * h) (hp : f (123 + s) = nI k) (he : e < 4) : fX0_verdictOnPage σ t (nI s) (nI e) = some (rs f w h n s k (ovN f s) e) := by
  obtain ⟨w1, w6, h1, h6, n12⟩ := D.2.1.2.1
  have hwh := wh_le w6 h6
  unfold fX0_verdictOnPage
  rw [plc8 D hs, Option.bind_some, hp, if_neg (m1_ne (by omega)), ori8 D hs, Option.bind_some, ver8 D hs hk (D.2.1.ov hs).1 he, Option.bind_some]
theorem cft8L {σ : gM} {t w h n s k : Nat} {f : Nat → Int32} (D : DDo σ t f w h n) (hs : s < n) (hk : k < w * h) (hp : f (123 + s) = nI k) : ∀ (d i m a : Nat), i + d = 4 → d < m → fX0_countFits_4 σ t (nI s) m (nI a) (nI i) = some (nI (up (gFit f w h n s k (ovN f s)) d i a)) := by
  intro d
  induction d with
  | zero =>
    intro i m a hi hm
    obtain ⟨m, rfl⟩ : ∃ q, m = q + 1 := ⟨m - 1, by omega⟩
    obtain rfl : i = 4 := by omega
    rw [fX0_countFits_4, if_pos i4e, up_0]
  | succ d ih =>
    intro i m a hi hm
    obtain ⟨m, rfl⟩ : ∃ q, m = q + 1 := ⟨m - 1, by omega⟩
    rw [fX0_countFits_4, if_neg (i4 (by omega)), vop8 D hs hk hp (by omega), Option.bind_some, up_s]
    simp only [gl_e, nIa1]
    unfold gFit
    by_cases c : rs f w h n s k (ovN f s) i = 0
    · rw [if_pos c, if_neg (by rw [c]; decide), if_pos c]
      exact ih (i + 1) m (a + 1) (by omega) (by omega)
    · rw [if_neg c, if_neg c, ite_self]
      exact ih (i + 1) m a (by omega) (by omega)
theorem cft8 {σ : gM} {t w h n s k : Nat} {f : Nat → Int32} (D : DDo σ t f w h n) (hs : s < n) (hk : k < w * h) (hp : f (123 + s) = nI k) : fX0_countFits σ t (nI s) = some (nI (nFit f w h n s k (ovN f s))) := cft8L D hs hk hp 4 0 gF 0 rfl (gF_lt (by decide))
theorem cfl8L {σ : gM} {t w h n s k : Nat} {f : Nat → Int32} (D : DDo σ t f w h n) (hs : s < n) (hk : k < w * h) (hp : f (123 + s) = nI k) : ∀ (d i m a : Nat), i + d = 4 → d < m → fX0_countFaults_4 σ t (nI s) m (nI a) (nI i) = some (nI (up (gFlt f w h n s k (ovN f s)) d i a)) := by
  intro d
  induction d with
  | zero =>
    intro i m a hi hm
    obtain ⟨m, rfl⟩ : ∃ q, m = q + 1 := ⟨m - 1, by omega⟩
    obtain rfl : i = 4 := by omega
    rw [fX0_countFaults_4, if_pos i4e, up_0]
  | succ d ih =>
    intro i m a hi hm
    obtain ⟨m, rfl⟩ : ∃ q, m = q + 1 := ⟨m - 1, by omega⟩
    rw [fX0_countFaults_4, if_neg (i4 (by omega)), vop8 D hs hk hp (by omega), Option.bind_some, up_s]
    simp only [gl_e, nIa1]
    unfold gFlt
    by_cases c : rs f w h n s k (ovN f s) i ≤ 0
    · rw [if_pos c]
      rcases rs_le.mp c with q | q
      · rw [if_pos q]
        exact ih (i + 1) m a (by omega) (by omega)
      · rw [if_neg (by rw [q]; decide), if_pos q]
        exact ih (i + 1) m a (by omega) (by omega)
    · rw [if_neg c, if_neg (fun q => c (rs_le.mpr (Or.inl q))), if_neg (fun q => c (rs_le.mpr (Or.inr q)))]
      exact ih (i + 1) m (a + 1) (by omega) (by omega)
theorem cfl8 {σ : gM} {t w h n s k : Nat} {f : Nat → Int32} (D : DDo σ t f w h n) (hs : s < n) (hk : k < w * h) (hp : f (123 + s) = nI k) : fX0_countFaults σ t (nI s) = some (nI (nFlt f w h n s k (ovN f s))) := cfl8L D hs hk hp 4 0 gF 0 rfl (gF_lt (by decide))
