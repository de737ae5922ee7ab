/-! ONE DESK BECOMES A COPY OF ANOTHER -/
theorem rcp {σ : gM} {t o N : Nat} (h1 : gln (t + 1) = N) (h2 : gln (o + 1) = N) : ∃ σ', fX5_copy σ t o = some σ' ∧ (∀ k, k ≠ t + 1 → σ' k = σ k) ∧ ∀ j, j < N → σ' (t + 1) j = σ (o + 1) j := by
  have hN : N < 1000 := by rw [← h1]; exact gln_lt _
  refine ⟨gset σ (t + 1) (va_cpy (σ (o + 1)) (σ (t + 1)) 0 0 N), ?_, fun k hk => gset_ne hk, fun j hj => ?_⟩
  · unfold fX5_copy
    rw [gl_e, h1, h2, ite_self, cl_0, nI_cl (by omega), if_pos ⟨by decide, by decide, nI_pos (by omega), by omega, by omega⟩, gl_e]
  · rw [gset_at, pk_cpy_in (by omega) (by omega)]
    rw [show 0 + (j - 0) = j by omega]
theorem dcp {σ : gM} {t o : Nat} (gt : gD t) (go : gD o) (hd : t + 15 ≤ o ∨ o + 15 ≤ t) : ∃ σ', fX0_copy σ t o = some σ' ∧ (∀ k, (k ≤ t ∨ t + 14 < k) → σ' k = σ k) ∧ ∀ {f : Nat → Int32} {w h n : Nat}, DDo σ o f w h n → DDo σ' t f w h n := by
  obtain ⟨s1, a1, b1, c1⟩ := rcp (σ := σ) (t := t + 1 + 1) (o := o + 1 + 1) gt.1 go.1
  obtain ⟨s2, a2, b2, c2⟩ := rcp (σ := s1) (t := t + 1 + 3) (o := o + 1 + 3) gt.2.1 go.2.1
  obtain ⟨s3, a3, b3, c3⟩ := rcp (σ := s2) (t := t + 1 + 5) (o := o + 1 + 5) gt.2.2.1 go.2.2.1
  have b4 : ∀ k, k ≠ t + 1 → gset s3 (t + 1) (upd (s3 (t + 1)) 3 (s3 (o + 1) 3)) k = s3 k := fun k hk => gset_ne hk
  have c4 : gset s3 (t + 1) (upd (s3 (t + 1)) 3 (s3 (o + 1) 3)) (t + 1) 3 = s3 (o + 1) 3 := by rw [gset_at]; exact pk_us
  generalize hs4 : gset s3 (t + 1) (upd (s3 (t + 1)) 3 (s3 (o + 1) 3)) = s4 at b4 c4
  have b5 : ∀ k, k ≠ t + 8 → gset s4 (t + 8) (upd (s4 (t + 8)) 3 (s4 (o + 8) 3)) k = s4 k := fun k hk => gset_ne hk
  have c5 : gset s4 (t + 8) (upd (s4 (t + 8)) 3 (s4 (o + 8) 3)) (t + 8) 3 = s4 (o + 8) 3 := by rw [gset_at]; exact pk_us
  generalize hs5 : gset s4 (t + 8) (upd (s4 (t + 8)) 3 (s4 (o + 8) 3)) = s5 at b5 c5
  have b6 : ∀ k, k ≠ t + 8 → gset s5 (t + 8) (upd (s5 (t + 8)) 4 (s5 (o + 8) 4)) k = s5 k := fun k hk => gset_ne hk
  have c6 : gset s5 (t + 8) (upd (s5 (t + 8)) 4 (s5 (o + 8) 4)) (t + 8) 4 = s5 (o + 8) 4 := by rw [gset_at]; exact pk_us
  have c6' : gset s5 (t + 8) (upd (s5 (t + 8)) 4 (s5 (o + 8) 4)) (t + 8) 3 = s5 (t + 8) 3 := by rw [gset_at]; exact pk_un (by decide)
  generalize hs6 : gset s5 (t + 8) (upd (s5 (t + 8)) 4 (s5 (o + 8) 4)) = s6 at b6 c6 c6'
  obtain ⟨s7, a7, b7, c7⟩ := rcp (σ := s6) (t := t + 8 + 1) (o := o + 8 + 1) gt.2.2.2.1 go.2.2.2.1
  obtain ⟨s8, a8, b8, c8⟩ := rcp (σ := s7) (t := t + 8 + 3) (o := o + 8 + 3) gt.2.2.2.2.1 go.2.2.2.2.1
  obtain ⟨s9, a9, b9, c9⟩ := rcp (σ := s8) (t := t + 8 + 5) (o := o + 8 + 5) gt.2.2.2.2.2 go.2.2.2.2.2
  refine ⟨s9, ?_, ?_, ?_⟩
  · unfold fX0_copy fX6_copy fX4_copy
    rw [a1, Option.bind_some, a2, Option.bind_some, a3, Option.bind_some, gl_e, hs4, Option.bind_some, gl_e, hs5, gl_e, hs6, a7, Option.bind_some, a8, Option.bind_some, a9]
    rfl
  · intro k hk
    rw [b9 k (by omega), b8 k (by omega), b7 k (by omega), b6 k (by omega), b5 k (by omega), b4 k (by omega), b3 k (by omega), b2 k (by omega), b1 k (by omega)]
  · intro f w h n D
    have n12 := D.2.1.2.1.2.2.2.2
    obtain ⟨-, O, ⟨z1, z2, z3⟩, y1, y2, y3, y4, y5⟩ := D
    refine ⟨gt, O, ⟨?_, ?_, ?_⟩, ?_, ?_, ?_, ?_, ?_⟩
    · rw [b9 _ (by omega), b8 _ (by omega), b7 _ (by omega), b6 _ (by omega), b5 _ (by omega), c4, b3 _ (by omega), b2 _ (by omega), b1 _ (by omega)]
      exact z1
    · rw [b9 _ (by omega), b8 _ (by omega), b7 _ (by omega), c6', c5, b4 _ (by omega), b3 _ (by omega), b2 _ (by omega), b1 _ (by omega)]
      exact z2
    · rw [b9 _ (by omega), b8 _ (by omega), b7 _ (by omega), c6, b5 _ (by omega), b4 _ (by omega), b3 _ (by omega), b2 _ (by omega), b1 _ (by omega)]
      exact z3
    · intro s hs
      rw [b9 _ (by omega), b8 _ (by omega), b7 _ (by omega), b6 _ (by omega), b5 _ (by omega), b4 _ (by omega), b3 _ (by omega), b2 _ (by omega)]
      exact (c1 s (by omega)).trans (y1 s hs)
    · intro s o' e hs ho he
      rw [b9 _ (by omega), b8 _ (by omega), b7 _ (by omega), b6 _ (by omega), b5 _ (by omega), b4 _ (by omega), b3 _ (by omega), b9 (t + 7) (by omega), b8 (t + 7) (by omega), b7 (t + 7) (by omega), b6 (t + 7) (by omega), b5 (t + 7) (by omega), b4 (t + 7) (by omega)]
      refine ⟨((c2 _ (by omega)).trans ?_).trans (y2 s o' e hs ho he).1, ((c3 _ (by omega)).trans ?_).trans (y2 s o' e hs ho he).2⟩
      · exact congrFun (b1 (o + 5) (by omega)) _
      · exact congrFun ((b2 (o + 7) (by omega)).trans (b1 (o + 7) (by omega))) _
    · intro s hs
      rw [b9 _ (by omega), b8 _ (by omega)]
      refine ((c7 s hs).trans ?_).trans (y3 s hs)
      show s6 (o + 10) s = σ (o + 10) s
      rw [b6 _ (by omega), b5 _ (by omega), b4 _ (by omega), b3 _ (by omega), b2 _ (by omega), b1 _ (by omega)]
    · intro s hs
      rw [b9 _ (by omega)]
      refine ((c8 s hs).trans ?_).trans (y4 s hs)
      show s7 (o + 12) s = σ (o + 12) s
      rw [b7 _ (by omega), b6 _ (by omega), b5 _ (by omega), b4 _ (by omega), b3 _ (by omega), b2 _ (by omega), b1 _ (by omega)]
    · intro k hk
      refine ((c9 k hk).trans ?_).trans (y5 k hk)
      show s8 (o + 14) k = σ (o + 14) k
      rw [b8 _ (by omega), b7 _ (by omega), b6 _ (by omega), b5 _ (by omega), b4 _ (by omega), b3 _ (by omega), b2 _ (by omega), b1 _ (by omega)]
