/-! SNAPSHOTS THAT AGREE BELOW 135; WHAT STANDS BEHIND A KEPT STATE -/
theorem og_lt (o e : Nat) : og o e < 4 := by
  unfold og un
  split <;> omega
theorem tP_cong {f g : Nat → Int32} (E : ∀ j, j < 111 → g j = f j) {s : Nat} (hs : s < 12) (o e : Nat) : tP g s o e = tP f s o e := by
  have := og_lt o e
  unfold tP
  rw [E (3 + 4 * s + og o e) (by omega)]
theorem tL_cong {f g : Nat → Int32} (E : ∀ j, j < 111 → g j = f j) {s : Nat} (hs : s < 12) (o e : Nat) : tL g s o e = tL f s o e := by
  have := og_lt o e
  unfold tL
  rw [E (51 + 4 * s + og o e) (by omega), E (99 + s) (by omega)]
theorem scF_cong {f g : Nat → Int32} {k : Nat} : ∀ (d i : Nat), (∀ j, i ≤ j → j < i + d → g (123 + j) = f (123 + j)) → scF g k d i = scF f k d i := by
  intro d
  induction d with
  | zero => intro i E; rfl
  | succ d ih =>
    intro i E
    unfold scF
    rw [E i (by omega) (by omega), ih (i + 1) (fun j h1 h2 => E j (by omega) (by omega))]
theorem sc_cong {f g : Nat → Int32} {n : Nat} (E : ∀ j, j < n → g (123 + j) = f (123 + j)) (k : Nat) : sc g n k = sc f n k := scF_cong n 0 (fun j _ h => E j (by omega))
theorem OKf.cong {f g : Nat → Int32} {w h n : Nat} (O : OKf f w h n) (E : ∀ j, j < 135 → g j = f j) : OKf g w h n := by
  obtain ⟨⟨f0, f1, f2⟩, ⟨w1, w6, h1, h6, n12⟩, a, b, c, d, e, u⟩ := O
  refine ⟨⟨by rw [E 0 (by omega)]; exact f0, by rw [E 1 (by omega)]; exact f1, by rw [E 2 (by omega)]; exact f2⟩, ⟨w1, w6, h1, h6, n12⟩, ?_, ?_, ?_, ?_, ?_, ?_⟩
  · intro s hs
    rw [E _ (by omega)]
    exact a s hs
  · intro s x hs hx
    rw [E _ (by omega)]
    exact b s x hs hx
  · intro s hs
    rw [E _ (by omega)]
    exact c s hs
  · intro s hs
    rw [E _ (by omega)]
    exact d s hs
  · intro s hs
    rw [E _ (by omega), E _ (by omega)]
    exact e s hs
  · intro s t k hs ht
    rw [E _ (by omega), E _ (by omega)]
    exact u s t k hs ht
theorem DDo.cong {σ : gM} {d w h n : Nat} {f g : Nat → Int32} (D : DDo σ d f w h n) (E : ∀ j, j < 135 → g j = f j) : DDo σ d g w h n := by
  have n12 := D.2.1.2.1.2.2.2.2
  obtain ⟨G, O, Z, y1, y2, y3, y4, y5⟩ := D
  refine ⟨G, O.cong E, Z, ?_, ?_, ?_, ?_, ?_⟩
  · intro s hs
    rw [E _ (by omega)]
    exact y1 s hs
  · intro s o e hs ho he
    rw [tP_cong (fun j hj => E j (by omega)) (by omega), tL_cong (fun j hj => E j (by omega)) (by omega)]
    exact y2 s o e hs ho he
  · intro s hs
    rw [E _ (by omega)]
    exact y3 s hs
  · intro s hs
    rw [E _ (by omega)]
    exact y4 s hs
  · intro k hk
    rw [sc_cong (fun j hj => E _ (by omega))]
    exact y5 k hk
/-- the histories agree -/
def HB (σ τ : gM) : Prop := ∃ k o, k ≤ 5 ∧ o < 5 ∧ σ 31 2 = nI k ∧ τ 124 2 = nI k ∧ σ 31 1 = nI o ∧ ∀ i, i < k → ∃ w h n, DDo σ (33 + 15 * ((o + i) % 5)) (fun j => τ 126 (135 * i + j)) w h n
theorem HB.mv {σ τ σ' τ' : gM} (H : HB σ τ) (A : ∀ c, 31 ≤ c → c ≤ 107 → σ' c = σ c) (e6 : τ' 126 = τ 126) (e2 : τ' 124 2 = τ 124 2) : HB σ' τ' := by
  obtain ⟨k, o, hk, ho, r1, r2, r3, H⟩ := H
  refine ⟨k, o, hk, ho, by rw [A 31 (by decide) (by decide)]; exact r1, by rw [e2]; exact r2, by rw [A 31 (by decide) (by decide)]; exact r3, fun i hi => ?_⟩
  obtain ⟨w, hh, n, D⟩ := H i hi
  refine ⟨w, hh, n, ?_⟩
  rw [e6]
  exact D.mv (fun k _ h => A k (by omega) (by omega))
theorem TT.mv {σ τ σ' τ' : gM} (T : TT σ τ) (h2 : σ' 111 2 = σ 111 2) (h3 : σ' 113 = σ 113) (e4 : τ' 124 4 = τ 124 4) (e7 : τ' 127 = τ 127) : TT σ' τ' := by
  unfold TT
  rw [h2, h3, e4, e7]
  exact T
/-- both have kept the state -/
def KK (σ τ σ' τ' : gM) : Prop := (∀ c, (c < 31 ∨ 108 ≤ c) → σ' c = σ c) ∧ (∀ c, c ≠ 124 → c ≠ 126 → τ' c = τ c) ∧ (∀ j, j ≠ 2 → τ' 124 j = τ 124 j) ∧ HB σ' τ'
theorem RR.kept {σ τ : gM} (R : RR σ τ) : ∃ σ' τ', fX3_keep σ 31 1 = some σ' ∧ fX9_records τ 124 = some τ' ∧ KK σ τ σ' τ' := by
  obtain ⟨⟨w, h, n, D⟩, ⟨k, o, hk, ho, r1, r2, r3, H⟩, -⟩ := R
  obtain ⟨σ', p8, a8, ⟨o', hk', ho', q1, q2, H'⟩⟩ := kee8 (σ := σ) (k := k) (g := fun i j => τ 126 (135 * i + j)) ⟨o, hk, ho, r1, r3, H⟩ D
  obtain ⟨τ', p9, a9, b9, c9, d9⟩ := rec9 (τ := τ) hk r2
  refine ⟨σ', τ', p8, p9, a8, a9, c9, kN k, o', hk', ho', q1, b9, q2, fun i hi => ?_⟩
  obtain ⟨w', h', n', D'⟩ := H' i hi
  exact ⟨w', h', n', D'.cong (fun j hj => d9 i j hi hj)⟩
theorem RR.new {σ τ σ1 τ1 σ2 τ2 : gM} {w h n : Nat} (R : RR σ τ) (K : KK σ τ σ1 τ1) (A : ∀ c, ((31 ≤ c ∧ c ≤ 107) ∨ c = 111 ∨ c = 113) → σ2 c = σ1 c) (B : ∀ c, (c = 124 ∨ c = 126 ∨ c = 127) → τ2 c = τ1 c) (D : DDo σ2 1 (τ2 125) w h n) : RR σ2 τ2 := by
  refine ⟨⟨w, h, n, D⟩, K.2.2.2.mv (fun c h1 h2 => A c (by omega)) (B 126 (by omega)) (by rw [B 124 (by omega)]), TT.mv (σ := σ) (τ := τ) R.2.2 ?_ ?_ ?_ ?_⟩
  · rw [A 111 (by omega), K.1 111 (by omega)]
  · rw [A 113 (by omega), K.1 113 (by omega)]
  · rw [B 124 (by omega), K.2.2.1 4 (by decide)]
  · rw [B 127 (by omega), K.2.1 127 (by decide) (by decide)]
theorem KK.desk {σ τ σ1 τ1 : gM} (K : KK σ τ σ1 τ1) : τ1 125 = τ 125 ∧ (∀ {w h n : Nat}, DDo σ 1 (τ 125) w h n → DDo σ1 1 (τ1 125) w h n) := by
  have e := K.2.1 125 (by decide) (by decide)
  refine ⟨e, fun D => ?_⟩
  rw [e]
  exact D.mv (fun c _ h2 => K.1 c (by omega))
/-! UNDO -/
theorem und9L {k : Nat} (hk : k < 5) : ∀ (d i m : Nat) (τ : gM), i + d = 135 → d < m → τ 124 2 = nI k → ∃ τ', fX9_undo_23 124 m τ (nI i) = some (nI k, τ') ∧ (∀ c, c ≠ 125 → τ' c = τ c) ∧ (∀ y, i ≤ y → y < 135 → τ' 125 y = τ 126 (135 * k + y)) ∧ (∀ y, y < i → τ' 125 y = τ 125 y) := by
  intro d
  induction d with
  | zero =>
    intro i m τ hi hm z
    obtain ⟨m, rfl⟩ : ∃ q, m = q + 1 := ⟨m - 1, by omega⟩
    obtain rfl : i = 135 := by omega
    refine ⟨τ, ?_, fun c _ => rfl, fun x h1 h2 => by omega, fun y _ => rfl⟩
    rw [fX9_undo_23, if_pos (show (135 : Int32) ≤ nI 135 by decide), z]
  | succ d ih =>
    intro i m τ hi hm z
    obtain ⟨m, rfl⟩ : ∃ q, m = q + 1 := ⟨m - 1, by omega⟩
    obtain ⟨τ', p, a, b, c⟩ := ih (i + 1) m (gset τ 125 (upd (τ 125) i (τ 126 (135 * k + i)))) (by omega) (by omega) (by rw [gset_ne (by decide)]; exact z)
    refine ⟨τ', ?_, fun x h1 => (a x h1).trans (gset_ne h1), fun y h1 h2 => ?_, fun y hy => ?_⟩
    · rw [fX9_undo_23, if_neg (show ¬ (135 : Int32) ≤ nI i from nI_ge (b := 135) (by omega) (by decide)), z, ix135, if_pos (c126 (by omega)), if_pos (c125 (by omega)), gl_e, gl_e, nI_cl (n := i) (by omega), nI_cl (n := 135 * k + i) (by omega), nIa1]
      exact p
    · by_cases ci : y = i
      · subst ci
        rw [c y (by omega), gset_at, pk_us]
      · rw [b y (by omega) h2, gset_ne (by decide)]
    · rw [c y (by omega), gset_at, pk_un (by omega)]
theorem step_undo : gs_undo RR := by
  intro σ τ R
  obtain ⟨⟨w, h, n, D⟩, ⟨k, o, hk, ho, r1, r2, r3, H⟩, -⟩ := id R
  have T : TT σ τ := R.2.2
  unfold fX8_undo fX9_undo
  rw [show fX3_size σ (0 + 31) = some (nI k) from congrArg some r1, Option.bind_some, r2]
  by_cases c : k = 0
  · subst c
    rw [if_pos (show nI 0 = 0 from rfl), if_pos (show nI 0 = 0 from rfl)]
    exact ⟨_, _, _, rfl, rfl, R⟩
  · obtain ⟨q, rfl⟩ : ∃ q, k = q + 1 := ⟨k - 1, by omega⟩
    obtain ⟨w', h', n', D'⟩ := H q (by omega)
    obtain ⟨σ1, a1, b1, d1⟩ := dcp (σ := σ) (t := 1) (o := 33 + 15 * ((o + q) % 5)) gD_1 gD_s (by omega)
    have e31 : σ1 31 = σ 31 := b1 31 (by omega)
    obtain ⟨τ', p, a, b, c'⟩ := und9L (k := q) (by omega) 135 0 gF (gset τ 124 (upd (τ 124) 2 (nI q))) rfl (gF_lt (by decide)) (by rw [gset_at, pk_us])
    have z : nI (q + 1) - 1 = nI q := nI_pred q
    rw [if_neg (show ¬ nI (q + 1) = 0 from nI_ne0 (by omega) (by omega)), if_neg (show ¬ nI (q + 1) = 0 from nI_ne0 (by omega) (by omega)), z, gl_e]
    refine ⟨nI q, gset σ1 31 (upd (σ1 31) 2 (nI q)), τ', ?_, p, ?_⟩
    · unfold fX3_restore
      rw [show σ (0 + 31) 2 = nI (q + 1) from r1, z, show fX3_state σ (0 + 31) (nI q) = _ from sta8 r3 ho (by omega), Option.bind_some]
      show (((fX0_copy σ 1 (33 + 15 * ((o + q) % 5))).bind _).bind _) = _
      rw [a1, Option.bind_some, gl_e, show σ1 (0 + 31) = σ 31 from e31, r1, z, Option.bind_some]
      show some (gset σ1 31 (upd (σ 31) 2 (nI q)) 31 2, _) = _
      rw [gset_at, pk_us]
    · refine ⟨⟨w', h', n', ?_⟩, ⟨q, o, by omega, ho, ?_, ?_, ?_, fun i hi => ?_⟩, T.mv ?_ ?_ ?_ ?_⟩
      · refine DDo.cong (f := fun j => τ 126 (135 * q + j)) ((d1 D').mv (fun c h1 h2 => gset_ne (by omega))) (fun j hj => ?_)
        rw [b j (by omega) hj, gset_ne (by decide)]
      · rw [gset_at, pk_us]
      · rw [a 124 (by decide), gset_at, pk_us]
      · rw [gset_at, pk_un (by decide), e31, r3]
      · obtain ⟨w2, h2, n2, D2⟩ := H i (by omega)
        refine ⟨w2, h2, n2, ?_⟩
        rw [a 126 (by decide), gset_ne (by decide)]
        exact D2.mv (fun c h1 h2 => by rw [gset_ne (by omega), b1 c (by omega)])
      · rw [gset_ne (by decide), b1 111 (by omega)]
      · rw [gset_ne (by decide), b1 113 (by omega)]
      · rw [a 124 (by decide), gset_at, pk_un (by decide)]
      · rw [a 127 (by decide), gset_ne (by decide)]
