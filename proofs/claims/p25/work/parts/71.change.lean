/-! p25: THE CALLS THAT CHANGE -/
variable {σ : gM} {w h n k : Nat} {f : Nat → Int32} {g : Nat → Nat → Int32}
theorem okf_uni {w' h' n' : Nat} (O : OKf f w h n) (O' : OKf f w' h' n') : w' = w ∧ h' = h ∧ n' = n := by
  obtain ⟨⟨a0, a1, a2⟩, ⟨w1, w6, h1, h6, n12⟩, -⟩ := O
  obtain ⟨⟨b0, b1, b2⟩, ⟨w1', w6', h1', h6', n12'⟩, -⟩ := O'
  exact ⟨(nI_eq (by omega) (by omega)).mp (b0.symm.trans a0), (nI_eq (by omega) (by omega)).mp (b1.symm.trans a1), (nI_eq (by omega) (by omega)).mp (b2.symm.trans a2)⟩
theorem kN_1 (k : Nat) : 1 ≤ kN k := by unfold kN; split <;> omega
theorem kG_l {k : Nat} {g : Nat → Nat → Int32} {f : Nat → Int32} : kG k g f (kN k - 1) = f := by
  unfold kN
  by_cases c : k < 5
  · rw [if_pos c]
    funext x
    unfold kG
    rw [if_pos c, if_neg (by omega)]
  · rw [if_neg c]
    funext x
    unfold kG
    rw [if_neg c, if_neg (by omega)]
theorem und_p (P : PP σ f w h n (k + 1) g) : ∃ σ' w' h' n', fX8_undo σ 0 = some (nI k, σ') ∧ PP σ' (g k) w' h' n' k g := by
  obtain ⟨D, o, hk, ho, r1, r3, H⟩ := P
  obtain ⟨w', h', n', D'⟩ := H k (by omega)
  obtain ⟨σ1, a1, b1, d1⟩ := dcp (σ := σ) (t := 1) (o := 33 + 15 * ((o + k) % 5)) gD_1 gD_s (by omega)
  have e31 : σ1 31 = σ 31 := b1 31 (by omega)
  have z : nI (k + 1) - 1 = nI k := nI_pred k
  refine ⟨gset σ1 31 (upd (σ1 31) 2 (nI k)), w', h', n', ?_, (d1 D').mv (fun c h1 h2 => gset_ne (by omega)), o, by omega, ho, ?_, ?_, fun i hi => ?_⟩
  · unfold fX8_undo
    rw [show fX3_size σ (0 + 31) = some (nI (k + 1)) from congrArg some r1, Option.bind_some, if_neg (show ¬ nI (k + 1) = 0 from nI_ne0 (by omega) (by omega))]
    unfold fX3_restore
    rw [show σ (0 + 31) 2 = nI (k + 1) from r1, z, show fX3_state σ (0 + 31) (nI k) = _ from sta8 r3 ho (by omega), Option.bind_some]
    show (((fX0_copy σ 1 (33 + 15 * ((o + k) % 5))).bind _).bind _) = _
    rw [a1, Option.bind_some, gl_e, show σ1 (0 + 31) = σ 31 from e31, r1, z, Option.bind_some]
    show some (gset σ1 31 (upd (σ 31) 2 (nI k)) 31 2, _) = _
    rw [gset_at, pk_us]
  · rw [gset_at, pk_us]
  · rw [gset_at, pk_un (by decide), e31, r3]
  · obtain ⟨w2, h2, n2, D2⟩ := H i (by omega)
    exact ⟨w2, h2, n2, D2.mv (fun c h1 h2 => by rw [gset_ne (by omega), b1 c (by omega)])⟩
/-- undo of the latest change -/
theorem und_k {f' : Nat → Int32} {w' h' n' : Nat} (P : PP σ f' w' h' n' (kN k) (kG k g f)) (O : OKf f w h n) : ∃ σ', fX8_undo σ 0 = some (nI (kN k - 1), σ') ∧ PP σ' f w h n (kN k - 1) (kG k g f) := by
  have k1 := kN_1 k
  obtain ⟨q, hq⟩ : ∃ q, kN k = q + 1 := ⟨kN k - 1, by omega⟩
  have e : kG k g f q = f := by
    have := kG_l (k := k) (g := g) (f := f)
    rw [hq] at this
    exact this
  rw [hq] at P
  obtain ⟨σ', w2, h2, n2, p, P'⟩ := und_p P
  rw [e] at P'
  obtain ⟨rfl, rfl, rfl⟩ := okf_uni O P'.1.2.1
  rw [hq]
  exact ⟨σ', p, P'⟩
theorem kep (P : PP σ f w h n k g) : ∃ σ', fX3_keep σ 31 1 = some σ' ∧ (∀ c, (c < 31 ∨ 108 ≤ c) → σ' c = σ c) ∧ HH σ' (kN k) (kG k g f) ∧ DDo σ' 1 f w h n := by
  obtain ⟨σ', p, a, H⟩ := kee8 P.2 P.1
  exact ⟨σ', p, a, H, P.1.mv (fun c _ h => a c (by omega))⟩
theorem fre_1 (D : DDo σ 1 f w h n) {s p : Nat} (hs : s < n) (hp : p < w * h) (c : f (123 + s) = -1) (c2 : sc f n p = none) : fX8_isFree σ 0 (nI s) (nI p) = some 1 := by
  rw [fre8 D hs hp, if_pos c, c2]
  rfl
theorem fre_0 (D : DDo σ 1 f w h n) {s p : Nat} (hs : s < n) (hp : p < w * h) (c : f (123 + s) ≠ -1 ∨ sc f n p ≠ none) : fX8_isFree σ 0 (nI s) (nI p) = some 0 := by
  rw [fre8 D hs hp]
  by_cases c1 : f (123 + s) = -1
  · rw [if_pos c1]
    cases hv : sc f n p with
    | none => exact absurd hv (c.resolve_left (fun q => q c1))
    | some v => rfl
  · rw [if_neg c1]
theorem lay_y (P : PP σ f w h n k g) {s p o : Nat} (hs : s < n) (hp : p < w * h) (ho : o < 8) (c1 : f (123 + s) = -1) (c2 : sc f n p = none) (c3 : nFlt f w h n s p o = 0) : ∃ σ' r, fX8_lay σ 0 (nI s) (nI p) (nI o) = some (nI r, σ') ∧ r ≤ 4 ∧ PP σ' (pF f s (nI p) (nI o)) w h n (kN k) (kG k g f) := by
  have D := P.1
  obtain ⟨σ1, q8, A, H1, D1⟩ := kep P
  obtain ⟨σ2, p8, a2, D2⟩ := put8 D1 hs hp ho (fun t ht hq => absurd hq (sc_none c2 ht)) (Or.inl c1)
  refine ⟨σ2, nSm (pF f s (nI p) (nI o)) w h n s p, ?_, nSm_le _ _ _ _ _ _, D2, H1.mv (fun c h1 h2 => a2 c (by omega) (by omega) (by omega))⟩
  unfold fX8_lay
  rw [scr_in D hs, Option.bind_some, if_neg n10, pla_in D hp, Option.bind_some, if_neg n10, or_in ho, Option.bind_some, if_neg n10, fre_1 D hs hp c1 c2, Option.bind_some, if_neg n10, show fX0_canLie σ (0 + 1) (nI s) (nI p) (nI o) = _ from clie8 D hs hp ho, Option.bind_some, if_pos c3, if_neg n10, show fX3_keep σ (0 + 31) (0 + 1) = _ from q8, Option.bind_some, show fX4_put σ1 (0 + 1 + 8) (nI s) (nI p) (nI o) = _ from p8, Option.bind_some, show fX0_seamsAt σ2 (0 + 1) (nI s) (nI p) = _ from sea8 D2 hs hp, Option.bind_some]
theorem lay_n (D : DDo σ 1 f w h n) {s p o : Nat} (hs : s < n) (hp : p < w * h) (ho : o < 8) (c : ¬ (f (123 + s) = -1 ∧ sc f n p = none ∧ nFlt f w h n s p o = 0)) : fX8_lay σ 0 (nI s) (nI p) (nI o) = some (-1002, σ) := by
  unfold fX8_lay
  rw [scr_in D hs, Option.bind_some, if_neg n10, pla_in D hp, Option.bind_some, if_neg n10, or_in ho, Option.bind_some, if_neg n10]
  by_cases c1 : f (123 + s) = -1 ∧ sc f n p = none
  · rw [fre_1 D hs hp c1.1 c1.2, Option.bind_some, if_neg n10, show fX0_canLie σ (0 + 1) (nI s) (nI p) (nI o) = _ from clie8 D hs hp ho, Option.bind_some, if_neg (fun q => c ⟨c1.1, c1.2, q⟩), if_pos rfl]
  · rw [fre_0 D hs hp (by
      by_cases q : f (123 + s) = -1
      · exact Or.inr (fun q2 => c1 ⟨q, q2⟩)
      · exact Or.inl q), Option.bind_some, if_pos rfl]
theorem for_y (P : PP σ f w h n k g) {s p o : Nat} (hs : s < n) (hp : p < w * h) (ho : o < 8) (c1 : f (123 + s) = -1) (c2 : sc f n p = none) : ∃ σ', fX8_force σ 0 (nI s) (nI p) (nI o) = some (nI (nFlt (pF f s (nI p) (nI o)) w h n s p o), σ') ∧ PP σ' (pF f s (nI p) (nI o)) w h n (kN k) (kG k g f) := by
  have D := P.1
  obtain ⟨σ1, q8, A, H1, D1⟩ := kep P
  obtain ⟨σ2, p8, a2, D2⟩ := put8 D1 hs hp ho (fun t ht hq => absurd hq (sc_none c2 ht)) (Or.inl c1)
  refine ⟨σ2, ?_, D2, H1.mv (fun c h1 h2 => a2 c (by omega) (by omega) (by omega))⟩
  unfold fX8_force
  rw [scr_in D hs, Option.bind_some, if_neg n10, pla_in D hp, Option.bind_some, if_neg n10, or_in ho, Option.bind_some, if_neg n10, fre_1 D hs hp c1 c2, Option.bind_some, if_neg n10, show fX3_keep σ (0 + 31) (0 + 1) = _ from q8, Option.bind_some, show fX4_put σ1 (0 + 1 + 8) (nI s) (nI p) (nI o) = _ from p8, Option.bind_some, show fX0_countFaults σ2 (0 + 1) (nI s) = _ from cfl8 D2 hs hp pF_p, Option.bind_some, ovN_put ho]
theorem for_n (D : DDo σ 1 f w h n) {s p o : Nat} (hs : s < n) (hp : p < w * h) (ho : o < 8) (c : f (123 + s) ≠ -1 ∨ sc f n p ≠ none) : fX8_force σ 0 (nI s) (nI p) (nI o) = some (-1002, σ) := by
  unfold fX8_force
  rw [scr_in D hs, Option.bind_some, if_neg n10, pla_in D hp, Option.bind_some, if_neg n10, or_in ho, Option.bind_some, if_neg n10, fre_0 D hs hp c, Option.bind_some, if_pos rfl]
theorem tur_y (P : PP σ f w h n k g) {s p o : Nat} (hs : s < n) (hp : p < w * h) (ho : o < 8) (c1 : f (123 + s) = nI p) : ∃ σ', fX8_turn σ 0 (nI s) (nI o) = some (nI (nFlt (pF f s (nI p) (nI o)) w h n s p o), σ') ∧ PP σ' (pF f s (nI p) (nI o)) w h n (kN k) (kG k g f) := by
  have D := P.1
  have hwh := wh_le D.2.1.2.1.2.1 D.2.1.2.1.2.2.2.1
  have c0 : ¬ f (123 + s) = -1 := by rw [c1]; exact m1_ne (by omega)
  obtain ⟨σ1, q8, A, H1, D1⟩ := kep P
  obtain ⟨σ2, p8, a2, D2⟩ := put8 D1 hs hp ho (fun t ht hq => D.2.1.2.2.2.2.2.2.2 t s p ht hs (by omega) hq c1) (Or.inr c1)
  refine ⟨σ2, ?_, D2, H1.mv (fun c h1 h2 => a2 c (by omega) (by omega) (by omega))⟩
  unfold fX8_turn
  rw [scr_in D hs, Option.bind_some, if_neg n10, or_in ho, Option.bind_some, if_neg n10, show fX4_lies σ (0 + 1 + 8) (nI s) = _ from lie8 D hs, Option.bind_some, if_neg c0, if_neg n10, show fX3_keep σ (0 + 31) (0 + 1) = _ from q8, Option.bind_some, show fX4_placeOf σ1 (0 + 1 + 8) (nI s) = _ from plc8 D1 hs, Option.bind_some, c1, show fX4_put σ1 (0 + 1 + 8) (nI s) (nI p) (nI o) = _ from p8, Option.bind_some, show fX0_countFaults σ2 (0 + 1) (nI s) = _ from cfl8 D2 hs hp pF_p, Option.bind_some, ovN_put ho]
theorem lif_y (P : PP σ f w h n k g) {s p : Nat} (hs : s < n) (hp : p < w * h) (c1 : f (123 + s) = nI p) : ∃ σ', fX8_lift σ 0 (nI s) = some (nI p, σ') ∧ PP σ' (pF f s (-1) 0) w h n (kN k) (kG k g f) := by
  have D := P.1
  have hwh := wh_le D.2.1.2.1.2.1 D.2.1.2.1.2.2.2.1
  have c0 : ¬ f (123 + s) = -1 := by rw [c1]; exact m1_ne (by omega)
  obtain ⟨σ1, q8, A, H1, D1⟩ := kep P
  obtain ⟨σ2, p8, a2, D2⟩ := tak8 D1 hs hp c1
  refine ⟨σ2, ?_, D2, H1.mv (fun c h1 h2 => a2 c (by omega) (by omega) (by omega))⟩
  unfold fX8_lift
  rw [scr_in D hs, Option.bind_some, if_neg n10, show fX4_lies σ (0 + 1 + 8) (nI s) = _ from lie8 D hs, Option.bind_some, if_neg c0, if_neg n10, show fX3_keep σ (0 + 31) (0 + 1) = _ from q8, Option.bind_some, show fX4_placeOf σ1 (0 + 1 + 8) (nI s) = _ from plc8 D1 hs, Option.bind_some, show fX4_take σ1 (0 + 1 + 8) (nI s) = _ from p8, Option.bind_some, c1]
theorem lif_n (D : DDo σ 1 f w h n) {s : Nat} (hs : s < n) (c1 : f (123 + s) = -1) : fX8_lift σ 0 (nI s) = some (-1002, σ) := by
  unfold fX8_lift
  rw [scr_in D hs, Option.bind_some, if_neg n10, show fX4_lies σ (0 + 1 + 8) (nI s) = _ from lie8 D hs, Option.bind_some, if_pos c1, if_pos rfl]
theorem rst_p (P : PP σ f w h n k g) {w' h' : Nat} (w1 : 1 ≤ w') (w6 : w' ≤ 6) (h1 : 1 ≤ h') (h6 : h' ≤ 6) : ∃ σ', fX8_reset σ 0 (nI w') (nI h') = some (nI (nLy f n), σ') ∧ PP σ' (rF f w' h' n) w' h' n (kN k) (kG k g f) := by
  have D := P.1
  obtain ⟨σ1, q8, A, H1, D1⟩ := kep P
  obtain ⟨σ2, p8, a8, D2⟩ := clr8 D1 w1 w6 h1 h6
  refine ⟨σ2, ?_, D2, H1.mv (fun c h1 h2 => a8 c (by omega))⟩
  have i6 : ∀ x, 1 ≤ x → x ≤ 6 → inI (nI x) 1 6 = 1 := fun x h1 h6 => by
    rcases (show x = 1 ∨ x = 2 ∨ x = 3 ∨ x = 4 ∨ x = 5 ∨ x = 6 by omega) with rfl | rfl | rfl | rfl | rfl | rfl <;> rfl
  unfold fX8_reset
  rw [in8e, Option.bind_some, i6 w' w1 w6, if_neg n10, in8e, Option.bind_some, i6 h' h1 h6, if_neg n10, show fX0_countLying σ (0 + 1) = _ from cly8 D, Option.bind_some, show fX3_keep σ (0 + 31) (0 + 1) = _ from q8, Option.bind_some, show fX4_clear σ1 (0 + 1 + 8) (nI w') (nI h') = _ from p8, Option.bind_some]
theorem rem_p (P : PP σ f w h n k g) {s : Nat} (hs : s < n) : ∃ σ', fX8_removeScrap σ 0 (nI s) = some (nI (n - 1), σ') ∧ PP σ' (zF f n s) w h (n - 1) (kN k) (kG k g f) := by
  have D := P.1
  obtain ⟨σ1, q8, A, H1, D1⟩ := kep P
  obtain ⟨σ2, p8, a8, D2⟩ := rem8 D1 hs
  refine ⟨σ2, ?_, D2, H1.mv (fun c h1 h2 => a8 c (by omega))⟩
  unfold fX8_removeScrap
  rw [scr_in D hs, Option.bind_some, if_neg n10, show fX3_keep σ (0 + 31) (0 + 1) = _ from q8, Option.bind_some, show fX0_remove σ1 (0 + 1) (nI s) = _ from p8, Option.bind_some, show fX6_size σ2 (0 + 1 + 1) = _ from siz8 D2, Option.bind_some]
/-! fill -/
theorem nLy_cU (f : Nat → Int32) : ∀ n, nLy f n + cU (fun t => f (123 + t)) n = n := by
  intro n
  induction n with
  | zero => rfl
  | succ n ih =>
    have e : nLy f (n + 1) = gLy f n (nLy f n) := by
      unfold nLy
      rw [up_end, Nat.zero_add]
    rw [e, cU_s]
    unfold gLy
    by_cases c : f (123 + n) = -1
    · rw [if_pos c, if_pos c]; omega
    · rw [if_neg c, if_neg c]; omega
theorem cU_d1 {g : Nat → Int32} {v : Nat} {x : Int32} (h1 : g v = -1) (h2 : x ≠ -1) : ∀ n, v < n → cU (upd g v x) n + 1 = cU g n := by
  intro n
  induction n with
  | zero => intro q; omega
  | succ n ih =>
    intro hn
    rw [cU_s, cU_s]
    by_cases c : v = n
    · subst c
      rw [cU_far v (Nat.le_refl _), pk_us, if_neg h2, if_pos h1]
    · rw [pk_un (show n ≠ v from fun q => c q.symm), ← ih (by omega)]
      omega
theorem sca_8 (D : DDo σ 1 f w h n) : ∀ (d i m : Nat), i + d = n → d < m → fX0_layNext_2 1 m σ (nI i) = some (0, σ) ∨ ∃ s k o, s < n ∧ f (123 + s) = -1 ∧ k < w * h ∧ o < 8 ∧ sc f n k = none ∧ fX0_layNext_2 1 m σ (nI i) = (fX4_put σ (1 + 8) (nI s) (nI k) (nI o)).bind fun σ9 => some (1, σ9) := by
  intro d
  obtain ⟨w1, w6, h1, h6, n12⟩ := D.2.1.2.1
  have hwh := wh_le w6 h6
  induction d with
  | zero =>
    intro i m hi hm
    obtain ⟨m, rfl⟩ : ∃ q, m = q + 1 := ⟨m - 1, by omega⟩
    refine Or.inl ?_
    rw [fX0_layNext_2, siz8 D, Option.bind_some, if_pos (nI_le (by omega) (by omega))]
  | succ d ih =>
    intro i m hi hm
    obtain ⟨m, rfl⟩ : ∃ q, m = q + 1 := ⟨m - 1, by omega⟩
    rw [fX0_layNext_2, siz8 D, Option.bind_some, if_neg (nI_ge (by omega) (by omega)), lie8 D (by omega), Option.bind_some]
    by_cases c0 : f (123 + i) = -1
    · rw [if_pos c0, if_pos rfl, bsp8 D (by omega), Option.bind_some]
      rcases bsP_ok (f := f) (w := w) (h := h) (n := n) (s := i) with c | ⟨k, o, hk, ho, hc, c⟩
      · rw [c, if_pos rfl, gl_e, nIa1]
        exact ih (i + 1) m (by omega) (by omega)
      · refine Or.inr ⟨i, k, o, by omega, c0, hk, ho, hc, ?_⟩
        rw [c, if_neg (m1_ne (by omega)), show (10 : Int32) = nI 10 from rfl, pk_rem (by omega) (by omega) (by omega), pk_div (by omega) (by omega) (by omega), show (10 * k + o) / 10 = k by omega, show (10 * k + o) % 10 = o by omega]
    · rw [if_neg c0, if_neg n10, gl_e, nIa1]
      exact ih (i + 1) m (by omega) (by omega)
theorem fil_8 : ∀ (u m x : Nat) (σ : gM) (f : Nat → Int32), DDo σ 1 f w h n → cU (fun t => f (123 + t)) n ≤ u → u + x ≤ 12 → u < m → ∃ r σ' f', fX8_fill_13 0 m σ (nI x) = some (nI (x + r), σ') ∧ (∀ c, c ≠ 11 → c ≠ 13 → c ≠ 15 → σ' c = σ c) ∧ DDo σ' 1 f' w h n ∧ cU (fun t => f' (123 + t)) n + r = cU (fun t => f (123 + t)) n := by
  intro u
  induction u with
  | zero =>
    intro m x σ f D hc hx hm
    have n12 := D.2.1.2.1.2.2.2.2
    obtain ⟨m, rfl⟩ : ∃ q, m = q + 1 := ⟨m - 1, by omega⟩
    rcases sca_8 D n 0 gF (by omega) (gF_lt (by omega)) with p8 | ⟨s, k, o, a1, a2, -⟩
    · refine ⟨0, σ, f, ?_, fun _ _ _ _ => rfl, D, rfl⟩
      rw [fX8_fill_13]
      by_cases c : (12 : Int32) ≤ nI x
      · rw [if_pos c]; rfl
      · unfold fX0_layNext
        rw [if_neg c, show fX0_layNext_2 (0 + 1) gF σ 0 = _ from p8, bp, if_pos rfl]
        rfl
    · have := cU_d1 (g := fun t => f (123 + t)) (v := s) (x := 0) a2 (by decide) n a1
      omega
  | succ u ih =>
    intro m x σ f D hc hx hm
    obtain ⟨w1, w6, h1, h6, n12⟩ := D.2.1.2.1
    have hwh := wh_le w6 h6
    obtain ⟨m, rfl⟩ : ∃ q, m = q + 1 := ⟨m - 1, by omega⟩
    have x12 : ¬ (12 : Int32) ≤ nI x := nI_ge (b := 12) (by omega) (by decide)
    rcases sca_8 D n 0 gF (by omega) (gF_lt (by omega)) with p8 | ⟨s, k, o, a1, a2, a3, a4, a5, p8⟩
    · refine ⟨0, σ, f, ?_, fun _ _ _ _ => rfl, D, rfl⟩
      unfold fX8_fill_13 fX0_layNext
      rw [if_neg x12, show fX0_layNext_2 (0 + 1) gF σ 0 = _ from p8, bp, if_pos rfl]
      rfl
    · obtain ⟨σ1, s1, A1, D1⟩ := put8 D a1 a3 a4 (fun t ht hq => absurd hq (sc_none a5 ht)) (Or.inl a2)
      have dn := cU_d1 (g := fun t => f (123 + t)) (v := s) (x := nI k) a2 (m1_ne (by omega)) n a1
      rw [← pF_pl (f := f) (s := s) (p := nI k) (o := nI o) (by omega)] at dn
      obtain ⟨r, σ2, f2, r8, B1, D2, e2⟩ := ih m (x + 1) σ1 _ D1 (by omega) (by omega) (by omega)
      refine ⟨r + 1, σ2, f2, ?_, fun c h1 h2 h3 => (B1 c h1 h2 h3).trans (A1 c (by omega) (by omega) (by omega)), D2, by omega⟩
      unfold fX8_fill_13 fX0_layNext
      rw [if_neg x12, show fX0_layNext_2 (0 + 1) gF σ 0 = _ from p8, s1, Option.bind_some, bp, if_neg n10, gl_e, nIa1, show x + (r + 1) = x + 1 + r by omega]
      exact r8
theorem fil_p (P : PP σ f w h n k g) : ∃ r σ' f', r ≤ 12 ∧ fX8_fill σ 0 = some (nI r, σ') ∧ PP σ' f' w h n (kN k) (kG k g f) ∧ nLy f' n = nLy f n + r := by
  have n12 := P.1.2.1.2.1.2.2.2.2
  obtain ⟨σ1, q8, A, H1, D1⟩ := kep P
  have cl := cU_le (fun t => f (123 + t)) n
  obtain ⟨r, σ2, f2, p8, B, D2, e⟩ := fil_8 (w := w) (h := h) (n := n) 12 gF 0 σ1 f D1 (by omega) (by decide) (gF_lt (by decide))
  have z1 := nLy_cU f n
  have z2 := nLy_cU f2 n
  refine ⟨r, σ2, f2, by omega, ?_, ⟨D2, H1.mv (fun c h1 h2 => B c (by omega) (by omega) (by omega))⟩, by omega⟩
  unfold fX8_fill
  rw [show fX3_keep σ (0 + 31) (0 + 1) = _ from q8, Option.bind_some, show fX8_fill_13 0 gF σ1 0 = _ from p8, Nat.zero_add]
