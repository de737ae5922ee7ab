/-! CAN THE PAGE BE FILLED: how long the reference's loop goes on -/
def Bf : Nat → Nat
  | 0 => 1
  | d + 1 => 49 * (1 + Bf d)
theorem Bf_s {d : Nat} : Bf (d + 1) = 49 * (1 + Bf d) := rfl
def ANS (k B : Nat) (τ : gM) (g : Nat → Int32) (b : Bool) : Prop := ∃ c τ', c ≤ B ∧ SF τ τ' ∧ (b = true → ∀ N, fX9_fillsAll_9 124 (N + c) τ (nI k) = some (1, τ')) ∧ (b = false → τ' 125 = g ∧ (∀ j, j < k → τ' 132 j = τ 132 j) ∧ ∀ N, fX9_fillsAll_9 124 (N + c) τ (nI k) = fX9_fillsAll_9 124 N τ' (nI k + -1))
def BNS (k B : Nat) (τ : gM) (g : Nat → Int32) (b : Bool) : Prop := ∃ c τ', c ≤ B ∧ SF τ τ' ∧ (b = true → ∀ N, bdy (N + c) (nI k) τ = some (1, τ')) ∧ (b = false → τ' 125 = g ∧ (∀ j, j < k → τ' 132 j = τ 132 j) ∧ ∀ N, bdy (N + c) (nI k) τ = fX9_fillsAll_9 124 N τ' (nI k + -1))
variable {w h n : Nat}
theorem SF.off {τ τ' : gM} (F : Off2 τ τ') : SF τ τ' := fun c _ h2 h3 _ => F c h2 h3
theorem SF.g5 {τ : gM} {v : Nat → Int32} : SF τ (gset τ 125 v) := fun c h1 _ _ _ => gset_ne h1
theorem SF.g2 {τ : gM} {v : Nat → Int32} : SF τ (gset τ 132 v) := fun c _ _ _ h4 => gset_ne h4
theorem srB {k d : Nat} {g : Nat → Int32} (O : OKf g w h n) (hk : k < w * h) (h66 : w * h ≤ 6) (P : PL g n k) (IH : ∀ (τ : gM) (g' : Nat → Int32), OKf g' w h n → PL g' n (k + 1) → τ 125 = g' → (k + 1 < w * h → τ 132 (k + 1) = -1) → ANS (k + 1) (Bf d) τ g' (wt w h n d g' (k + 1))) : ∀ (r c : Nat) (τ : gM), c + r = 8 * n → τ 125 = g → τ 132 k = nI c → BNS k (r * (1 + Bf d)) τ g (wC w h n (fun g' => wt w h n d g' (k + 1)) g k r c) := by
  have n12 := O.2.1.2.2.2.2
  intro r
  induction r with
  | zero =>
    intro c τ hc e5 et
    rcases bd_t O hk h66 (by omega) e5 et with ⟨-, H⟩ | ⟨q, -⟩ | ⟨q, -⟩ | ⟨q, -⟩
    · exact ⟨0, τ, Nat.zero_le _, SF.rf, (fun q => by cases q), fun _ => ⟨e5, fun _ _ => rfl, fun N => H N⟩⟩
    · omega
    · omega
    · omega
  | succ r ih =>
    intro c τ hc e5 et
    -- the next candidate, the place still empty
    have next : ∀ τ1 : gM, SF τ τ1 → τ1 125 = g → (∀ j, j ≤ k → τ1 132 j = τ 132 j) → (∀ m, bdy m (nI k) τ = fX9_fillsAll_9 124 m τ1 (nI k)) → BNS k ((r + 1) * (1 + Bf d)) τ g (wC w h n (fun g' => wt w h n d g' (k + 1)) g k r (c + 1)) := by
      intro τ1 S1 e51 et1 H
      obtain ⟨c', τ', b1, b2, b3, b4⟩ := ih (c + 1) (gset τ1 132 (upd (τ1 132) k (nI (c + 1)))) (by omega) (by rw [gset_ne (by decide)]; exact e51) (by rw [gset_at, pk_us])
      have go : ∀ N, bdy (N + (c' + 1)) (nI k) τ = bdy (N + c') (nI k) (gset τ1 132 (upd (τ1 132) k (nI (c + 1)))) := fun N => by
        rw [H, show N + (c' + 1) = (N + c') + 1 by omega, bd_f O hk h66 P e51 (c := c + 1) (by rw [et1 k (Nat.le_refl _), et, nIa1])]
      refine ⟨c' + 1, τ', ?_, S1.tr (SF.g2.tr b2), fun q N => (go N).trans (b3 q N), fun q => ⟨(b4 q).1, fun j hj => ?_, fun N => (go N).trans ((b4 q).2.2 N)⟩⟩
      · rw [Nat.add_mul]
        omega
      · rw [(b4 q).2.1 j hj, gset_at, pk_un (by omega), et1 j (by omega)]
    rw [wC_s]
    rcases bd_t O hk h66 (by omega) e5 et with ⟨q, -⟩ | ⟨q, c2, H⟩ | ⟨q, c2, c3, τ1, F1, H⟩ | ⟨q, c2, c3, τ1, S1, e1, t1, t2, H⟩
    · omega
    · rw [if_neg c2]
      exact next τ SF.rf e5 (fun _ _ => rfl) H
    · rw [if_pos c2, if_neg c3]
      exact next τ1 (SF.off F1) (by rw [F1 125 (by decide) (by decide)]; exact e5) (fun j _ => by rw [F1 132 (by decide) (by decide)]) H
    · have hs : c / 8 < n := by omega
      have O' : OKf (pF g (c / 8) (nI k) (nI (c % 8))) w h n := O.put (p := some k) hs (fun _ e => by cases e; exact hk) (by omega) (fun e => by cases e) (fun k' t e ht hq => by cases e; exact absurd hq ((P.fr (by omega)).1 t ht))
      obtain ⟨c1, τ2, a1, a2, a3, a4⟩ := IH τ1 _ O' (P.put n12 hs) e1 t2
      rw [if_pos c2, if_pos c3]
      cases hb : wt w h n d (pF g (c / 8) (nI k) (nI (c % 8))) (k + 1) with
      | true =>
        rw [if_pos rfl]
        refine ⟨c1, τ2, ?_, S1.tr a2, fun _ N => (H _).trans (a3 hb N), fun q => by cases q⟩
        have : (r + 1) * (1 + Bf d) = r * (1 + Bf d) + (1 + Bf d) := by rw [Nat.add_mul, Nat.one_mul]
        omega
      | false =>
        rw [if_neg (show ¬ false = true by decide)]
        obtain ⟨x1, x2, x3⟩ := a4 hb
        obtain ⟨c', τ', b1, b2, b3, b4⟩ := ih (c + 1) (gset (gset τ2 125 g) 132 (upd (τ2 132) k (nI (c + 1)))) (by omega) (by rw [gset_ne (by decide), gset_at]) (by rw [gset_at, pk_us])
        have go : ∀ N, bdy (N + (c' + 1 + c1)) (nI k) τ = bdy (N + c') (nI k) (gset (gset τ2 125 g) 132 (upd (τ2 132) k (nI (c + 1)))) := fun N => by
          rw [H, show N + (c' + 1 + c1) = (N + c' + 1) + c1 by omega, x3, pk_m1, bd_b O hk h66 hs (show c % 8 < 8 by omega) P c2 x1 (c := c + 1) (by rw [x2 k (by omega), t1 k (Nat.le_refl _), et, nIa1])]
        refine ⟨c' + 1 + c1, τ', ?_, S1.tr (a2.tr (SF.g5.tr (SF.g2.tr b2))), fun q N => (go N).trans (b3 q N), fun q => ⟨(b4 q).1, fun j hj => ?_, fun N => (go N).trans ((b4 q).2.2 N)⟩⟩
        · have : (r + 1) * (1 + Bf d) = r * (1 + Bf d) + (1 + Bf d) := by rw [Nat.add_mul, Nat.one_mul]
          omega
        · rw [(b4 q).2.1 j hj, gset_at, pk_un (by omega), x2 j (by omega), t1 j (by omega)]
theorem srA (h66 : w * h ≤ 6) (hn : n ≤ 6) (h1 : 1 ≤ w * h) : ∀ (d k : Nat) (τ : gM) (g : Nat → Int32), k + d = w * h → OKf g w h n → PL g n k → τ 125 = g → (k < w * h → τ 132 k = -1) → ANS k (Bf d) τ g (wt w h n d g k) := by
  intro d
  induction d with
  | zero =>
    intro k τ g hk O P e5 _
    obtain rfl : k = w * h := by omega
    refine ⟨1, τ, Nat.le_refl _, SF.rf, fun _ N => ?_, fun q => by cases q⟩
    rw [fX9_fillsAll_9, pls9 (w := w) (h := h) (n := n) (by rw [e5]; exact O), Option.bind_some, in9e, Option.bind_some, inI_p h1 (by omega), if_pos rfl, Option.bind_some, if_pos rfl]
  | succ d ih =>
    intro k τ g hk O P e5 et
    obtain ⟨c', τ', b1, b2, b3, b4⟩ := srB O (by omega) h66 P (fun τ g' O' P' e' t' => ih (k + 1) τ g' (by omega) O' P' e' t') (8 * n) 0 (gset τ 132 (upd (τ 132) k (nI 0))) (by omega) (by rw [gset_ne (by decide)]; exact e5) (by rw [gset_at, pk_us])
    have go : ∀ N, fX9_fillsAll_9 124 (N + (c' + 1)) τ (nI k) = bdy (N + c') (nI k) (gset τ 132 (upd (τ 132) k (nI 0))) := fun N => by
      rw [show N + (c' + 1) = (N + c') + 1 by omega, bd_f O (by omega) h66 P e5 (c := 0) (by rw [et (by omega)]; decide)]
    rw [wt_s]
    refine ⟨c' + 1, τ', ?_, SF.g2.tr b2, fun q N => (go N).trans (b3 q N), fun q => ⟨(b4 q).1, fun j hj => ?_, fun N => (go N).trans ((b4 q).2.2 N)⟩⟩
    · rw [Bf_s]
      have : 8 * n * (1 + Bf d) ≤ 48 * (1 + Bf d) := Nat.mul_le_mul_right _ (by omega)
      have : 49 * (1 + Bf d) = 48 * (1 + Bf d) + (1 + Bf d) := by rw [show 49 = 48 + 1 from rfl, Nat.add_mul, Nat.one_mul]
      omega
    · rw [(b4 q).2.1 j hj, gset_at, pk_un (by omega)]
theorem Bf_lt : ∀ d, d ≤ 6 → Bf d < gF := by
  intro d hd
  rcases (show d = 0 ∨ d = 1 ∨ d = 2 ∨ d = 3 ∨ d = 4 ∨ d = 5 ∨ d = 6 by omega) with rfl | rfl | rfl | rfl | rfl | rfl | rfl <;> decide
theorem fall (h66 : w * h ≤ 6) (hn : n ≤ 6) (h1 : 1 ≤ w * h) {τ : gM} {g : Nat → Int32} (O : OKf g w h n) (P : PL g n 0) (e5 : τ 125 = g) : ∃ τ', fX9_fillsAll τ 124 = some (if wt w h n (w * h) g 0 = true then 1 else 0, τ') ∧ SF τ τ' := by
  obtain ⟨c, τ', b1, b2, b3, b4⟩ := srA h66 hn h1 (w * h) 0 (gset τ 132 (upd (τ 132) 0 (-1))) g (by omega) O P (by rw [gset_ne (by decide)]; exact e5) (fun _ => by rw [gset_at, pk_us])
  have hB := Bf_lt (w * h) h66
  refine ⟨τ', ?_, SF.g2.tr b2⟩
  unfold fX9_fillsAll
  rw [if_pos (show ¬ ((0 : Int32) < 0 ∨ gln (124 + 8) ≤ (0 : Int32).toNatClampNeg) by decide), gl_e, cl_0]
  cases hb : wt w h n (w * h) g 0 with
  | true =>
    have := b3 hb (gF - c)
    rw [show gF - c + c = gF by omega] at this
    rw [if_pos rfl]
    exact this
  | false =>
    obtain ⟨x1, -, x3⟩ := b4 hb
    have := x3 (gF - c)
    obtain ⟨N, hN⟩ : ∃ N, gF - c = N + 1 := ⟨gF - c - 1, by omega⟩
    rw [show gF - c + c = gF by omega, hN, show nI 0 + -1 = -1 by decide, fX9_fillsAll_9, pls9 (w := w) (h := h) (n := n) (by rw [x1]; exact O), Option.bind_some, in9e, Option.bind_some, inI_m, if_pos rfl, Option.bind_some, if_neg (m1_ne' (by omega))] at this
    rw [if_neg (show ¬ false = true by decide)]
    exact this
