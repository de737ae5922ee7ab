/-! CAN THE PAGE BE FILLED: purely, and on the class's side -/
/-- from a candidate on (scrap c/8, orientation c%8) one leads to the end -/
def wC (w h n : Nat) (F : (Nat → Int32) → Bool) (g : Nat → Int32) (k : Nat) : Nat → Nat → Bool
  | 0, _ => false
  | r + 1, c => if g (123 + c / 8) = -1 then (if nFlt g w h n (c / 8) k (c % 8) = 0 then (if F (pF g (c / 8) (nI k) (nI (c % 8))) = true then true else wC w h n F g k r (c + 1)) else wC w h n F g k r (c + 1)) else wC w h n F g k r (c + 1)
/-- d places from k on can be filled -/
def wt (w h n : Nat) : Nat → (Nat → Int32) → Nat → Bool
  | 0, _, _ => true
  | d + 1, g, k => wC w h n (fun g' => wt w h n d g' (k + 1)) g k (8 * n) 0
theorem wC_0 {w h n : Nat} {F : (Nat → Int32) → Bool} {g : Nat → Int32} {k c : Nat} : wC w h n F g k 0 c = false := rfl
theorem wC_s {w h n : Nat} {F : (Nat → Int32) → Bool} {g : Nat → Int32} {k r c : Nat} : wC w h n F g k (r + 1) c = if g (123 + c / 8) = -1 then (if nFlt g w h n (c / 8) k (c % 8) = 0 then (if F (pF g (c / 8) (nI k) (nI (c % 8))) = true then true else wC w h n F g k r (c + 1)) else wC w h n F g k r (c + 1)) else wC w h n F g k r (c + 1) := rfl
theorem wt_0 {w h n : Nat} {g : Nat → Int32} {k : Nat} : wt w h n 0 g k = true := rfl
theorem wt_s {w h n d : Nat} {g : Nat → Int32} {k : Nat} : wt w h n (d + 1) g k = wC w h n (fun g' => wt w h n d g' (k + 1)) g k (8 * n) 0 := rfl
/-- scraps lie only before place k -/
def PL (g : Nat → Int32) (n k : Nat) : Prop := ∀ s, s < n → g (123 + s) = -1 ∨ ∃ j, j < k ∧ g (123 + s) = nI j
theorem PL.fr {g : Nat → Int32} {n k : Nat} (p : PL g n k) (hk : k < 36) : (∀ t, t < n → ¬ g (123 + t) = nI k) ∧ sc g n k = none := by
  have H : ∀ t, t < n → ¬ g (123 + t) = nI k := by
    intro t ht q
    rcases p t ht with c | ⟨j, hj, c⟩
    · exact m1_ne' (show k < 2 ^ 31 by omega) (c.symm.trans q)
    · have := (nI_eq (show j < 2 ^ 31 by omega) (show k < 2 ^ 31 by omega)).mp (c.symm.trans q)
      omega
  refine ⟨H, ?_⟩
  cases hs : sc g n k with
  | none => rfl
  | some q => exact absurd (sc_lt hs).2 (H q (sc_lt hs).1)
theorem PL.put {g : Nat → Int32} {n k s : Nat} {o : Int32} (p : PL g n k) (n12 : n ≤ 12) (hs : s < n) : PL (pF g s (nI k) o) n (k + 1) := by
  intro t ht
  by_cases c : t = s
  · subst c
    exact Or.inr ⟨k, by omega, pF_p⟩
  · rw [pF_ne (by omega) (by omega)]
    rcases p t ht with q | ⟨j, hj, q⟩
    · exact Or.inl q
    · exact Or.inr ⟨j, by omega, q⟩
theorem pF_back {g : Nat → Int32} {s : Nat} {p o : Int32} (h1 : g (123 + s) = -1) (h2 : g (111 + s) = 0) : pF (pF g s p o) s (-1) 0 = g := by
  funext j
  by_cases c1 : j = 111 + s
  · rw [c1, pF_o, h2]
  · by_cases c2 : j = 123 + s
    · rw [c2, pF_p, h1]
    · rw [pF_ne c2 c1, pF_ne c2 c1]
/-- the answer on the class's side; on no the trial is as before -/
def OUT (w h n : Nat) (x : Option (Int32 × gM)) (b : Bool) (σ : gM) (g : Nat → Int32) : Prop := ∃ σ', x = some (if b = true then 1 else 0, σ') ∧ (∀ c, c ≠ 26 → c ≠ 28 → c ≠ 30 → σ' c = σ c) ∧ (b = false → DDo σ' 16 g w h n)
theorem OUT.mv {w h n : Nat} {x : Option (Int32 × gM)} {b : Bool} {σ σ1 : gM} {g : Nat → Int32} (H : OUT w h n x b σ1 g) (A : ∀ c, c ≠ 26 → c ≠ 28 → c ≠ 30 → σ1 c = σ c) : OUT w h n x b σ g := by
  obtain ⟨σ', a, b', c⟩ := H
  exact ⟨σ', a, fun c h1 h2 h3 => (b' c h1 h2 h3).trans (A c h1 h2 h3), c⟩
theorem fr34 {w h n k s : Nat} {g : Nat → Int32} {F : gM → Nat → Int32 → Option (Int32 × gM)} {F' : (Nat → Int32) → Bool} (hk : k < w * h) (hs : s < n) (P : PL g n k) (HF : ∀ σ g', DDo σ 16 g' w h n → PL g' n (k + 1) → OUT w h n (F σ 16 (nI (k + 1))) (F' g') σ g') (K21 : gM → Int32 → Option (Int32 × gM)) (j : Nat) (HK : ∀ σ, DDo σ 16 g w h n → OUT w h n (K21 σ (nI (s + 1))) (wC w h n F' g k j (8 * (s + 1))) σ g) : ∀ (i o m : Nat) (σ : gM), o + i = 8 → i < m → DDo σ 16 g w h n → OUT w h n (fX8_fillsFrom_34 F K21 16 (nI k) m σ (nI s) (nI o)) (wC w h n F' g k (j + i) (8 * s + o)) σ g := by
  intro i
  induction i with
  | zero =>
    intro o m σ hi hm D
    obtain ⟨m, rfl⟩ : ∃ q, m = q + 1 := ⟨m - 1, by omega⟩
    obtain rfl : o = 8 := by omega
    rw [fX8_fillsFrom_34, if_pos i8e, gl_e, nIa1]
    exact HK σ D
  | succ i ih =>
    intro o m σ hi hm D
    obtain ⟨m, rfl⟩ : ∃ q, m = q + 1 := ⟨m - 1, by omega⟩
    have O := D.2.1
    obtain ⟨w1, w6, h1, h6, n12⟩ := O.2.1
    have hwh := wh_le w6 h6
    rw [fX8_fillsFrom_34, if_neg (i8 (by omega)), lie8 D hs, Option.bind_some, show j + (i + 1) = (j + i) + 1 by omega, wC_s, show (8 * s + o) / 8 = s by omega, show (8 * s + o) % 8 = o by omega]
    by_cases c0 : g (123 + s) = -1
    · rw [if_pos c0, if_pos rfl, if_pos c0, clie8 D hs hk (by omega), Option.bind_some]
      by_cases c1 : nFlt g w h n s k o = 0
      · obtain ⟨σ1, s1, A1, D1⟩ := put8 D hs hk (show o < 8 by omega) (fun t ht hq => absurd hq ((P.fr (by omega)).1 t ht)) (Or.inl c0)
        obtain ⟨σ2, s2, A2, B2⟩ := HF σ1 _ D1 (P.put n12 hs)
        rw [if_pos c1, if_neg n10, if_pos c1, s1, Option.bind_some, nIa1, s2, bp]
        cases hb : F' (pF g s (nI k) (nI o)) with
        | true =>
          rw [if_pos rfl, if_neg n10, if_pos rfl]
          exact ⟨σ2, rfl, fun c h1 h2 h3 => (A2 c h1 h2 h3).trans (A1 c h1 h2 h3), fun q => by cases q⟩
        | false =>
          obtain ⟨σ3, s3, A3, D3⟩ := tak8 (B2 hb) hs hk pF_p
          rw [pF_back c0 (O.2.2.2.2.2.2.1 s hs c0)] at D3
          rw [if_neg (show ¬ false = true by decide), if_pos rfl, if_neg (show ¬ false = true by decide), s3, Option.bind_some, gl_e, nIa1]
          exact (ih (o + 1) m σ3 (by omega) (by omega) D3).mv (fun c h1 h2 h3 => (A3 c h1 h2 h3).trans ((A2 c h1 h2 h3).trans (A1 c h1 h2 h3)))
      · rw [if_neg c1, if_pos rfl, if_neg c1, gl_e, nIa1]
        exact ih (o + 1) m σ (by omega) (by omega) D
    · rw [if_neg c0, if_neg n10, if_neg c0, gl_e, nIa1]
      exact ih (o + 1) m σ (by omega) (by omega) D
theorem fr21 {w h n k : Nat} {g : Nat → Int32} {F : gM → Nat → Int32 → Option (Int32 × gM)} {F' : (Nat → Int32) → Bool} (hk : k < w * h) (P : PL g n k) (HF : ∀ σ g', DDo σ 16 g' w h n → PL g' n (k + 1) → OUT w h n (F σ 16 (nI (k + 1))) (F' g') σ g') : ∀ (j s m : Nat) (σ : gM), s + j = n → j < m → DDo σ 16 g w h n → OUT w h n (fX8_fillsFrom_21 F 16 (nI k) m σ (nI s)) (wC w h n F' g k (8 * j) (8 * s)) σ g := by
  intro j
  induction j with
  | zero =>
    intro s m σ hi hm D
    have n12 := D.2.1.2.1.2.2.2.2
    obtain ⟨m, rfl⟩ : ∃ q, m = q + 1 := ⟨m - 1, by omega⟩
    rw [fX8_fillsFrom_21, siz8 D, Option.bind_some, if_pos (nI_le (by omega) (by omega))]
    exact ⟨σ, rfl, fun _ _ _ _ => rfl, fun _ => D⟩
  | succ j ih =>
    intro s m σ hi hm D
    have n12 := D.2.1.2.1.2.2.2.2
    obtain ⟨m, rfl⟩ : ∃ q, m = q + 1 := ⟨m - 1, by omega⟩
    rw [fX8_fillsFrom_21, siz8 D, Option.bind_some, if_neg (nI_ge (by omega) (by omega))]
    exact fr34 hk (by omega) P HF (fun σ2 y2 => fX8_fillsFrom_21 F 16 (nI k) m σ2 y2) (8 * j) (fun σ D => ih (s + 1) m σ (by omega) (by omega) D) 8 0 gF σ rfl (gF_lt (by decide)) D
theorem fr8 {w h n : Nat} (h66 : w * h ≤ 6) : ∀ (d k m : Nat) (σ : gM) (g : Nat → Int32), k + d = w * h → d < m → DDo σ 16 g w h n → PL g n k → OUT w h n (fX8_fillsFrom m σ 16 (nI k)) (wt w h n d g k) σ g := by
  intro d
  induction d with
  | zero =>
    intro k m σ g hk hm D P
    obtain ⟨m, rfl⟩ : ∃ q, m = q + 1 := ⟨m - 1, by omega⟩
    refine ⟨σ, ?_, fun _ _ _ _ => rfl, fun q => by cases q⟩
    rw [wt_0, if_pos rfl, fX8_fillsFrom]
    by_cases c : (6 : Int32) ≤ nI k
    · rw [if_pos c]
    · rw [if_neg c, show fX4_places σ (16 + 8) = _ from pls8 D, Option.bind_some, if_neg (nI_nlt (by omega) (by omega))]
  | succ d ih =>
    intro k m σ g hk hm D P
    obtain ⟨m, rfl⟩ : ∃ q, m = q + 1 := ⟨m - 1, by omega⟩
    have n12 := D.2.1.2.1.2.2.2.2
    rw [wt_s, fX8_fillsFrom, if_neg (show ¬ (6 : Int32) ≤ nI k from nI_ge (b := 6) (by omega) (by decide)), show fX4_places σ (16 + 8) = _ from pls8 D, Option.bind_some, if_pos (nI_lt (by omega) (by omega))]
    exact fr21 (by omega) P (fun σ g' D' P' => ih (k + 1) m σ g' (by omega) (by omega) D' P') n 0 gF σ (by omega) (gF_lt (by omega)) D
