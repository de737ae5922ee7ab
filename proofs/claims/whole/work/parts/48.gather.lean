/-! THE CLASS GATHERS: rounds -/
theorem rouL {σ0 : gM} {f : Nat → Int32} {w h n : Nat} (D : DDo σ0 1 f w h n) (K : gM → Int32 → Option gM) (x2 : Int32) : ∀ (d i m : Nat) (σ : gM), i + d = n → d < m → BI σ0 f w h n σ → ∃ σ', fX2_gather_63 K 108 1 m σ x2 (nI i) = K σ' (x2 + 1) ∧ BI σ0 f w h n σ' ∧ (∀ x m, LE σ x m → LE σ' x m) ∧ ∀ s, i ≤ s → s < n → ∀ e, (e = 1 ∨ e = 2) → ∀ t, jn f w h n s e = some t → ∀ m, (LE σ s m → LE σ' t m) ∧ (LE σ t m → LE σ' s m) := by
  have n12 := D.2.1.2.1.2.2.2.2
  intro d
  induction d with
  | zero =>
    intro i m σ hi hm B
    obtain ⟨m, rfl⟩ : ∃ q, m = q + 1 := ⟨m - 1, by omega⟩
    refine ⟨σ, ?_, B, fun _ _ h => h, fun s h1 h2 => by omega⟩
    rw [fX2_gather_63, B.2.1, if_pos (nI_le (by omega) (by omega)), gl_e]
  | succ d ih =>
    intro i m σ hi hm B
    obtain ⟨m, rfl⟩ : ∃ q, m = q + 1 := ⟨m - 1, by omega⟩
    obtain ⟨σ1, p1, B1, M1, J1⟩ := joiL (s := i) (e := 1) D B (by omega) (by decide)
    obtain ⟨σ2, p2, B2, M2, J2⟩ := joiL (s := i) (e := 2) D B1 (by omega) (by decide)
    obtain ⟨σ', p, B', M, H⟩ := ih (i + 1) m σ2 (by omega) (by omega) B2
    refine ⟨σ', ?_, B', fun x m h => M x m (M2 x m (M1 x m h)), ?_⟩
    · rw [fX2_gather_63, B.2.1, if_neg (nI_ge (by omega) (by omega)), show fX2_join σ 108 1 (nI i) 1 = _ from p1, Option.bind_some, show fX2_join σ1 108 1 (nI i) 2 = _ from p2, Option.bind_some, gl_e, nIa1]
      exact p
    · intro s h1 h2 e he t ht m
      by_cases cs : s = i
      · subst cs
        rcases he with rfl | rfl
        · exact ⟨fun q => M _ _ (M2 _ _ ((J1 t ht m).1 q)), fun q => M _ _ (M2 _ _ ((J1 t ht m).2 q))⟩
        · exact ⟨fun q => M _ _ ((J2 t ht m).1 (M1 _ _ q)), fun q => M _ _ ((J2 t ht m).2 (M1 _ _ q))⟩
      · have := H s (by omega) h2 e he t ht m
        exact ⟨fun q => this.1 (M2 _ _ (M1 _ _ q)), fun q => this.2 (M2 _ _ (M1 _ _ q))⟩
theorem roundsL {σ0 : gM} {f : Nat → Int32} {w h n : Nat} (D : DDo σ0 1 f w h n) : ∀ (d i m : Nat) (σ : gM), i + d = n → d < m → BI σ0 f w h n σ → (∀ a s, s < n → f (123 + s) ≠ -1 → rch (Jn f w h n) i a s → LE σ s a) → ∃ σ', fX2_gather_53 108 1 m σ (nI i) = some σ' ∧ BI σ0 f w h n σ' ∧ (∀ a s, s < n → f (123 + s) ≠ -1 → rch (Jn f w h n) n a s → LE σ' s a) := by
  have n12 := D.2.1.2.1.2.2.2.2
  intro d
  induction d with
  | zero =>
    intro i m σ hi hm B H
    obtain ⟨m, rfl⟩ : ∃ q, m = q + 1 := ⟨m - 1, by omega⟩
    obtain rfl : i = n := by omega
    refine ⟨σ, ?_, B, H⟩
    rw [fX2_gather_53, B.2.1, if_pos (Int32.le_refl _)]
  | succ d ih =>
    intro i m σ hi hm B H
    obtain ⟨m, rfl⟩ : ∃ q, m = q + 1 := ⟨m - 1, by omega⟩
    obtain ⟨σ1, p1, B1, M1, J1⟩ := rouL D (fun σ2 y2 => fX2_gather_53 108 1 m σ2 y2) (nI i) n 0 gF σ (by omega) (gF_lt (by omega)) B
    obtain ⟨σ', p, B', H'⟩ := ih (i + 1) m σ1 (by omega) (by omega) B1 (fun a s hs ls hr => by
      rcases hr with hr | ⟨u, hr, hj⟩
      · exact M1 _ _ (H a s hs ls hr)
      · obtain ⟨hu, -, lu, -⟩ := hj.lies D.2.1
        have hL := H a u hu lu hr
        obtain ⟨e, he, q⟩ := hj.two D.2.1
        rcases q with ⟨h1, h2⟩ | ⟨h1, h2⟩
        · exact (J1 u (Nat.zero_le _) h1 e he s h2 a).1 hL
        · exact (J1 s (Nat.zero_le _) h1 e he u h2 a).2 hL)
    refine ⟨σ', ?_, B', H'⟩
    rw [fX2_gather_53, B.2.1, if_neg (nI_ge (by omega) (by omega)), show fX2_gather_63 (fun σ2 y2 => fX2_gather_53 108 1 m σ2 y2) 108 1 gF σ (nI i) 0 = _ from p1, nIa1]
    exact p
theorem gatI {σ0 : gM} {f : Nat → Int32} {w h n : Nat} (D : DDo σ0 1 f w h n) : ∀ (d i m : Nat) (σ : gM), i + d = n → d < m → (∀ c, c ≠ 108 → c ≠ 110 → σ c = σ0 c) → σ 108 1 = nI n → (∀ s, s < i → σ 110 s = if f (123 + s) = -1 then -1 else nI s) → ∃ σ', fX2_gather_13 108 1 m σ (nI i) = fX2_gather_53 108 1 gF σ' 0 ∧ BI σ0 f w h n σ' := by
  have n12 := D.2.1.2.1.2.2.2.2
  intro d
  induction d with
  | zero =>
    intro i m σ hi hm A z H
    obtain ⟨m, rfl⟩ : ∃ q, m = q + 1 := ⟨m - 1, by omega⟩
    refine ⟨σ, ?_, A, z, fun s hs c => ?_, fun s hs c => ⟨s, 0, ?_, Nat.le_refl _, hs, c, rfl⟩⟩
    · rw [fX2_gather_13, z, if_pos (nI_le (by omega) (by omega))]
    · rw [H s (by omega), if_pos c]
    · rw [H s (by omega), if_neg c]
  | succ d ih =>
    intro i m σ hi hm A z H
    obtain ⟨m, rfl⟩ : ∃ q, m = q + 1 := ⟨m - 1, by omega⟩
    have D' : DDo σ 1 f w h n := D.mv (fun c _ h2 => A c (by omega) (by omega))
    obtain ⟨σ', p, B⟩ := ih (i + 1) m (gset σ 110 (upd (σ 110) i (if f (123 + i) = -1 then -1 else nI i))) (by omega) (by omega) (fun c h1 h2 => (gset_ne h2).trans (A c h1 h2)) (by rw [gset_ne (by decide)]; exact z) (fun s hs => by
      rw [gset_at]
      by_cases cs : s = i
      · subst cs
        rw [pk_us]
      · rw [pk_un cs]
        exact H s (by omega))
    refine ⟨σ', ?_, B⟩
    rw [fX2_gather_13, z, if_neg (nI_ge (by omega) (by omega)), lie8 D' (by omega), Option.bind_some]
    by_cases c : f (123 + i) = -1
    · rw [if_pos c] at p
      rw [if_pos c, if_pos rfl, set_in (show i < gln (108 + 1 + 1) by rw [show gln (108 + 1 + 1) = 12 from g110]; omega), Option.bind_some, gl_e, nIa1]
      exact p
    · rw [if_neg c] at p
      rw [if_neg c, if_neg n10, set_in (show i < gln (108 + 1 + 1) by rw [show gln (108 + 1 + 1) = 12 from g110]; omega), Option.bind_some, gl_e, nIa1]
      exact p
/-- what is gathered -/
def GI (f : Nat → Int32) (w h n : Nat) (L : Nat → Int32) : Prop :=
  (∀ s, s < n → f (123 + s) = -1 → L s = -1) ∧
  (∀ s, s < n → f (123 + s) ≠ -1 → ∃ a q, L s = nI a ∧ a ≤ s ∧ a < n ∧ f (123 + a) ≠ -1 ∧ rch (Jn f w h n) q a s ∧ L a = nI a) ∧
  ∀ s t, Jn f w h n s t → L s = L t
theorem gat8 {σ : gM} {f : Nat → Int32} {w h n : Nat} (D : DDo σ 1 f w h n) : ∃ σ', fX2_gather σ 108 1 = some σ' ∧ (∀ c, c ≠ 108 → c ≠ 110 → σ' c = σ c) ∧ σ' 108 1 = nI n ∧ GI f w h n (σ' 110) := by
  have n12 := D.2.1.2.1.2.2.2.2
  obtain ⟨σ1, p1, B1⟩ := gatI D n 0 gF (gset σ 108 (upd (σ 108) 1 (nI n))) (by omega) (gF_lt (by omega)) (fun c h1 h2 => gset_ne h1) (by rw [gset_at, pk_us]) (fun s hs => by omega)
  obtain ⟨σ2, p2, B2, H⟩ := roundsL D n 0 gF σ1 (by omega) (gF_lt (by omega)) B1 (fun a s hs ls hr => by
    rw [rch_0] at hr
    subst hr
    obtain ⟨b, q, b1, b2, b3, -⟩ := B1.2.2.2 a hs ls
    exact ⟨b, b1, by omega, b2⟩)
  have HJ : ∀ u s, Jn f w h n u s → u < n ∧ s < n := fun u s q => ⟨(q.lies D.2.1).1, (q.lies D.2.1).2.1⟩
  have half : ∀ s t, Jn f w h n s t → ∀ a b, σ2 110 s = nI a → a < n → σ2 110 t = nI b → b < n → b ≤ a := by
    intro s t hj a b ea ha eb hb
    obtain ⟨hs, ht, ls, lt⟩ := hj.lies D.2.1
    obtain ⟨a', q, a1, a2, a3, a4, a5⟩ := B2.2.2.2 s hs ls
    have : a = a' := (nI_eq (by omega) (by omega)).mp (ea.symm.trans a1)
    subst this
    obtain ⟨z, z1, z2, z3⟩ := H a t ht lt (rch_n HJ ha (q + 1) t (Or.inr ⟨s, a5, hj⟩))
    have : b = z := (nI_eq (by omega) (by omega)).mp (eb.symm.trans z1)
    omega
  have G3 : ∀ s t, Jn f w h n s t → σ2 110 s = σ2 110 t := by
    intro s t hj
    obtain ⟨hs, ht, ls, lt⟩ := hj.lies D.2.1
    obtain ⟨a, -, a1, -, a3, -⟩ := B2.2.2.2 s hs ls
    obtain ⟨b, -, b1, -, b3, -⟩ := B2.2.2.2 t ht lt
    have h1 := half s t hj a b a1 a3 b1 b3
    have h2 := half t s (hj.sym D.2.1) b a b1 b3 a1 a3
    rw [a1, b1, show a = b by omega]
  have path : ∀ q a s, rch (Jn f w h n) q a s → σ2 110 a = σ2 110 s := by
    intro q
    induction q with
    | zero => intro a s hr; rw [rch_0] at hr; rw [hr]
    | succ q ih =>
      intro a s hr
      rcases hr with hr | ⟨u, hr, hj⟩
      · exact ih a s hr
      · exact (ih a u hr).trans (G3 u s hj)
  refine ⟨σ2, ?_, B2.1, B2.2.1, B2.2.2.1, fun s hs ls => ?_, G3⟩
  · unfold fX2_gather
    rw [show fX6_size σ (1 + 1) = _ from siz8 D, Option.bind_some, gl_e]
    exact p1.trans p2
  · obtain ⟨a, q, a1, a2, a3, a4, a5⟩ := B2.2.2.2 s hs ls
    exact ⟨a, q, a1, a2, a3, a4, a5, (path q a s a5).trans a1⟩
/-- how many least members lie below -/
def gRt (L : Nat → Int32) (i a : Nat) : Nat := if L i = nI i then a + 1 else a
def nRt (L : Nat → Int32) (x : Nat) : Nat := up (gRt L) x 0 0
theorem up_end {g : Nat → Nat → Nat} : ∀ d i a, up g (d + 1) i a = g (i + d) (up g d i a) := by
  intro d
  induction d with
  | zero => intro i a; rfl
  | succ d ih =>
    intro i a
    rw [up_s, ih, up_s, show i + 1 + d = i + (d + 1) by omega]
theorem nRt_s (L : Nat → Int32) (x : Nat) : nRt L (x + 1) = gRt L x (nRt L x) := by
  unfold nRt
  rw [up_end, Nat.zero_add]
theorem nRt_le (L : Nat → Int32) (x : Nat) : nRt L x ≤ x := by
  have := up_le (g := gRt L) (fun i a => by unfold gRt; split <;> omega) x 0 0
  unfold nRt
  omega
theorem cbwL {σ : gM} {n x : Nat} (z : σ 108 1 = nI n) (n12 : n ≤ 12) (hx : x ≤ n) : ∀ (d i m a : Nat), i + d = x → d < m → fX2_countBelow_4 σ 108 (nI x) m (nI a) (nI i) = some (nI (up (gRt (σ 110)) d i a)) := by
  intro d
  induction d with
  | zero =>
    intro i m a hi hm
    obtain ⟨m, rfl⟩ : ∃ q, m = q + 1 := ⟨m - 1, by omega⟩
    rw [fX2_countBelow_4, if_pos (nI_le (by omega) (by omega)), up_0]
  | succ d ih =>
    intro i m a hi hm
    obtain ⟨m, rfl⟩ : ∃ q, m = q + 1 := ⟨m - 1, by omega⟩
    rw [fX2_countBelow_4, if_neg (nI_ge (by omega) (by omega)), z, if_neg (nI_ge (by omega) (by omega)), get_in (show i < gln (108 + 1 + 1) by rw [show gln (108 + 1 + 1) = 12 from g110]; omega), Option.bind_some, up_s, show gRt (σ 110) i a = if σ 110 i = nI i then a + 1 else a from rfl]
    by_cases c : σ 110 i = nI i
    · rw [if_pos (show σ (108 + 1 + 1) i = nI i from c), if_pos c, gl_e, gl_e, nIa1, nIa1]
      exact ih (i + 1) m (a + 1) (by omega) (by omega)
    · rw [if_neg (show ¬ σ (108 + 1 + 1) i = nI i from c), if_neg c, gl_e, nIa1]
      exact ih (i + 1) m a (by omega) (by omega)
theorem cbw {σ : gM} {n x : Nat} (z : σ 108 1 = nI n) (n12 : n ≤ 12) (hx : x ≤ n) : fX2_countBelow σ 108 (nI x) = some (nI (nRt (σ 110) x)) := cbwL z n12 hx x 0 gF 0 (by omega) (gF_lt (by omega))
