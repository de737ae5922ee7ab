/-! p25: SUMS -/
def sm (g : Nat → Nat) : Nat → Nat
  | 0 => 0
  | n + 1 => sm g n + g n
theorem sm_0 {g : Nat → Nat} : sm g 0 = 0 := rfl
theorem sm_s {g : Nat → Nat} {n : Nat} : sm g (n + 1) = sm g n + g n := rfl
theorem sm_cong {g g' : Nat → Nat} : ∀ n, (∀ i, i < n → g i = g' i) → sm g n = sm g' n := by
  intro n
  induction n with
  | zero => intro _; rfl
  | succ n ih => intro H; rw [sm_s, sm_s, ih (fun i hi => H i (by omega)), H n (by omega)]
theorem sm_le {g g' : Nat → Nat} : ∀ n, (∀ i, i < n → g i ≤ g' i) → sm g n ≤ sm g' n := by
  intro n
  induction n with
  | zero => intro _; exact Nat.le_refl _
  | succ n ih =>
    intro H
    have h1 := ih (fun i hi => H i (by omega))
    have h2 := H n (by omega)
    rw [sm_s, sm_s]
    omega
theorem sm_add {g g' : Nat → Nat} : ∀ n, sm (fun i => g i + g' i) n = sm g n + sm g' n := by
  intro n
  induction n with
  | zero => rfl
  | succ n ih => rw [sm_s, sm_s, sm_s, ih]; omega
theorem sm_z : ∀ n, sm (fun _ => 0) n = 0 := by
  intro n
  induction n with
  | zero => rfl
  | succ n ih => rw [sm_s, ih]
theorem sm_swap {G : Nat → Nat → Nat} : ∀ n m, sm (fun i => sm (G i) m) n = sm (fun j => sm (fun i => G i j) n) m := by
  intro n m
  induction n with
  | zero =>
    exact ((sm_cong m (g' := fun _ => 0) (fun i _ => rfl)).trans (sm_z m)).symm
  | succ n ih =>
    rw [sm_s, ih, ← sm_add]
    exact sm_cong m (fun j _ => rfl)
theorem sm_one {p : Nat} : ∀ m, sm (fun j => if j = p then 1 else 0) m = if p < m then 1 else 0 := by
  intro m
  induction m with
  | zero => rfl
  | succ m ih =>
    rw [sm_s, ih]
    by_cases c : m = p
    · rw [if_pos c, if_neg (by omega), if_pos (by omega)]
    · rw [if_neg c]
      by_cases c2 : p < m
      · rw [if_pos c2, if_pos (by omega)]
      · rw [if_neg c2, if_neg (by omega)]
theorem sm_opt {p : Option Nat} {m : Nat} (h : ∀ v, p = some v → v < m) : sm (fun j => if p = some j then 1 else 0) m = if p = none then 0 else 1 := by
  cases p with
  | none =>
    rw [if_pos rfl]
    exact (sm_cong m (fun i _ => if_neg (by simp))).trans (sm_z m)
  | some v =>
    rw [if_neg (by simp)]
    have e : sm (fun j => if some v = some j then 1 else 0) m = sm (fun j => if j = v then 1 else 0) m := sm_cong m (fun i _ => by
      by_cases c : i = v
      · rw [if_pos (by rw [c]), if_pos c]
      · rw [if_neg (fun q => c (Option.some.inj q).symm), if_neg c])
    rw [e, sm_one, if_pos (h v rfl)]
/-- at most one of the first m -/
theorem sm_uni {P : Nat → Bool} : ∀ m, (∀ i j, i < m → j < m → P i = true → P j = true → i = j) → sm (fun j => if P j = true then 1 else 0) m ≤ 1 ∧ (∀ j, j < m → P j = true → sm (fun j => if P j = true then 1 else 0) m = 1) ∧ ((∀ j, j < m → P j = false) → sm (fun j => if P j = true then 1 else 0) m = 0) := by
  intro m
  induction m with
  | zero => intro _; exact ⟨by rw [sm_0]; omega, fun j hj => by omega, fun _ => rfl⟩
  | succ m ih =>
    intro U
    obtain ⟨h1, h2, h3⟩ := ih (fun i j hi hj => U i j (by omega) (by omega))
    rw [sm_s]
    by_cases c : P m = true
    · have z : sm (fun j => if P j = true then 1 else 0) m = 0 := h3 (fun j hj => by
        cases hp : P j with
        | false => rfl
        | true => have := U j m (by omega) (by omega) hp c; omega)
      rw [z, if_pos c]
      exact ⟨by omega, fun _ _ _ => rfl, fun q => by rw [q m (by omega)] at c; cases c⟩
    · rw [if_neg c, Nat.add_zero]
      refine ⟨h1, fun j hj hp => h2 j ?_ hp, fun q => h3 (fun j hj => q j (by omega))⟩
      have : j ≠ m := fun e => c (e ▸ hp)
      omega
/-- a running sum is a sum -/
theorem up_sm {g : Nat → Nat} {G : Nat → Nat → Nat} (hG : ∀ i a, G i a = a + g i) : ∀ n a, up G n 0 a = a + sm g n := by
  intro n
  induction n with
  | zero => intro a; rfl
  | succ n ih => intro a; rw [up_end, Nat.zero_add, hG, ih, sm_s]; omega
/-- four edges -/
def s4 (g : Nat → Nat) : Nat := g 0 + g 1 + g 2 + g 3
theorem u4_sm {g : Nat → Nat → Nat} {s a : Nat} : u4 g s a = a + s4 (g s) := by
  unfold u4
  rw [up_sm (g := g s) (G := aE g s) (fun i a => rfl)]
  unfold s4
  rw [sm_s, sm_s, sm_s, sm_s, sm_0]
  omega
theorem up_u4 {g : Nat → Nat → Nat} (n : Nat) : up (u4 g) n 0 0 = sm (fun s => s4 (g s)) n := by
  rw [up_sm (g := fun s => s4 (g s)) (G := u4 g) (fun i a => u4_sm), Nat.zero_add]
theorem sm_s4 {g : Nat → Nat → Nat} (n : Nat) : sm (fun s => s4 (g s)) n = s4 (fun e => sm (fun s => g s e) n) := by
  induction n with
  | zero => rfl
  | succ n ih =>
    rw [sm_s, ih]
    unfold s4
    dsimp only
    rw [sm_s, sm_s, sm_s, sm_s]
    omega
theorem cn_sm {P : Nat → Bool} : ∀ n, cn P n = sm (fun s => if P s = true then 1 else 0) n := by
  intro n
  induction n with
  | zero => rfl
  | succ n ih => rw [cn_s, sm_s, ih]
theorem cn_le {P : Nat → Bool} : ∀ d n, cn P n ≤ cn P (n + d) := by
  intro d
  induction d with
  | zero => intro n; exact Nat.le_refl _
  | succ d ih =>
    intro n
    have := ih n
    rw [show n + (d + 1) = n + d + 1 by omega, cn_s]
    omega
theorem cn_mono {P : Nat → Bool} {a b : Nat} (h : a ≤ b) : cn P a ≤ cn P b := by
  have := cn_le (P := P) (b - a) a
  rw [show a + (b - a) = b by omega] at this
  exact this
theorem cn_lt {P : Nat → Bool} {a b : Nat} (h : a < b) (hp : P a = true) : cn P a < cn P b := by
  have h1 := cn_mono (P := P) (show a + 1 ≤ b by omega)
  rw [cn_s, if_pos hp] at h1
  omega
