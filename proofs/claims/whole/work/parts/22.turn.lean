/-! THE REFERENCE TURNS A SCRAP -/
def Off2 (τ τ' : gM) : Prop := ∀ k, k ≠ 128 → k ≠ 129 → τ' k = τ k
theorem Off2.rf {τ : gM} : Off2 τ τ := fun _ _ _ => rfl
theorem Off2.tr {a b c : gM} (h : Off2 a b) (g : Off2 b c) : Off2 a c := fun k h1 h2 => (g k h1 h2).trans (h k h1 h2)
theorem k40 : ¬ ((0 : Int32) < 0 ∨ gln (124 + 4) ≤ (0 : Int32).toNatClampNeg) := by decide
theorem k41 : ¬ ((1 : Int32) < 0 ∨ gln (124 + 4) ≤ (1 : Int32).toNatClampNeg) := by decide
theorem k42 : ¬ ((2 : Int32) < 0 ∨ gln (124 + 4) ≤ (2 : Int32).toNatClampNeg) := by decide
theorem k43 : ¬ ((3 : Int32) < 0 ∨ gln (124 + 4) ≤ (3 : Int32).toNatClampNeg) := by decide
theorem k50 : ¬ ((0 : Int32) < 0 ∨ gln (124 + 5) ≤ (0 : Int32).toNatClampNeg) := by decide
theorem k51 : ¬ ((1 : Int32) < 0 ∨ gln (124 + 5) ≤ (1 : Int32).toNatClampNeg) := by decide
theorem k52 : ¬ ((2 : Int32) < 0 ∨ gln (124 + 5) ≤ (2 : Int32).toNatClampNeg) := by decide
theorem k53 : ¬ ((3 : Int32) < 0 ∨ gln (124 + 5) ≤ (3 : Int32).toNatClampNeg) := by decide
theorem cl_3 : (3 : Int32).toNatClampNeg = 3 := by decide
def rv9 (x : Int32) : Int32 := if 0 ≤ x then (((x - x / 10 * 10) * 100) + (((x / 10) - (x / 10) / 10 * 10) * 10)) + (x / 100) else x
theorem rv9_e {σ : gM} {x : Int32} : fX9_reversed σ x = some (rv9 x) := by
  unfold fX9_reversed rv9
  split <;> rfl
def rot1 (σ : gM) : gM := gset σ 128 (upd (σ 128) 0 (rv9 (σ 128 3)))
def rot2 (σ : gM) : gM := gset σ 128 (upd (σ 128) 3 (σ 128 2))
def rot3 (σ : gM) : gM := gset σ 128 (upd (σ 128) 2 (rv9 (σ 128 1)))
def rot4 (x : Int32) (σ : gM) : gM := gset σ 128 (upd (σ 128) 1 x)
def rot5 (σ : gM) : gM := gset σ 129 (upd (σ 129) 0 (σ 129 3))
def rot6 (σ : gM) : gM := gset σ 129 (upd (σ 129) 3 (σ 129 2))
def rot7 (σ : gM) : gM := gset σ 129 (upd (σ 129) 2 (σ 129 1))
def rot8 (x : Int32) (σ : gM) : gM := gset σ 129 (upd (σ 129) 1 x)
def rotA (σ : gM) : gM := rot4 (σ 128 0) (rot3 (rot2 (rot1 σ)))
def rotM (σ : gM) : gM := rot8 (rotA σ 129 0) (rot7 (rot6 (rot5 (rotA σ))))
theorem rot_step {σ : gM} {a1 a2 x : Int32} {n : Nat} (h : ¬ (a2 - a2 / 4 * 4) ≤ x) : fX9_turns_136 124 a1 a2 (n + 1) σ x = fX9_turns_136 124 a1 a2 n (rotM σ) (x + 1) := by
  rw [fX9_turns_136, if_neg h, if_pos k40, gl_e, if_pos k43, rv9_e, Option.bind_some, if_pos k40, gl_e, if_pos k42, if_pos k43, gl_e, if_pos k41, rv9_e, Option.bind_some, if_pos k42, gl_e, if_pos k41, gl_e, if_pos k50, gl_e, if_pos k53, if_pos k50, gl_e, if_pos k52, if_pos k53, gl_e, if_pos k51, if_pos k52, gl_e, if_pos k51, gl_e, gl_e, cl_0, cl_1, cl_2, cl_3]
  rfl
theorem rot_end {σ : gM} {a1 a2 x : Int32} {n : Nat} (h : (a2 - a2 / 4 * 4) ≤ x) : fX9_turns_136 124 a1 a2 (n + 1) σ x = some σ := by
  rw [fX9_turns_136, if_pos h]
theorem rot_off (σ : gM) : Off2 σ (rotM σ) := by
  intro k h1 h2
  simp only [rotM, rotA, rot1, rot2, rot3, rot4, rot5, rot6, rot7, rot8, gset, if_neg h1, if_neg h2]
theorem rot_at (σ : gM) : rotM σ 128 0 = rv9 (σ 128 3) ∧ rotM σ 128 1 = σ 128 0 ∧ rotM σ 128 2 = rv9 (σ 128 1) ∧ rotM σ 128 3 = σ 128 2 ∧ rotM σ 129 0 = σ 129 3 ∧ rotM σ 129 1 = σ 129 0 ∧ rotM σ 129 2 = σ 129 1 ∧ rotM σ 129 3 = σ 129 2 := ⟨rfl, rfl, rfl, rfl, rfl, rfl, rfl, rfl⟩
/-- one edge is taken over -/
def cpM (σ : gM) (i : Nat) (p l : Int32) : gM := gset (gset σ 128 (upd (σ 128) i p)) 129 (upd (σ 129) i l)
theorem cp_off (σ : gM) (i : Nat) (p l : Int32) : Off2 σ (cpM σ i p l) := by
  intro k h1 h2
  simp only [cpM, gset, if_neg h1, if_neg h2]
theorem ix3 (s i : Nat) : (3 + (4 * nI s)) + nI i = nI (3 + 4 * s + i) := by
  rw [show (3 : Int32) = nI 3 from rfl, show (4 : Int32) = nI 4 from rfl, pk_mul, nIa, nIa]
theorem ix51 (s i : Nat) : (51 + (4 * nI s)) + nI i = nI (51 + 4 * s + i) := by
  rw [show (51 : Int32) = nI 51 from rfl, show (4 : Int32) = nI 4 from rfl, pk_mul, nIa, nIa]
theorem ix99 (s : Nat) : 99 + nI s = nI (99 + s) := nIa 99 s
theorem ix111 (s : Nat) : 111 + nI s = nI (111 + s) := nIa 111 s
theorem ix123 (s : Nat) : 123 + nI s = nI (123 + s) := nIa 123 s
theorem c125 {k : Nat} (h : k < 135) : ¬ (nI k < 0 ∨ gln (124 + 1) ≤ (nI k).toNatClampNeg) := nI_in (show k < 135 from h) (by decide)
theorem c128 {k : Nat} (h : k < 4) : ¬ (nI k < 0 ∨ gln (124 + 4) ≤ (nI k).toNatClampNeg) := nI_in (show k < 4 from h) (by decide)
theorem c129 {k : Nat} (h : k < 4) : ¬ (nI k < 0 ∨ gln (124 + 5) ≤ (nI k).toNatClampNeg) := nI_in (show k < 4 from h) (by decide)
theorem cp0_step {σ : gM} {a2 : Int32} {s i n : Nat} (hs : s < 12) (hi : i < 4) : fX9_turns_14 124 (nI s) a2 (n + 1) σ 0 (nI i) = fX9_turns_14 124 (nI s) a2 n (cpM σ i (σ 125 (3 + 4 * s + i)) (σ 125 (51 + 4 * s + i))) 0 (nI (i + 1)) := by
  rw [fX9_turns_14, if_neg (show ¬ (4 : Int32) ≤ nI i from nI_ge hi (by decide)), if_pos rfl, ix3, if_pos (c125 (by omega)), gl_e, if_pos (c128 hi), gl_e, ix51, if_pos (c125 (by omega)), if_pos (c129 hi), gl_e, gl_e, nI_cl (by omega), nI_cl (by omega), nI_cl (by omega), nIa1]
  rfl
theorem cp_end {σ : gM} {a2 x3 : Int32} {s n : Nat} : fX9_turns_14 124 (nI s) a2 (n + 1) σ x3 (nI 4) = fX9_turns_136 124 (nI s) a2 gF σ 0 := by
  rw [fX9_turns_14, if_pos (show (4 : Int32) ≤ nI 4 by decide)]
