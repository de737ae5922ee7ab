/-! THE START; ALL STEPS -/
theorem clr0 {σ : gM} {d : Nat} {f : Nat → Int32} (G : gD d) (z1 : σ (d + 1) 3 = 0) (f0 : f 0 = 4) (f1 : f 1 = 4) (f2 : f 2 = 0) : ∃ σ', fX0_init σ d = some σ' ∧ (∀ c, (c ≤ d + 7 ∨ d + 15 ≤ c) → σ' c = σ c) ∧ DDo σ' d f 4 4 0 := by
  have O' : OKf f 4 4 0 := ⟨⟨f0, f1, f2⟩, ⟨by decide, by decide, by decide, by decide, by decide⟩, fun s hs => by omega, fun s e hs => by omega, fun s hs => by omega, fun s hs => by omega, fun s hs => by omega, fun s t k hs => by omega⟩
  have k2 : ∀ c, c ≠ d + 8 → gset (gset σ (d + 8) (upd (σ (d + 8)) 3 4)) (d + 8) (upd (gset σ (d + 8) (upd (σ (d + 8)) 3 4) (d + 8)) 4 4) c = σ c := fun c hc => by rw [gset_ne hc, gset_ne hc]
  have k3 : gset (gset σ (d + 8) (upd (σ (d + 8)) 3 4)) (d + 8) (upd (gset σ (d + 8) (upd (σ (d + 8)) 3 4) (d + 8)) 4 4) (d + 8) 3 = 4 := by rw [gset_at, pk_un (by decide), gset_at, pk_us]
  have k4 : gset (gset σ (d + 8) (upd (σ (d + 8)) 3 4)) (d + 8) (upd (gset σ (d + 8) (upd (σ (d + 8)) 3 4) (d + 8)) 4 4) (d + 8) 4 = 4 := by rw [gset_at, pk_us]
  generalize hs2 : gset (gset σ (d + 8) (upd (σ (d + 8)) 3 4)) (d + 8) (upd (gset σ (d + 8) (upd (σ (d + 8)) 3 4) (d + 8)) 4 4) = s2 at k2 k3 k4
  obtain ⟨s3, a3, b3, c3⟩ := stA (σ := s2) (t := d + 8 + 1) (v := -1) G.2.2.2.1
  obtain ⟨s4, a4, b4, c4⟩ := stA (σ := s3) (t := d + 8 + 3) (v := 0) G.2.2.2.2.1
  obtain ⟨s5, a5, b5, c5⟩ := stA (σ := s4) (t := d + 8 + 5) (v := -1) G.2.2.2.2.2
  have far : ∀ c, c ≠ d + 8 → c ≠ d + 10 → c ≠ d + 12 → c ≠ d + 14 → s5 c = σ c := fun c h1 h2 h3 h4 => by rw [b5 c (by omega), b4 c (by omega), b3 c (by omega), k2 c h1]
  have e8 : s5 (d + 8) = s2 (d + 8) := by rw [b5 _ (by omega), b4 _ (by omega), b3 _ (by omega)]
  refine ⟨s5, ?_, fun c hc => far c (by omega) (by omega) (by omega) (by omega), G, O', ⟨?_, ?_, ?_⟩, fun s hs => by omega, fun s o e hs => by omega, ?_, ?_, ?_⟩
  · unfold fX0_init fX4_init fX4_clear
    rw [gl_e, gl_e, hs2, a3, Option.bind_some, a4, Option.bind_some, a5, Option.bind_some]
  · rw [far _ (by omega) (by omega) (by omega) (by omega)]
    exact z1
  · rw [e8]
    exact k3
  · rw [e8]
    exact k4
  · intro s hs
    rw [b5 _ (by omega), b4 _ (by omega), if_neg (by omega)]
    exact c3 s hs
  · intro s hs
    rw [b5 _ (by omega), if_neg (by omega)]
    exact c4 s hs
  · intro k hk
    exact c5 k hk
theorem start_facts : ∃ σ1, fX8_init (fun _ _ => 0) 0 = some σ1 ∧ RR (fX9_init σ1 124) (fX9_init σ1 124) := by
  have hf : ∀ j, (fun j : Nat => if j = 0 then (4 : Int32) else if j = 1 then 4 else 0) j = if j = 0 then (4 : Int32) else if j = 1 then 4 else 0 := fun _ => rfl
  obtain ⟨s1, p1, a1, D1⟩ := clr0 (σ := fun _ _ => 0) (f := fun j => if j = 0 then (4 : Int32) else if j = 1 then 4 else 0) gD_1 rfl rfl rfl rfl
  obtain ⟨s2, p2, a2, -⟩ := clr0 (σ := s1) (f := fun j => if j = 0 then (4 : Int32) else if j = 1 then 4 else 0) gD_16 (by rw [a1 17 (by omega)]) rfl rfl rfl
  obtain ⟨s3, p3, a3, -⟩ := clr0 (σ := s2) (d := 33) (f := fun j => if j = 0 then (4 : Int32) else if j = 1 then 4 else 0) (gD_h (j := 0) (by decide)) (by rw [a2 34 (by omega), a1 34 (by omega)]) rfl rfl rfl
  obtain ⟨s4, p4, a4, -⟩ := clr0 (σ := s3) (d := 48) (f := fun j => if j = 0 then (4 : Int32) else if j = 1 then 4 else 0) (gD_h (j := 1) (by decide)) (by rw [a3 49 (by omega), a2 49 (by omega), a1 49 (by omega)]) rfl rfl rfl
  obtain ⟨s5, p5, a5, -⟩ := clr0 (σ := s4) (d := 63) (f := fun j => if j = 0 then (4 : Int32) else if j = 1 then 4 else 0) (gD_h (j := 2) (by decide)) (by rw [a4 64 (by omega), a3 64 (by omega), a2 64 (by omega), a1 64 (by omega)]) rfl rfl rfl
  obtain ⟨s6, p6, a6, -⟩ := clr0 (σ := s5) (d := 78) (f := fun j => if j = 0 then (4 : Int32) else if j = 1 then 4 else 0) (gD_h (j := 3) (by decide)) (by rw [a5 79 (by omega), a4 79 (by omega), a3 79 (by omega), a2 79 (by omega), a1 79 (by omega)]) rfl rfl rfl
  obtain ⟨s7, p7, a7, -⟩ := clr0 (σ := s6) (d := 93) (f := fun j => if j = 0 then (4 : Int32) else if j = 1 then 4 else 0) (gD_h (j := 4) (by decide)) (by rw [a6 94 (by omega), a5 94 (by omega), a4 94 (by omega), a3 94 (by omega), a2 94 (by omega), a1 94 (by omega)]) rfl rfl rfl
  have old : ∀ c, (c = 31 ∨ 108 ≤ c) → s7 c = fun _ => 0 := fun c hc => by rw [a7 c (by omega), a6 c (by omega), a5 c (by omega), a4 c (by omega), a3 c (by omega), a2 c (by omega), a1 c (by omega)]
  have far : ∀ c, c ≤ 15 → s7 c = s1 c := fun c hc => by rw [a7 c (by omega), a6 c (by omega), a5 c (by omega), a4 c (by omega), a3 c (by omega), a2 c (by omega)]
  have n9 : ∀ c, c ≠ 125 → fX9_init s7 124 c = s7 c := fun c hc => by
    unfold fX9_init
    rw [gset_ne (show c ≠ 124 + 1 from hc), gset_ne (show c ≠ 124 + 1 from hc)]
  refine ⟨s7, ?_, ⟨4, 4, 0, ?_⟩, ⟨0, 0, by decide, by decide, ?_, ?_, ?_, fun i hi => by omega⟩, ⟨0, by decide, ?_, ?_, fun j hj => by omega⟩⟩
  · unfold fX8_init fX3_init
    rw [show fX0_init (fun _ _ => 0) (0 + 1) = _ from p1, Option.bind_some, show fX0_init s1 (0 + 16) = _ from p2, Option.bind_some, show fX0_init s2 (0 + 31 + 1 + (1 + 15 * 0)) = _ from p3, Option.bind_some, show fX0_init s3 (0 + 31 + 1 + (1 + 15 * 1)) = _ from p4, Option.bind_some, show fX0_init s4 (0 + 31 + 1 + (1 + 15 * 2)) = _ from p5, Option.bind_some, show fX0_init s5 (0 + 31 + 1 + (1 + 15 * 3)) = _ from p6, Option.bind_some]
    exact p7
  · have e5 : fX9_init s7 124 125 = fun j => if j = 0 then (4 : Int32) else if j = 1 then 4 else 0 := by
      unfold fX9_init
      rw [show (124 + 1 : Nat) = 125 from rfl, gset_at, gset_at, old 125 (by omega)]
      funext j
      by_cases c1 : j = 1
      · rw [c1, pk_us]
        rfl
      · rw [pk_un c1, if_neg c1]
        by_cases c0 : j = 0
        · rw [c0, pk_us]
          rfl
        · rw [pk_un c0, if_neg c0]
    rw [e5]
    exact D1.mv (fun c h1 h2 => (n9 c (by omega)).trans (far c (by omega)))
  · rw [n9 31 (by decide), old 31 (by omega)]
    rfl
  · rw [n9 124 (by decide), old 124 (by omega)]
    rfl
  · rw [n9 31 (by decide), old 31 (by omega)]
    rfl
  · rw [n9 111 (by decide), old 111 (by omega)]
    rfl
  · rw [n9 124 (by decide), old 124 (by omega)]
    rfl
theorem all_steps : gSteps RR := ⟨step_reset, step_addScrap, step_add, step_removeScrap, step_scrap, step_edge, step_undo, step_count, step_lay, step_force, step_lift, step_turn, step_at, step_reason, step_ways, step_bestFor, step_fill, step_member, step_canFill, step_type, step_clearText, step_fault⟩
