/-! THE START: both objects are made, then the loop -/
theorem fr_X8 {σ σ' : gM} {t : Nat} (h : fX8_init σ t = some σ') : ∀ k, (k < t ∨ t + 124 ≤ k) → σ' k = σ k := by
  intro k hk
  unfold fX8_init at h
  obtain ⟨σ1, h1, h⟩ := g_bind h
  obtain ⟨σ2, h2, h⟩ := g_bind h
  rw [fr_X3 h k (by omega), fr_X0 h2 k (by omega), fr_X0 h1 k (by omega)]
theorem hg8 : gl8 0 := by
  simp only [gl8, gl0, gl1, gl2, gl3, gl4, gl5, gl6, gl7]
  repeat' apply And.intro
  all_goals first
    | decide +kernel
    | (intro j hj
       rcases (show j = 0 ∨ j = 1 ∨ j = 2 ∨ j = 3 ∨ j = 4 by omega) with rfl | rfl | rfl | rfl | rfl <;> (repeat' apply And.intro) <;> decide +kernel)
theorem gN_start {s : State} {args : Array Value} (hts : ∀ w ∈ lw_tbl, w.before args s = true) : gN s := by
  refine ⟨?_, ?_, va_AO.of (hts _ (List.mem_append_right _ (List.mem_append_left _ (List.mem_of_getElem? (i := 113) rfl))))⟩
  · intro q hq
    refine va_Nw.of rfl (A := args) ?_
    revert q
    exact List.forall_mem_cons.mpr ⟨hts _ (List.mem_append_right _ (List.mem_append_left _ (List.mem_of_getElem? (i := 96) rfl))), List.forall_mem_cons.mpr ⟨hts _ (List.mem_append_right _ (List.mem_append_left _ (List.mem_of_getElem? (i := 97) rfl))), List.forall_mem_cons.mpr ⟨hts _ (List.mem_append_right _ (List.mem_append_left _ (List.mem_of_getElem? (i := 99) rfl))), List.forall_mem_cons.mpr ⟨hts _ (List.mem_append_right _ (List.mem_append_left _ (List.mem_of_getElem? (i := 100) rfl))), fun _ h => absurd h List.not_mem_nil⟩⟩⟩⟩
  · intro q hq
    refine va_Nw.of rfl (A := args) ?_
    revert q
    exact List.forall_mem_cons.mpr ⟨hts _ (List.mem_append_right _ (List.mem_append_left _ (List.mem_of_getElem? (i := 23) rfl))), List.forall_mem_cons.mpr ⟨hts _ (List.mem_append_right _ (List.mem_append_left _ (List.mem_of_getElem? (i := 29) rfl))), List.forall_mem_cons.mpr ⟨hts _ (List.mem_append_right _ (List.mem_append_left _ (List.mem_of_getElem? (i := 114) rfl))), List.forall_mem_cons.mpr ⟨hts _ (List.mem_append_right _ (List.mem_append_left _ (List.mem_of_getElem? (i := 127) rfl))), List.forall_mem_cons.mpr ⟨hts _ (List.mem_append_right _ (List.mem_append_left _ (List.mem_of_getElem? (i := 142) rfl))), List.forall_mem_cons.mpr ⟨hts _ (List.mem_append_right _ (List.mem_append_left _ (List.mem_of_getElem? (i := 150) rfl))), List.forall_mem_cons.mpr ⟨hts _ (List.mem_append_right _ (List.mem_append_left _ (List.mem_of_getElem? (i := 181) rfl))), fun _ h => absurd h List.not_mem_nil⟩⟩⟩⟩⟩⟩⟩
theorem cls_start {s : State} {args : Array Value} (hts : ∀ w ∈ gBig, w.before args s = true) : ∃ (dC : Nat → ClassId) (dI : Nat → Nat → Nat), ∀ (k : Nat) (q : vw_C), vwCl[k]? = some q → u_Kn s q.1 q.2.1 q.2.2 (dC k) (dI k) := by
  obtain ⟨c0, i0, k0⟩ := u_known (C := RX0) (T := TX0) (N := 2) (n := 2) hts inB0 (hts _ u_ins_RX0)
  obtain ⟨c1, i1, k1⟩ := u_known (C := RX1) (T := TX1) (N := 3) (n := 3) hts inB1 (hts _ u_ins_RX1)
  obtain ⟨c2, i2, k2⟩ := u_known (C := RX2) (T := TX2) (N := 2) (n := 2) hts inB2 (hts _ u_ins_RX2)
  obtain ⟨c3, i3, k3⟩ := u_known (C := RX3) (T := TX3) (N := 3) (n := 3) hts inB3 (hts _ u_ins_RX3)
  obtain ⟨c4, i4, k4⟩ := u_known (C := RX4) (T := TX4) (N := 5) (n := 5) hts inB4 (hts _ u_ins_RX4)
  obtain ⟨c5, i5, k5⟩ := u_known (C := RX5) (T := TX5) (N := 1) (n := 1) hts inB5 (hts _ u_ins_RX5)
  obtain ⟨c6, i6, k6⟩ := u_known (C := RX6) (T := TX6) (N := 4) (n := 4) hts inB6 (hts _ u_ins_RX6)
  obtain ⟨c7, i7, k7⟩ := u_known (C := RX7) (T := TX7) (N := 5) (n := 5) hts inB7 (hts _ u_ins_RX7)
  obtain ⟨c8, i8, k8⟩ := u_known (C := RX8) (T := TX8) (N := 6) (n := 6) hts inB8 (hts _ u_ins_RX8)
  refine ⟨fun k => if k = 0 then c0 else if k = 1 then c1 else if k = 2 then c2 else if k = 3 then c3 else if k = 4 then c4 else if k = 5 then c5 else if k = 6 then c6 else if k = 7 then c7 else c8, fun k => if k = 0 then i0 else if k = 1 then i1 else if k = 2 then i2 else if k = 3 then i3 else if k = 4 then i4 else if k = 5 then i5 else if k = 6 then i6 else if k = 7 then i7 else i8, ?_⟩
  intro k q hq
  match k, hq with
    | 0, hq => cases hq; exact k0
    | 1, hq => cases hq; exact k1
    | 2, hq => cases hq; exact k2
    | 3, hq => cases hq; exact k3
    | 4, hq => cases hq; exact k4
    | 5, hq => cases hq; exact k5
    | 6, hq => cases hq; exact k6
    | 7, hq => cases hq; exact k7
    | 8, hq => cases hq; exact k8
    | k + 9, hq => simp [vwCl] at hq
theorem arr_start {s : State} {args : Array Value} {ty : FieldType} (h : (Cond.arrayClass ty).before args s = true) (hp : ∀ cA, s.vm.findClass ("[" ++ ty.toString) = some cA → va_RA s cA ty) : ∃ cA : ClassId, ArrOfT s cA ty ∧ va_RA s cA ty := by
  obtain ⟨cA, kA, comp, h1, h2, h3⟩ := Cond.arrayClass_spec h
  exact ⟨cA, fun n z => ⟨fun k h => (by cases h), kA, h2, comp, h3⟩, hp cA h1⟩
theorem arrQ_start {s : State} (h : va_AO RX0 s) : ∃ cA : ClassId, ArrOfT s cA (.object RX0) ∧ va_RA s cA (.object RX0) := by
  obtain ⟨comp, cA, kA, h1, h2, h3, h4, h5⟩ := Cond.arrayOver_spec h
  exact ⟨cA, fun n z => ⟨fun k h => (by cases h), kA, h3, comp, h4⟩, kA, comp, h3, h4, h1, h5⟩
def st0 : Nat → Nat → Bool := fun _ _ => false
set_option maxHeartbeats 4000000 in
set_option maxRecDepth 100000 in
theorem start_open (l : Launch) {σ1 σ2 : gM} (h8 : fX8_init (fun _ _ => 0) 0 = some σ1) {b L : Nat} {xs : Nat → Int32} (hlaw : fL_law σ1 L xs 0 = some σ2) {p : Program} {ev : Env} {s : State} {m : MethodId} {below : List Frame} {meth : Method} {c : Code} (C0 : lw_At p s m meth c b L xs) : W p l ev room_1 s m #[Value.ref b] below meth c s.heap [] 0 0 (lw_Z below #[Value.ref b] s) (entryFrame m ([Value.ref b] : List Value).toArray 14) := by
  obtain ⟨hx, hb, hr, hml, hown, hts0, hX, hbl, hlocks, hgv⟩ := id C0
  have hts : ∀ w ∈ gBig, w.before #[Value.ref b] s = true := fun w h => hts0 w (List.mem_filter.mp h).1
  have hN : gN s := gN_start hts0
  obtain ⟨dC, dI, hKc⟩ := cls_start hts
  obtain ⟨cI, hI⟩ := arr_start (ty := .int) (hts _ u_ac_int) (fun _ h => h)
  obtain ⟨cQ, hQ⟩ := arrQ_start hN.2.2
  obtain ⟨B, hB⟩ : ∃ B : gBs, B = ((dC, dI), (cI, cI, cQ), (fun q : Nat => s.heap.size ≤ q), s.heap.size, 0, []) := ⟨_, rfl⟩
  have hlo : blo B = 0 := by rw [hB]; rfl
  have hNB : bN B = s.heap.size := by rw [hB]; rfl
  have hAB : bA B = fun q : Nat => s.heap.size ≤ q := by rw [hB]; rfl
  have hwB : B.2.2.2.2.2 = [] := by rw [hB]
  have hK : va_K (xD (xmk B 0 st0)) vwCl (xty (xmk B 0 st0)) s := by
    rw [hB]
    refine ⟨hKc, fun k q hq => ?_⟩
    match k, hq with
    | 0, hq => cases hq; exact hI
    | 1, hq => cases hq; exact hI
    | 2, hq => cases hq; exact hQ
    | k + 3, hq => simp [xty] at hq
  have C : gC (xmk B 0 st0) p s m #[Value.ref b] c code 14 RL := ⟨⟨hx, hb, hml, hown, hts⟩, hK, hN⟩
  have hA : ∀ q, s.heap.size ≤ q → bA B q := fun q h => by rw [hAB]; exact h
  have hbA : ¬ bA B b := by rw [hAB]; exact Nat.not_le.mpr hbl
  have eg : gws (xmk B 0 st0) (fun _ _ => 0) = [] := by rw [hB]; rfl
  have G : gG (xmk B 0 st0) (fun _ _ => 0) s s.heap [] := ⟨by rw [eg]; exact fun k q h => by simp at h, by rw [eg]; exact ⟨fun i j p q h => by simp at h, fun k q h => by simp at h⟩, va_S.rf⟩
  have F : qFr 0 st0 (fun _ _ => 0) := ⟨fun _ _ => rfl, fun _ _ _ => rfl⟩
  have Z : s.heap.size = bN B + 0 := by rw [hNB]; rfl
  have hl := lv_entry ([.ref b]) (n := 14) (Nat.le_of_ble_eq_true rfl)
  rw [lg_entry_eq]
  generalize (lg_sl ([.ref b]) ++ List.replicate (14 - (lg_sl ([.ref b])).length) Slot.unset).toArray = ls at hl ⊢
  have hl : lv_has ls 14 [(0, .ref b)] := hl
  refine q_new (k := 0) (u := 1) (ci := 8) (C := RX8) (T := TX8) (N := 6) (fs := [.null, .null, .null, .null, .null, .null]) (q_C C) G Z rfl (by omega) hA rfl inB8 tyX8 tyX8_ok u_cl_RL_10 u_ins_RX8 u_in_RX8 (by rw [gE_8 hg8.1]; rw [gref_nullB rfl, gref_nullB rfl, gref_nullB rfl, gref_nullB rfl, gref_nullB rfl, gref_nullB rfl]) (fun j hj => by rcases (show j = 0 ∨ j = 1 ∨ j = 2 ∨ j = 3 ∨ j = 4 ∨ j = 5 by omega) with rfl | rfl | rfl | rfl | rfl | rfl <;> rfl) (Nat.le_of_ble_eq_true rfl) (Nat.le_of_ble_eq_true rfl) dL_law_0 (fun H G Z => ?_)
  have F := q_fr_grow (u := 0 + 1) F (by omega)
  refine lv_dup hx hb dL_law_3 rfl ?_
  refine q_call (q_runI (t := 0) (n := 0) (As := []) (rest := [.ref (bN B + 0)]) (q_C C) G Z hA (nX8_init l B _ _ σ1 0 hg8 (by omega) F h8) rfl rfl u_in_RX8 u_ml_RL_37 u_im_yX8_init u_co_yX8_init rfl (by decide +kernel) ⟨Nat.le_of_ble_eq_true rfl, Nat.le_of_ble_eq_true rfl⟩ rfl hl.1 rfl (Nat.le_of_ble_eq_true rfl) dL_law_4 ⟨Nat.le_of_ble_eq_true rfl, Nat.le_of_ble_eq_true rfl⟩) G (fun H locs G Z => ?_)
  have F := q_fr_done (t := 0) (u := 0 + 124) F (by omega) (fun k hk => fr_X8 h8 k (by omega))
  refine lv_astore_n (lv' := [(1, .ref (bN B + 0)), (0, .ref b)]) hx hb dL_law_7 rfl hl (by decide) rfl (fun ls hl => ?_)
  have ok : gok8 (xmk B (0 + 124) (sdone st0 0 (0 + 124))) 0 := gok_8 hg8 (by show blo B ≤ 0; omega) (by show 0 + 124 ≤ 0 + 124; omega) (fun k j h1 h2 => if_pos ⟨h1, h2⟩)
  exact wL_law l (X := xmk B (0 + 124) (sdone st0 0 (0 + 124))) (t := 0) (q_C C) hX hbl hbA ok ⟨Nat.le_of_ble_eq_true rfl, Nat.le_of_ble_eq_true rfl⟩ hlaw (fun {pc H locs ls σ2} hdg G => by
    refine va_forget (fun q hq => by have h := G.2.2.2.2 q hq; have h : bA B q.base := h; rw [hAB] at h; exact h) ?_
    refine W.widen (k := 600000) (n := 7302250) (Nat.le_of_ble_eq_true rfl) (Nat.le_of_ble_eq_true rfl) ?_
    exact lw_ret hx hb hr hlocks hdg) G hl
