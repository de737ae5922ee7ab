/-- a whole object's stage: j references set, all made up to u -/
def pst (st : Nat → Nat → Bool) (t j u : Nat) : Nat → Nat → Bool := fun a b => if a = t ∧ b < j then true else if t + 1 ≤ a ∧ a < t + u then true else st a b
theorem pst_0 {st : Nat → Nat → Bool} {t a b : Nat} : pst st t 0 1 a b = st a b := by
  unfold pst
  rw [if_neg (by omega), if_neg (by omega)]
theorem pst_s {st : Nat → Nat → Bool} {t j u v a b : Nat} (h1 : 1 ≤ u) (h2 : u ≤ v) : pst st t (j + 1) v a b = sset (sdone (pst st t j u) (t + u) (t + v)) t j a b := by
  unfold sset sdone pst
  by_cases e : a = t ∧ b = j
  · rw [if_pos (by omega), if_pos e]
  · rw [if_neg e]
    by_cases e2 : t + u ≤ a ∧ a < t + v
    · rw [if_neg (by omega), if_pos (by omega), if_pos e2]
    · rw [if_neg e2]
      by_cases e3 : a = t ∧ b < j
      · rw [if_pos (by omega), if_pos e3]
      · rw [if_neg (by omega), if_neg e3]
        by_cases e4 : t + 1 ≤ a ∧ a < t + u
        · rw [if_pos (by omega), if_pos e4]
        · rw [if_neg (by omega), if_neg e4]
theorem pst_e {st : Nat → Nat → Bool} {t n v a b : Nat} (h : a = t → b < n) (hv : 1 ≤ v) : sdone st t (t + v) a b = pst st t n v a b := by
  unfold sdone pst
  by_cases e : a = t
  · have := h e
    rw [if_pos (by omega), if_pos (by omega)]
  · by_cases e2 : t + 1 ≤ a ∧ a < t + v
    · rw [if_pos (by omega), if_neg (by omega), if_pos e2]
    · rw [if_neg (by omega), if_neg (by omega), if_neg e2]
set_option maxHeartbeats 4000000 in
set_option maxRecDepth 100000 in
theorem nX8_init (l : Launch) (B : gBs) (st : Nat → Nat → Bool) (σ σ' : gM) (t : Nat) (hg : gl8 t) (hlo : blo B ≤ t) (F : qFr (t + 1) st σ) (h : fX8_init σ t = some σ') : Met l yX8_init (Cond.code yX8_init cX8_init 1 none :: gBig) ({ frames := 6, cells := 123, slots := 6114, locals := 146 }) (kPc (xmk B (t + 1) st) σ [.ref (bN B + t)]) (kQv (xmk B (t + 1) st) (xmk B (t + 124) (sdone st t (t + 124))) σ') 123 6114 (bA B) := by
  refine q_met (cc := cX8_init) (maxL := 1) (own := RX8) (by decide) rfl rfl rfl (Nat.le_of_ble_eq_true rfl) ?_
  intro p ev s m args below meth c Q C G Z hA hin ret ls hl
  obtain ⟨⟨hx, hb, hml, hown, hts⟩, hK⟩ := id C
  have hl : lv_has ls 1 [(0, .ref (bN B + t))] := hl
  have Z0 := Z
  unfold fX8_init at h
  have G := q_fin (st' := pst st t 0 1) G (fun a b _ _ => pst_0)
  have F : qFr (t + 1) (pst st t 0 1) σ := ⟨F.1, fun a b q => pst_0.trans (F.2 a b q)⟩
  refine lv_aload_n hx hb dX8_init_0 rfl (lv_at hl 0 rfl) ?_
  refine k_objInit C hl.1 u_ml_RX8_1 dX8_init_1 (Nat.le_of_ble_eq_true rfl) (Nat.le_of_ble_eq_true rfl) ?_
  refine lv_aload_n hx hb dX8_init_4 rfl (lv_at hl 0 rfl) ?_
  refine q_new (k := t + 1) (u := t + 2) (ci := 0) (C := RX0) (T := TX0) (N := 2) (fs := [.null, .null]) (q_C C) G Z rfl (by omega) hA rfl inB0 tyX0 tyX0_ok u_cl_RX8_7 u_ins_RX0 u_in_RX0 (by rw [gE_0 hg.2.1.1]; rw [gref_nullB (F.2 (t + 1) 0 (Nat.le_refl _))]; rw [gref_nullB (F.2 (t + 1) 1 (Nat.le_refl _))]) (fun j hj => by rcases (show j = 0 ∨ j = 1 by omega) with rfl | rfl <;> rfl) (Nat.le_of_ble_eq_true rfl) (Nat.le_of_ble_eq_true rfl) dX8_init_5 (fun H G Z => ?_)
  have F := q_fr_grow (u := t + 2) F (by omega)
  refine lv_dup hx hb dX8_init_8 rfl ?_
  obtain ⟨σ1, e_σ1, h⟩ := g_bind h
  refine q_call (q_runIN (t := t + 1) (n := 0) (As := []) (rest := [.ref (bN B + (t + 1)), .ref (bN B + t)]) (q_C C) G Z hA (nX0_init l B _ σ σ1 (t + 1) hg.2.1 (by omega) F e_σ1) rfl rfl u_in_RX0 (List.mem_of_getElem? (i := 0) rfl) u_im_yX0_init u_co_yX0_init rfl (by decide +kernel) ⟨Nat.le_of_ble_eq_true rfl, Nat.le_of_ble_eq_true rfl⟩ rfl hl.1 rfl (Nat.le_of_ble_eq_true rfl) dX8_init_9 ⟨Nat.le_of_ble_eq_true rfl, Nat.le_of_ble_eq_true rfl⟩) G (fun H locs G Z => ?_)
  have F := q_fr_done (t := t + 1) (u := t + 1 + 15) F (by omega) (fun k hk => fr_X0 e_σ1 k (by omega))
  rw [show t + 1 + 15 = t + 16 from rfl] at G Z F
  refine kq8_0 (q_C C) G ⟨hg.1, hlo, (by omega)⟩ hin u_fl_RX8_10 dX8_init_12 (fun H locs G Z2 => ?_)
  have Z := Z2.trans Z
  have F := q_fr_set (k := t) (j := 0) F (by omega)
  have G := q_fin (st' := pst st t 1 16) G (fun a b _ _ => pst_s (u := 1) (by omega) (by omega))
  have F : qFr (t + 16) (pst st t 1 16) σ1 := ⟨F.1, fun a b q => (pst_s (u := 1) (by omega) (by omega)).trans (F.2 a b q)⟩
  refine lv_aload_n hx hb dX8_init_15 rfl (lv_at hl 0 rfl) ?_
  refine q_new (k := t + 16) (u := t + 17) (ci := 0) (C := RX0) (T := TX0) (N := 2) (fs := [.null, .null]) (q_C C) G Z rfl (by omega) hA rfl inB0 tyX0 tyX0_ok u_cl_RX8_7 u_ins_RX0 u_in_RX0 (by rw [gE_0 hg.2.2.1.1]; rw [gref_nullB (F.2 (t + 16) 0 (Nat.le_refl _))]; rw [gref_nullB (F.2 (t + 16) 1 (Nat.le_refl _))]) (fun j hj => by rcases (show j = 0 ∨ j = 1 by omega) with rfl | rfl <;> rfl) (Nat.le_of_ble_eq_true rfl) (Nat.le_of_ble_eq_true rfl) dX8_init_16 (fun H G Z => ?_)
  have F := q_fr_grow (u := t + 17) F (by omega)
  refine lv_dup hx hb dX8_init_19 rfl ?_
  obtain ⟨σ2, e_σ2, h⟩ := g_bind h
  refine q_call (q_runIN (t := t + 16) (n := 0) (As := []) (rest := [.ref (bN B + (t + 16)), .ref (bN B + t)]) (q_C C) G Z hA (nX0_init l B _ σ1 σ2 (t + 16) hg.2.2.1 (by omega) F e_σ2) rfl rfl u_in_RX0 (List.mem_of_getElem? (i := 0) rfl) u_im_yX0_init u_co_yX0_init rfl (by decide +kernel) ⟨Nat.le_of_ble_eq_true rfl, Nat.le_of_ble_eq_true rfl⟩ rfl hl.1 rfl (Nat.le_of_ble_eq_true rfl) dX8_init_20 ⟨Nat.le_of_ble_eq_true rfl, Nat.le_of_ble_eq_true rfl⟩) G (fun H locs G Z => ?_)
  have F := q_fr_done (t := t + 16) (u := t + 16 + 15) F (by omega) (fun k hk => fr_X0 e_σ2 k (by omega))
  rw [show t + 16 + 15 = t + 31 from rfl] at G Z F
  refine kq8_1 (q_C C) G ⟨hg.1, hlo, (by omega)⟩ hin u_fl_RX8_16 dX8_init_23 (fun H locs G Z2 => ?_)
  have Z := Z2.trans Z
  have F := q_fr_set (k := t) (j := 1) F (by omega)
  have G := q_fin (st' := pst st t 2 31) G (fun a b _ _ => pst_s (u := 16) (by omega) (by omega))
  have F : qFr (t + 31) (pst st t 2 31) σ2 := ⟨F.1, fun a b q => (pst_s (u := 16) (by omega) (by omega)).trans (F.2 a b q)⟩
  refine lv_aload_n hx hb dX8_init_26 rfl (lv_at hl 0 rfl) ?_
  refine q_new (k := t + 31) (u := t + 32) (ci := 3) (C := RX3) (T := TX3) (N := 3) (fs := [.null, .int 0, .int 0]) (q_C C) G Z rfl (by omega) hA rfl inB3 tyX3 tyX3_ok u_cl_RX8_19 u_ins_RX3 u_in_RX3 (by rw [gE_3 hg.2.2.2.1.1, F.1 (t + 31) (Nat.le_refl _)]; rw [gref_nullB (F.2 (t + 31) 0 (Nat.le_refl _))]) (fun j hj => by rcases (show j = 0 ∨ j = 1 ∨ j = 2 by omega) with rfl | rfl | rfl <;> rfl) (Nat.le_of_ble_eq_true rfl) (Nat.le_of_ble_eq_true rfl) dX8_init_27 (fun H G Z => ?_)
  have F := q_fr_grow (u := t + 32) F (by omega)
  refine lv_dup hx hb dX8_init_30 rfl ?_
  have e_σ' := h
  refine q_call (q_runI (t := t + 31) (n := 0) (As := []) (rest := [.ref (bN B + (t + 31)), .ref (bN B + t)]) (q_C C) G Z hA (nX3_init l B _ σ2 σ' (t + 31) hg.2.2.2.1 (by omega) F e_σ') rfl rfl u_in_RX3 u_ml_RX8_21 u_im_yX3_init u_co_yX3_init rfl (by decide +kernel) ⟨Nat.le_of_ble_eq_true rfl, Nat.le_of_ble_eq_true rfl⟩ rfl hl.1 rfl (Nat.le_of_ble_eq_true rfl) dX8_init_31 ⟨Nat.le_of_ble_eq_true rfl, Nat.le_of_ble_eq_true rfl⟩) G (fun H locs G Z => ?_)
  have F := q_fr_done (t := t + 31) (u := t + 31 + 77) F (by omega) (fun k hk => fr_X3 e_σ' k (by omega))
  rw [show t + 31 + 77 = t + 108 from rfl] at G Z F
  refine kq8_2 (q_C C) G ⟨hg.1, hlo, (by omega)⟩ hin u_fl_RX8_22 dX8_init_34 (fun H locs G Z2 => ?_)
  have Z := Z2.trans Z
  have F := q_fr_set (k := t) (j := 2) F (by omega)
  have G := q_fin (st' := pst st t 3 108) G (fun a b _ _ => pst_s (u := 31) (by omega) (by omega))
  have F : qFr (t + 108) (pst st t 3 108) σ' := ⟨F.1, fun a b q => (pst_s (u := 31) (by omega) (by omega)).trans (F.2 a b q)⟩
  refine lv_aload_n hx hb dX8_init_37 rfl (lv_at hl 0 rfl) ?_
  refine q_new (k := t + 108) (u := t + 109) (ci := 2) (C := RX2) (T := TX2) (N := 2) (fs := [.null, .int 0]) (q_C C) G Z rfl (by omega) hA rfl inB2 tyX2 tyX2_ok u_cl_RX8_26 u_ins_RX2 u_in_RX2 (by rw [gE_2 hg.2.2.2.2.1.1, F.1 (t + 108) (Nat.le_refl _)]; rw [gref_nullB (F.2 (t + 108) 0 (Nat.le_refl _))]) (fun j hj => by rcases (show j = 0 ∨ j = 1 by omega) with rfl | rfl <;> rfl) (Nat.le_of_ble_eq_true rfl) (Nat.le_of_ble_eq_true rfl) dX8_init_38 (fun H G Z => ?_)
  have F := q_fr_grow (u := t + 109) F (by omega)
  refine lv_dup hx hb dX8_init_41 rfl ?_
  refine q_call (q_runIN (t := t + 108) (n := 0) (As := []) (rest := [.ref (bN B + (t + 108)), .ref (bN B + t)]) (q_C C) G Z hA (nX2_init l B _ σ' (t + 108) hg.2.2.2.2.1 (by omega) F) rfl rfl u_in_RX2 (List.mem_of_getElem? (i := 3) rfl) u_im_yX2_init u_co_yX2_init rfl (by decide +kernel) ⟨Nat.le_of_ble_eq_true rfl, Nat.le_of_ble_eq_true rfl⟩ rfl hl.1 rfl (Nat.le_of_ble_eq_true rfl) dX8_init_42 ⟨Nat.le_of_ble_eq_true rfl, Nat.le_of_ble_eq_true rfl⟩) G (fun H locs G Z => ?_)
  have F := q_fr_done (t := t + 108) (u := t + 108 + 3) F (by omega) (fun _ _ => rfl)
  rw [show t + 108 + 3 = t + 111 from rfl] at G Z F
  refine kq8_3 (q_C C) G ⟨hg.1, hlo, (by omega)⟩ hin u_fl_RX8_29 dX8_init_45 (fun H locs G Z2 => ?_)
  have Z := Z2.trans Z
  have F := q_fr_set (k := t) (j := 3) F (by omega)
  have G := q_fin (st' := pst st t 4 111) G (fun a b _ _ => pst_s (u := 108) (by omega) (by omega))
  have F : qFr (t + 111) (pst st t 4 111) σ' := ⟨F.1, fun a b q => (pst_s (u := 108) (by omega) (by omega)).trans (F.2 a b q)⟩
  refine lv_aload_n hx hb dX8_init_48 rfl (lv_at hl 0 rfl) ?_
  refine q_new (k := t + 111) (u := t + 112) (ci := 7) (C := RX7) (T := TX7) (N := 5) (fs := [.null, .null, .int 0, .int 0, .int 0]) (q_C C) G Z rfl (by omega) hA rfl inB7 tyX7 tyX7_ok u_cl_RX8_33 u_ins_RX7 u_in_RX7 (by rw [gE_7 hg.2.2.2.2.2.1.1, F.1 (t + 111) (Nat.le_refl _)]; rw [gref_nullB (F.2 (t + 111) 0 (Nat.le_refl _))]; rw [gref_nullB (F.2 (t + 111) 1 (Nat.le_refl _))]) (fun j hj => by rcases (show j = 0 ∨ j = 1 ∨ j = 2 ∨ j = 3 ∨ j = 4 by omega) with rfl | rfl | rfl | rfl | rfl <;> rfl) (Nat.le_of_ble_eq_true rfl) (Nat.le_of_ble_eq_true rfl) dX8_init_49 (fun H G Z => ?_)
  have F := q_fr_grow (u := t + 112) F (by omega)
  refine lv_dup hx hb dX8_init_52 rfl ?_
  refine q_call (q_runIN (t := t + 111) (n := 0) (As := []) (rest := [.ref (bN B + (t + 111)), .ref (bN B + t)]) (q_C C) G Z hA (nX7_init l B _ σ' (t + 111) hg.2.2.2.2.2.1 (by omega) F) rfl rfl u_in_RX7 (List.mem_of_getElem? (i := 4) rfl) u_im_yX7_init u_co_yX7_init rfl (by decide +kernel) ⟨Nat.le_of_ble_eq_true rfl, Nat.le_of_ble_eq_true rfl⟩ rfl hl.1 rfl (Nat.le_of_ble_eq_true rfl) dX8_init_53 ⟨Nat.le_of_ble_eq_true rfl, Nat.le_of_ble_eq_true rfl⟩) G (fun H locs G Z => ?_)
  have F := q_fr_done (t := t + 111) (u := t + 111 + 8) F (by omega) (fun _ _ => rfl)
  rw [show t + 111 + 8 = t + 119 from rfl] at G Z F
  refine kq8_4 (q_C C) G ⟨hg.1, hlo, (by omega)⟩ hin u_fl_RX8_36 dX8_init_56 (fun H locs G Z2 => ?_)
  have Z := Z2.trans Z
  have F := q_fr_set (k := t) (j := 4) F (by omega)
  have G := q_fin (st' := pst st t 5 119) G (fun a b _ _ => pst_s (u := 111) (by omega) (by omega))
  have F : qFr (t + 119) (pst st t 5 119) σ' := ⟨F.1, fun a b q => (pst_s (u := 111) (by omega) (by omega)).trans (F.2 a b q)⟩
  refine lv_aload_n hx hb dX8_init_59 rfl (lv_at hl 0 rfl) ?_
  refine q_new (k := t + 119) (u := t + 120) (ci := 1) (C := RX1) (T := TX1) (N := 3) (fs := [.null, .null, .int 0]) (q_C C) G Z rfl (by omega) hA rfl inB1 tyX1 tyX1_ok u_cl_RX8_40 u_ins_RX1 u_in_RX1 (by rw [gE_1 hg.2.2.2.2.2.2.1, F.1 (t + 119) (Nat.le_refl _)]; rw [gref_nullB (F.2 (t + 119) 0 (Nat.le_refl _))]; rw [gref_nullB (F.2 (t + 119) 1 (Nat.le_refl _))]) (fun j hj => by rcases (show j = 0 ∨ j = 1 ∨ j = 2 by omega) with rfl | rfl | rfl <;> rfl) (Nat.le_of_ble_eq_true rfl) (Nat.le_of_ble_eq_true rfl) dX8_init_60 (fun H G Z => ?_)
  have F := q_fr_grow (u := t + 120) F (by omega)
  refine lv_dup hx hb dX8_init_63 rfl ?_
  refine q_call (q_runIN (t := t + 119) (n := 0) (As := []) (rest := [.ref (bN B + (t + 119)), .ref (bN B + t)]) (q_C C) G Z hA (nX1_init l B _ σ' (t + 119) hg.2.2.2.2.2.2 (by omega) F) rfl rfl u_in_RX1 (List.mem_of_getElem? (i := 6) rfl) u_im_yX1_init u_co_yX1_init rfl (by decide +kernel) ⟨Nat.le_of_ble_eq_true rfl, Nat.le_of_ble_eq_true rfl⟩ rfl hl.1 rfl (Nat.le_of_ble_eq_true rfl) dX8_init_64 ⟨Nat.le_of_ble_eq_true rfl, Nat.le_of_ble_eq_true rfl⟩) G (fun H locs G Z => ?_)
  have F := q_fr_done (t := t + 119) (u := t + 119 + 5) F (by omega) (fun _ _ => rfl)
  rw [show t + 119 + 5 = t + 124 from rfl] at G Z F
  refine kq8_5 (q_C C) G ⟨hg.1, hlo, (by omega)⟩ hin u_fl_RX8_43 dX8_init_67 (fun H locs G Z2 => ?_)
  have Z := Z2.trans Z
  have F := q_fr_set (k := t) (j := 5) F (by omega)
  have G := q_fin (st' := pst st t 6 124) G (fun a b _ _ => pst_s (u := 119) (by omega) (by omega))
  have F : qFr (t + 124) (pst st t 6 124) σ' := ⟨F.1, fun a b q => (pst_s (u := 119) (by omega) (by omega)).trans (F.2 a b q)⟩
  refine W.widen (k := 123) (n := 6114) (by omega) (by omega) ?_
  refine ret dX8_init_70 (q_fin G ?_) Z
  intro k j q2 q3
  refine pst_e (fun e => ?_) (by omega)
  rw [e, hg.1] at q3
  have q3 : j = 0 ∨ j = 1 ∨ j = 2 ∨ j = 3 ∨ j = 4 ∨ j = 5 := by simpa [gneed, or_assoc] using q3
  omega
