def fL_law_591 (K192 : gM → Int32 → Int32 → Option (gM)) (L : Nat) (xs : Nat → Int32) (t : Nat) : Nat → gM → Int32 → Int32 → Option (gM)
  | 0, _, _, _ => none
  | n + 1, σ, x3, x4 =>
    ((fL_holds σ t).bind fun pv87 => gl pv87.1 fun v87 => gl pv87.2 fun σ88 =>
    (if v87 = 0 then
      none
    else
      (gl (x4 + 1) fun w90 =>
      K192 σ88 x3 w90)))

def fL_law_192 (L : Nat) (xs : Nat → Int32) (t : Nat) : Nat → gM → Int32 → Int32 → Option (gM)
  | 0, _, _, _ => none
  | n + 1, σ, x3, x4 =>
    (if 30 ≤ x4 then
      ((fX8_count σ t 1).bind fun pv16 => gl pv16.1 fun v16 => gl pv16.2 fun σ17 =>
      ((fX8_fill σ17 t).bind fun pv18 => gl pv18.1 fun v18 => gl pv18.2 fun σ19 =>
      (if v18 < 0 then
        none
      else
        ((fX8_count σ19 t 1).bind fun pv22 => gl pv22.1 fun v22 => gl pv22.2 fun σ23 =>
        (if v22 = (v16 + v18) then
          ((fL_holds σ23 t).bind fun pv25 => gl pv25.1 fun v25 => gl pv25.2 fun σ26 =>
          (if v25 = 0 then
            none
          else
            ((fX8_undo σ26 t).bind fun pv28 => gl pv28.1 fun v28 => gl pv28.2 fun σ29 =>
            (if v28 < 0 then
              none
            else
              ((fX8_count σ29 t 1).bind fun pv31 => gl pv31.1 fun v31 => gl pv31.2 fun σ32 =>
              (if v31 = v16 then
                ((fX8_count σ32 t 0).bind fun pv34 => gl pv34.1 fun v34 => gl pv34.2 fun σ35 =>
                ((fX8_scrap σ35 t 0 2).bind fun pv36 => gl pv36.1 fun v36 => gl pv36.2 fun σ37 =>
                (gl (if 0 ≤ v36 then (v16 - 1) else v16) fun w38 =>
                ((fX8_removeScrap σ37 t 0).bind fun pv42 => gl pv42.1 fun v42 => gl pv42.2 fun σ43 =>
                (if v42 = (v34 - 1) then
                  ((fX8_count σ43 t 1).bind fun pv45 => gl pv45.1 fun v45 => gl pv45.2 fun σ46 =>
                  (if v45 = w38 then
                    ((fL_holds σ46 t).bind fun pv48 => gl pv48.1 fun v48 => gl pv48.2 fun σ49 =>
                    (if v48 = 0 then
                      none
                    else
                      ((fX8_undo σ49 t).bind fun pv51 => gl pv51.1 fun v51 => gl pv51.2 fun σ52 =>
                      (if v51 < 0 then
                        none
                      else
                        ((fX8_count σ52 t 0).bind fun pv54 => gl pv54.1 fun v54 => gl pv54.2 fun σ55 =>
                        (if v54 = v34 then
                          ((fX8_count σ55 t 1).bind fun pv57 => gl pv57.1 fun v57 => gl pv57.2 fun σ58 =>
                          (if v57 = v16 then
                            some σ58
                          else
                            none))
                        else
                          none))))))
                  else
                    none))
                else
                  none)))))
              else
                none))))))
        else
          none)))))
    else
      ((fL_cell L xs (10 + x4)).bind fun v61 =>
      (gl (v61 - v61 / 8 * 8) fun w62 =>
      (if ¬ x3 = 0 then
      (gl ((v61 / 8) - (v61 / 8) / x3 * x3) fun w64 =>
      (gl ((v61 / 200) - (v61 / 200) / 8 * 8) fun w65 =>
      ((fX8_scrap σ t w62 2).bind fun pv66 => gl pv66.1 fun v66 => gl pv66.2 fun σ67 =>
      (gl (if v66 < 0 then (0 : Int32) else (1 : Int32)) fun w68 =>
      ((fX8_at σ67 t w64).bind fun v71 =>
      (gl (if v71 < 0 then (0 : Int32) else (1 : Int32)) fun w72 =>
      ((fX8_count σ67 t 10).bind fun pv75 => gl pv75.1 fun v75 => gl pv75.2 fun σ76 =>
      (if (v61 - v61 / 3 * 3) = 0 then
        ((fX8_ways σ76 t w62 w64).bind fun v78 =>
        ((fX8_lay σ76 t w62 w64 w65).bind fun pv79 => gl pv79.1 fun v79 => gl pv79.2 fun σ80 =>
        (if v79 < 0 then
          (if v79 = (-1002) then
            ((fX8_count σ80 t 10).bind fun pv83 => gl pv83.1 fun v83 => gl pv83.2 fun σ84 =>
            (if v83 = v75 then
              fL_law_591 (fun σ2 y3 y4 => fL_law_192 L xs t n σ2 y3 y4) L xs t gF σ84 x3 x4
            else
              none))
          else
            none)
        else
          (if w68 = 0 then
            (if w72 = 0 then
              (if v78 ≤ 0 then
                none
              else
                ((fX8_scrap σ80 t w62 5).bind fun pv94 => gl pv94.1 fun v94 => gl pv94.2 fun σ95 =>
                (if v94 = 0 then
                  ((fX8_at σ95 t w64).bind fun v97 =>
                  (if v97 = w62 then
                    fL_law_591 (fun σ2 y3 y4 => fL_law_192 L xs t n σ2 y3 y4) L xs t gF σ95 x3 x4
                  else
                    none))
                else
                  none)))
            else
              none)
          else
            none))))
      else
        (if (v61 - v61 / 3 * 3) = 1 then
          ((fX8_force σ76 t w62 w64 w65).bind fun pv100 => gl pv100.1 fun v100 => gl pv100.2 fun σ101 =>
          (if w68 = 0 then
            (if w72 = 0 then
              ((fX8_scrap σ101 t w62 5).bind fun pv104 => gl pv104.1 fun v104 => gl pv104.2 fun σ105 =>
              (if v100 = v104 then
                ((fX8_scrap σ105 t w62 1).bind fun pv107 => gl pv107.1 fun v107 => gl pv107.2 fun σ108 =>
                (if v107 = w65 then
                  ((fX8_turn σ108 t w62 ((w65 + 1) - (w65 + 1) / 8 * 8)).bind fun pv110 => gl pv110.1 fun v110 => gl pv110.2 fun σ111 =>
                  ((fX8_scrap σ111 t w62 5).bind fun pv112 => gl pv112.1 fun v112 => gl pv112.2 fun σ113 =>
                  (if v110 = v112 then
                    ((fX8_turn σ113 t w62 w65).bind fun pv115 => gl pv115.1 fun v115 => gl pv115.2 fun σ116 =>
                    (if v115 = v100 then
                      fL_law_591 (fun σ2 y3 y4 => fL_law_192 L xs t n σ2 y3 y4) L xs t gF σ116 x3 x4
                    else
                      none))
                  else
                    none)))
                else
                  none))
              else
                none))
            else
              (if v100 = (-1002) then
                fL_law_591 (fun σ2 y3 y4 => fL_law_192 L xs t n σ2 y3 y4) L xs t gF σ101 x3 x4
              else
                none))
          else
            (if v100 = (-1002) then
              fL_law_591 (fun σ2 y3 y4 => fL_law_192 L xs t n σ2 y3 y4) L xs t gF σ101 x3 x4
            else
              none)))
        else
          ((fX8_scrap σ76 t w62 2).bind fun pv120 => gl pv120.1 fun v120 => gl pv120.2 fun σ121 =>
          ((fX8_lift σ121 t w62).bind fun pv122 => gl pv122.1 fun v122 => gl pv122.2 fun σ123 =>
          (if w68 = 0 then
            (if v122 = (-1002) then
              fL_law_591 (fun σ2 y3 y4 => fL_law_192 L xs t n σ2 y3 y4) L xs t gF σ123 x3 x4
            else
              none)
          else
            (if v122 = v120 then
              ((fX8_at σ123 t v120).bind fun v127 =>
              (if v127 = (-1004) then
                (if (v61 - v61 / 2 * 2) = 0 then
                  fL_law_591 (fun σ2 y3 y4 => fL_law_192 L xs t n σ2 y3 y4) L xs t gF σ123 x3 x4
                else
                  ((fX8_undo σ123 t).bind fun pv130 => gl pv130.1 fun v130 => gl pv130.2 fun σ131 =>
                  (if v130 < 0 then
                    none
                  else
                    ((fX8_at σ131 t v120).bind fun v133 =>
                    (if v133 = w62 then
                      fL_law_591 (fun σ2 y3 y4 => fL_law_192 L xs t n σ2 y3 y4) L xs t gF σ131 x3 x4
                    else
                      none)))))
              else
                none))
            else
              none)))))))))))))
      else none))))

def fL_law_61 (L : Nat) (xs : Nat → Int32) (t : Nat) : Nat → gM → Int32 → Int32 → Option (gM)
  | 0, _, _, _ => none
  | n + 1, σ, x3, x4 =>
    (if 8 ≤ x4 then
      fL_law_192 L xs t gF σ x3 0
    else
      ((fL_cell L xs (2 + x4)).bind fun v136 =>
      (gl (if (v136 - v136 / 4 * 4) = 0 then ((-1) : Int32) else (v136 - v136 / 1000 * 1000)) fun w137 =>
      (gl (if ((v136 / 4) - (v136 / 4) / 4 * 4) = 0 then ((-1) : Int32) else ((v136 / 7) - (v136 / 7) / 1000 * 1000)) fun w140 =>
      (gl (if ((v136 / 16) - (v136 / 16) / 3 * 3) = 0 then ((-1) : Int32) else (454 : Int32)) fun w143 =>
      (gl (if ((v136 / 48) - (v136 / 48) / 3 * 3) = 0 then ((-1) : Int32) else (545 : Int32)) fun w146 =>
      ((fX8_addScrap σ t w137 w140 w143 w146 (v136 - v136 / 2 * 2)).bind fun pv149 => gl pv149.1 fun v149 => gl pv149.2 fun σ150 =>
      (if v149 = x4 then
        ((fL_turns σ150 t x4).bind fun pv152 => gl pv152.1 fun v152 => gl pv152.2 fun σ153 =>
        (if v152 = 0 then
          none
        else
          (gl (x4 + 1) fun w155 =>
          fL_law_61 L xs t n σ153 x3 w155)))
      else
        none))))))))

def fL_law (σ : gM) (L : Nat) (xs : Nat → Int32) (t : Nat) : Option gM :=
  ((fL_holds σ t).bind fun pv1 => gl pv1.1 fun v1 => gl pv1.2 fun σ2 =>
  (if v1 = 0 then
    none
  else
    ((fL_cell L xs 0).bind fun v4 =>
    ((fL_cell L xs 1).bind fun v5 =>
    ((fX8_reset σ2 t (1 + (v4 - v4 / 4 * 4)) (1 + (v5 - v5 / 4 * 4))).bind fun pv6 => gl pv6.1 fun v6 => gl pv6.2 fun σ7 =>
    (if v6 = 0 then
      ((fX8_count σ7 t 2).bind fun pv9 => gl pv9.1 fun v9 => gl pv9.2 fun σ10 =>
      ((fX8_count σ10 t 3).bind fun pv11 => gl pv11.1 fun v11 => gl pv11.2 fun σ12 =>
      (gl (v9 * v11) fun w13 =>
      fL_law_61 L xs t gF σ12 w13 0)))
    else
      none))))))
set_option maxHeartbeats 4000000 in
set_option maxRecDepth 100000 in
theorem wL_law (l : Launch) {p : Program} {ev : Env} {s : State} {m : MethodId} {below : List Frame} {meth : Method} {c : Code} {b L : Nat} {xs : Nat → Int32} {X : gX} {cells slots : Nat} {Q : State → Prop} {t : Nat} {σ σ' : gM} (C : gC X p s m #[Value.ref b] c code 14 RL) (hX : va_X b L xs s s.heap) (hbl : b < s.heap.size) (hbA : ¬ xA X b) (ok : gok8 X t) (hcs : cells + 0 ≤ room_1.cells ∧ slots + 0 ≤ room_1.slots) (h : fL_law σ L xs t = some σ')
    (ret : ∀ {pc : Nat} {H : Heap} {locs : List Loc} {ls : Array Slot} {σ2 : gM}, decode code pc = .ok (.ireturn, 1) → gG X σ2 s H locs → W p l ev room_1 s m #[Value.ref b] below meth c H locs cells slots Q (F0 m pc ls [.int 1]))
    {H : Heap} {locs : List Loc} {ls : Array Slot} (G : gG X σ s H locs) (hl : lv_has ls 14 [(1, .ref (xN X + t)), (0, .ref b)]) : W p l ev room_1 s m #[Value.ref b] below meth c H locs cells slots Q (F0 m 8 ls []) := by
  obtain ⟨⟨hx, hb, hml, hown, hts⟩, hK⟩ := id C
  revert H locs ls
  unfold fL_law at h
  have L591 : ∀ (K192 : gM → Int32 → Int32 → Option (gM)), (∀ (H : Heap) (locs : List Loc) (ls : Array Slot) (σ : gM) (x3 : Int32) (x4 : Int32), gG X σ s H locs → lv_has ls 14 [(1, .ref (xN X + t)), (0, .ref b), (2, .int 1), (3, .int x3), (4, .int x4)] → K192 σ x3 x4 = some σ' → W p l ev room_1 s m #[Value.ref b] below meth c H locs cells slots Q (F0 m 192 ls [])) → ∀ (n : Nat) (H : Heap) (locs : List Loc) (ls : Array Slot) (σ : gM) (x3 : Int32) (x4 : Int32), gG X σ s H locs → lv_has ls 14 [(1, .ref (xN X + t)), (0, .ref b), (2, .int 1), (3, .int x3), (4, .int x4)] → fL_law_591 K192 L xs t n σ x3 x4 = some σ' → W p l ev room_1 s m #[Value.ref b] below meth c H locs cells slots Q (F0 m 591 ls []) := by
    intro K192 hK192 n
    induction n with
    | zero =>
      intro H locs ls σ x3 x4 G hl h
      rw [fL_law_591] at h
      cases h
    | succ n ih =>
      intro H locs ls σ x3 x4 G hl h
      rw [fL_law_591] at h
      refine lv_iload_n hx hb dL_law_591 rfl (lv_at hl 2 rfl) ?_
      refine lv_if_eq (tgt := 606) hx hb dL_law_592 (by decide) (fun c86 => absurd c86 (by decide)) (fun _ => ?_)
      refine lv_aload_n hx hb dL_law_595 rfl (lv_at hl 0 rfl) ?_
      obtain ⟨⟨v87, σ88⟩, e_v87, h⟩ := g_bind h
      have h := g_let2 (v := v87) rfl h
      have h := g_let2 (v := σ88) rfl h
      refine g_calli (g_runS (n := 1) (As := [.ref (xN X + t)]) (rest := []) C G (mL_holds l X σ σ88 t v87 ok e_v87) (g_goodS u_ml_RL_38 u_st_yL_holds u_in_RL u_co_yL_holds) rfl rfl rfl (by decide +kernel) ⟨Nat.le_of_ble_eq_true rfl, Nat.le_of_ble_eq_true rfl⟩ rfl hl.1 rfl (Nat.le_of_ble_eq_true rfl) dL_law_596 hcs) G (fun H locs G => ?_)
      refine lv_if_eq (tgt := 606) hx hb dL_law_599 (by decide) (fun c89 => ?_) (fun c89 => ?_)
      · have h := g_it h c89
        cases h
      · have h := g_if h c89
        refine lv_iconst (v := 1) hx hb dL_law_602 (by decide) ?_
        refine lv_goto (tgt := 607) hx hb dL_law_603 (by decide) ?_
        refine lv_istore_n (lv' := [(2, .int 1), (1, .ref (xN X + t)), (0, .ref b), (3, .int x3), (4, .int x4)]) hx hb dL_law_607 rfl hl (by decide) rfl (fun ls hl => ?_)
        obtain ⟨w90, e_w90⟩ : ∃ y : Int32, y = x4 + 1 := ⟨_, rfl⟩
        have h := g_let2 e_w90 h
        refine lv_iinc (v := w90) (lv' := [(4, .int w90), (2, .int 1), (1, .ref (xN X + t)), (0, .ref b), (3, .int x3)]) hx hb dL_law_608 hl (k := 4) rfl (by rw [e_w90]; rfl) (by decide) rfl (fun ls hl => ?_)
        refine lv_goto (tgt := 192) hx hb dL_law_611 (by decide) ?_
        exact hK192 _ _ _ σ88 x3 w90 G (lv_sub hl [2, 3, 1, 4, 0] rfl) h
  have L192 : ∀ (n : Nat) (H : Heap) (locs : List Loc) (ls : Array Slot) (σ : gM) (x3 : Int32) (x4 : Int32), gG X σ s H locs → lv_has ls 14 [(1, .ref (xN X + t)), (0, .ref b), (2, .int 1), (3, .int x3), (4, .int x4)] → fL_law_192 L xs t n σ x3 x4 = some σ' → W p l ev room_1 s m #[Value.ref b] below meth c H locs cells slots Q (F0 m 192 ls []) := by
    intro n
    induction n with
    | zero =>
      intro H locs ls σ x3 x4 G hl h
      rw [fL_law_192] at h
      cases h
    | succ n ih =>
      intro H locs ls σ x3 x4 G hl h
      rw [fL_law_192] at h
      refine lv_iload hx hb dL_law_192 (lv_at hl 4 rfl) ?_
      refine lv_bipush (v := 30) hx hb dL_law_194 (by decide) ?_
      refine lv_icmp_ge (tgt := 614) hx hb dL_law_196 (by decide) (fun c15 => ?_) (fun c15 => ?_)
      · have h := g_it h c15
        refine lv_aload_n hx hb dL_law_614 rfl (lv_at hl 0 rfl) ?_
        refine lv_iconst (v := 1) hx hb dL_law_615 (by decide) ?_
        obtain ⟨⟨v16, σ17⟩, e_v16, h⟩ := g_bind h
        have h := g_let2 (v := v16) rfl h
        have h := g_let2 (v := σ17) rfl h
        refine g_calli (g_runV (n := 1) (As := [.int 1]) (rest := []) C G (mX8_count l X σ σ17 t 1 v16 ok e_v16) ok.1.2 (gE_8 ok.1.1) rfl (g_goodV u_ml_RL_25 u_im_yX8_count u_se_yX8_count u_in_RX8 u_co_yX8_count) rfl rfl rfl (by decide +kernel) ⟨Nat.le_of_ble_eq_true rfl, Nat.le_of_ble_eq_true rfl⟩ rfl hl.1 rfl (Nat.le_of_ble_eq_true rfl) dL_law_616 hcs) G (fun H locs G => ?_)
        refine lv_istore (lv' := [(4, .int v16), (1, .ref (xN X + t)), (0, .ref b), (2, .int 1), (3, .int x3)]) hx hb dL_law_619 hl (by decide) rfl (fun ls hl => ?_)
        refine lv_aload_n hx hb dL_law_621 rfl (lv_at hl 1 rfl) ?_
        obtain ⟨⟨v18, σ19⟩, e_v18, h⟩ := g_bind h
        have h := g_let2 (v := v18) rfl h
        have h := g_let2 (v := σ19) rfl h
        refine g_calli (g_runV (n := 0) (As := []) (rest := []) C G (mX8_fill l X σ17 σ19 t v18 ok e_v18) ok.1.2 (gE_8 ok.1.1) rfl (g_goodV u_ml_RL_77 u_im_yX8_fill u_se_yX8_fill u_in_RX8 u_co_yX8_fill) rfl rfl rfl (by decide +kernel) ⟨Nat.le_of_ble_eq_true rfl, Nat.le_of_ble_eq_true rfl⟩ rfl hl.1 rfl (Nat.le_of_ble_eq_true rfl) dL_law_622 hcs) G (fun H locs G => ?_)
        refine lv_istore (lv' := [(5, .int v18), (4, .int v16), (1, .ref (xN X + t)), (0, .ref b), (2, .int 1), (3, .int x3)]) hx hb dL_law_625 hl (by decide) rfl (fun ls hl => ?_)
        refine lv_iload_n hx hb dL_law_627 rfl (lv_at hl 4 rfl) ?_
        refine lv_if_eq (tgt := 677) hx hb dL_law_628 (by decide) (fun c20 => absurd c20 (by decide)) (fun _ => ?_)
        refine lv_iload hx hb dL_law_631 (lv_at hl 0 rfl) ?_
        refine lv_if_lt (tgt := 677) hx hb dL_law_633 (by decide) (fun c21 => ?_) (fun c21 => ?_)
        · have h := g_it h c21
          cases h
        · have h := g_if h c21
          refine lv_aload_n hx hb dL_law_636 rfl (lv_at hl 2 rfl) ?_
          refine lv_iconst (v := 1) hx hb dL_law_637 (by decide) ?_
          obtain ⟨⟨v22, σ23⟩, e_v22, h⟩ := g_bind h
          have h := g_let2 (v := v22) rfl h
          have h := g_let2 (v := σ23) rfl h
          refine g_calli (g_runV (n := 1) (As := [.int 1]) (rest := []) C G (mX8_count l X σ19 σ23 t 1 v22 ok e_v22) ok.1.2 (gE_8 ok.1.1) rfl (g_goodV u_ml_RL_25 u_im_yX8_count u_se_yX8_count u_in_RX8 u_co_yX8_count) rfl rfl rfl (by decide +kernel) ⟨Nat.le_of_ble_eq_true rfl, Nat.le_of_ble_eq_true rfl⟩ rfl hl.1 rfl (Nat.le_of_ble_eq_true rfl) dL_law_638 hcs) G (fun H locs G => ?_)
          refine lv_iload hx hb dL_law_641 (lv_at hl 1 rfl) ?_
          refine lv_iload hx hb dL_law_643 (lv_at hl 0 rfl) ?_
          refine lv_iadd hx hb dL_law_645 ?_
          refine lv_icmp_ne (tgt := 677) hx hb dL_law_646 (by decide) (fun c24 => ?_) (fun c24 => ?_)
          · have h := g_if h c24
            cases h
          · have h := g_it h c24
            refine lv_aload_n hx hb dL_law_649 rfl (lv_at hl 2 rfl) ?_
            obtain ⟨⟨v25, σ26⟩, e_v25, h⟩ := g_bind h
            have h := g_let2 (v := v25) rfl h
            have h := g_let2 (v := σ26) rfl h
            refine g_calli (g_runS (n := 1) (As := [.ref (xN X + t)]) (rest := []) C G (mL_holds l X σ23 σ26 t v25 ok e_v25) (g_goodS u_ml_RL_38 u_st_yL_holds u_in_RL u_co_yL_holds) rfl rfl rfl (by decide +kernel) ⟨Nat.le_of_ble_eq_true rfl, Nat.le_of_ble_eq_true rfl⟩ rfl hl.1 rfl (Nat.le_of_ble_eq_true rfl) dL_law_650 hcs) G (fun H locs G => ?_)
            refine lv_if_eq (tgt := 677) hx hb dL_law_653 (by decide) (fun c27 => ?_) (fun c27 => ?_)
            · have h := g_it h c27
              cases h
            · have h := g_if h c27
              refine lv_aload_n hx hb dL_law_656 rfl (lv_at hl 2 rfl) ?_
              obtain ⟨⟨v28, σ29⟩, e_v28, h⟩ := g_bind h
              have h := g_let2 (v := v28) rfl h
              have h := g_let2 (v := σ29) rfl h
              refine g_calli (g_runV (n := 0) (As := []) (rest := []) C G (mX8_undo l X σ26 σ29 t v28 ok e_v28) ok.1.2 (gE_8 ok.1.1) rfl (g_goodV u_ml_RL_73 u_im_yX8_undo u_se_yX8_undo u_in_RX8 u_co_yX8_undo) rfl rfl rfl (by decide +kernel) ⟨Nat.le_of_ble_eq_true rfl, Nat.le_of_ble_eq_true rfl⟩ rfl hl.1 rfl (Nat.le_of_ble_eq_true rfl) dL_law_657 hcs) G (fun H locs G => ?_)
              refine lv_if_lt (tgt := 677) hx hb dL_law_660 (by decide) (fun c30 => ?_) (fun c30 => ?_)
              · have h := g_it h c30
                cases h
              · have h := g_if h c30
                refine lv_aload_n hx hb dL_law_663 rfl (lv_at hl 2 rfl) ?_
                refine lv_iconst (v := 1) hx hb dL_law_664 (by decide) ?_
                obtain ⟨⟨v31, σ32⟩, e_v31, h⟩ := g_bind h
                have h := g_let2 (v := v31) rfl h
                have h := g_let2 (v := σ32) rfl h
                refine g_calli (g_runV (n := 1) (As := [.int 1]) (rest := []) C G (mX8_count l X σ29 σ32 t 1 v31 ok e_v31) ok.1.2 (gE_8 ok.1.1) rfl (g_goodV u_ml_RL_25 u_im_yX8_count u_se_yX8_count u_in_RX8 u_co_yX8_count) rfl rfl rfl (by decide +kernel) ⟨Nat.le_of_ble_eq_true rfl, Nat.le_of_ble_eq_true rfl⟩ rfl hl.1 rfl (Nat.le_of_ble_eq_true rfl) dL_law_665 hcs) G (fun H locs G => ?_)
                refine lv_iload hx hb dL_law_668 (lv_at hl 1 rfl) ?_
                refine lv_icmp_ne (tgt := 677) hx hb dL_law_670 (by decide) (fun c33 => ?_) (fun c33 => ?_)
                · have h := g_if h c33
                  cases h
                · have h := g_it h c33
                  refine lv_iconst (v := 1) hx hb dL_law_673 (by decide) ?_
                  refine lv_goto (tgt := 678) hx hb dL_law_674 (by decide) ?_
                  refine lv_istore_n (lv' := [(2, .int 1), (5, .int v18), (4, .int v16), (1, .ref (xN X + t)), (0, .ref b), (3, .int x3)]) hx hb dL_law_678 rfl hl (by decide) rfl (fun ls hl => ?_)
                  refine lv_aload_n hx hb dL_law_679 rfl (lv_at hl 3 rfl) ?_
                  refine lv_iconst (v := 0) hx hb dL_law_680 (by decide) ?_
                  obtain ⟨⟨v34, σ35⟩, e_v34, h⟩ := g_bind h
                  have h := g_let2 (v := v34) rfl h
                  have h := g_let2 (v := σ35) rfl h
                  refine g_calli (g_runV (n := 1) (As := [.int 0]) (rest := []) C G (mX8_count l X σ32 σ35 t 0 v34 ok e_v34) ok.1.2 (gE_8 ok.1.1) rfl (g_goodV u_ml_RL_25 u_im_yX8_count u_se_yX8_count u_in_RX8 u_co_yX8_count) rfl rfl rfl (by decide +kernel) ⟨Nat.le_of_ble_eq_true rfl, Nat.le_of_ble_eq_true rfl⟩ rfl hl.1 rfl (Nat.le_of_ble_eq_true rfl) dL_law_681 hcs) G (fun H locs G => ?_)
                  refine lv_istore (lv' := [(6, .int v34), (2, .int 1), (5, .int v18), (4, .int v16), (1, .ref (xN X + t)), (0, .ref b), (3, .int x3)]) hx hb dL_law_684 hl (by decide) rfl (fun ls hl => ?_)
                  refine lv_aload_n hx hb dL_law_686 rfl (lv_at hl 4 rfl) ?_
                  refine lv_iconst (v := 0) hx hb dL_law_687 (by decide) ?_
                  refine lv_iconst (v := 2) hx hb dL_law_688 (by decide) ?_
                  obtain ⟨⟨v36, σ37⟩, e_v36, h⟩ := g_bind h
                  have h := g_let2 (v := v36) rfl h
                  have h := g_let2 (v := σ37) rfl h
                  refine g_calli (g_runV (n := 2) (As := [.int 0, .int 2]) (rest := []) C G (mX8_scrap l X σ35 σ37 t 0 2 v36 ok e_v36) ok.1.2 (gE_8 ok.1.1) rfl (g_goodV u_ml_RL_21 u_im_yX8_scrap u_se_yX8_scrap u_in_RX8 u_co_yX8_scrap) rfl rfl rfl (by decide +kernel) ⟨Nat.le_of_ble_eq_true rfl, Nat.le_of_ble_eq_true rfl⟩ rfl hl.1 rfl (Nat.le_of_ble_eq_true rfl) dL_law_689 hcs) G (fun H locs G => ?_)
                  have J39 : ∀ (w38 : Int32) (H : Heap) (locs : List Loc), gG X σ37 s H locs → w38 = (if 0 ≤ v36 then (v16 - 1) else v16) → W p l ev room_1 s m #[Value.ref b] below meth c H locs cells slots Q (F0 m 704 ls [.int w38]) := by
                    intro w38 H locs G e_w38
                    have h := g_let2 e_w38 h
                    refine lv_istore (lv' := [(7, .int w38), (6, .int v34), (2, .int 1), (5, .int v18), (4, .int v16), (1, .ref (xN X + t)), (0, .ref b), (3, .int x3)]) hx hb dL_law_704 hl (by decide) rfl (fun ls hl => ?_)
                    refine lv_iload_n hx hb dL_law_706 rfl (lv_at hl 2 rfl) ?_
                    refine lv_if_eq (tgt := 770) hx hb dL_law_707 (by decide) (fun c41 => absurd c41 (by decide)) (fun _ => ?_)
                    refine lv_aload_n hx hb dL_law_710 rfl (lv_at hl 5 rfl) ?_
                    refine lv_iconst (v := 0) hx hb dL_law_711 (by decide) ?_
                    obtain ⟨⟨v42, σ43⟩, e_v42, h⟩ := g_bind h
                    have h := g_let2 (v := v42) rfl h
                    have h := g_let2 (v := σ43) rfl h
                    refine g_calli (g_runV (n := 1) (As := [.int 0]) (rest := []) C G (mX8_removeScrap l X σ37 σ43 t 0 v42 ok e_v42) ok.1.2 (gE_8 ok.1.1) rfl (g_goodV u_ml_RL_80 u_im_yX8_removeScrap u_se_yX8_removeScrap u_in_RX8 u_co_yX8_removeScrap) rfl rfl rfl (by decide +kernel) ⟨Nat.le_of_ble_eq_true rfl, Nat.le_of_ble_eq_true rfl⟩ rfl hl.1 rfl (Nat.le_of_ble_eq_true rfl) dL_law_712 hcs) G (fun H locs G => ?_)
                    refine lv_iload hx hb dL_law_715 (lv_at hl 1 rfl) ?_
                    refine lv_iconst (v := 1) hx hb dL_law_717 (by decide) ?_
                    refine lv_isub hx hb dL_law_718 ?_
                    refine lv_icmp_ne (tgt := 770) hx hb dL_law_719 (by decide) (fun c44 => ?_) (fun c44 => ?_)
                    · have h := g_if h c44
                      cases h
                    · have h := g_it h c44
                      refine lv_aload_n hx hb dL_law_722 rfl (lv_at hl 5 rfl) ?_
                      refine lv_iconst (v := 1) hx hb dL_law_723 (by decide) ?_
                      obtain ⟨⟨v45, σ46⟩, e_v45, h⟩ := g_bind h
                      have h := g_let2 (v := v45) rfl h
                      have h := g_let2 (v := σ46) rfl h
                      refine g_calli (g_runV (n := 1) (As := [.int 1]) (rest := []) C G (mX8_count l X σ43 σ46 t 1 v45 ok e_v45) ok.1.2 (gE_8 ok.1.1) rfl (g_goodV u_ml_RL_25 u_im_yX8_count u_se_yX8_count u_in_RX8 u_co_yX8_count) rfl rfl rfl (by decide +kernel) ⟨Nat.le_of_ble_eq_true rfl, Nat.le_of_ble_eq_true rfl⟩ rfl hl.1 rfl (Nat.le_of_ble_eq_true rfl) dL_law_724 hcs) G (fun H locs G => ?_)
                      refine lv_iload hx hb dL_law_727 (lv_at hl 0 rfl) ?_
                      refine lv_icmp_ne (tgt := 770) hx hb dL_law_729 (by decide) (fun c47 => ?_) (fun c47 => ?_)
                      · have h := g_if h c47
                        cases h
                      · have h := g_it h c47
                        refine lv_aload_n hx hb dL_law_732 rfl (lv_at hl 5 rfl) ?_
                        obtain ⟨⟨v48, σ49⟩, e_v48, h⟩ := g_bind h
                        have h := g_let2 (v := v48) rfl h
                        have h := g_let2 (v := σ49) rfl h
                        refine g_calli (g_runS (n := 1) (As := [.ref (xN X + t)]) (rest := []) C G (mL_holds l X σ46 σ49 t v48 ok e_v48) (g_goodS u_ml_RL_38 u_st_yL_holds u_in_RL u_co_yL_holds) rfl rfl rfl (by decide +kernel) ⟨Nat.le_of_ble_eq_true rfl, Nat.le_of_ble_eq_true rfl⟩ rfl hl.1 rfl (Nat.le_of_ble_eq_true rfl) dL_law_733 hcs) G (fun H locs G => ?_)
                        refine lv_if_eq (tgt := 770) hx hb dL_law_736 (by decide) (fun c50 => ?_) (fun c50 => ?_)
                        · have h := g_it h c50
                          cases h
                        · have h := g_if h c50
                          refine lv_aload_n hx hb dL_law_739 rfl (lv_at hl 5 rfl) ?_
                          obtain ⟨⟨v51, σ52⟩, e_v51, h⟩ := g_bind h
                          have h := g_let2 (v := v51) rfl h
                          have h := g_let2 (v := σ52) rfl h
                          refine g_calli (g_runV (n := 0) (As := []) (rest := []) C G (mX8_undo l X σ49 σ52 t v51 ok e_v51) ok.1.2 (gE_8 ok.1.1) rfl (g_goodV u_ml_RL_73 u_im_yX8_undo u_se_yX8_undo u_in_RX8 u_co_yX8_undo) rfl rfl rfl (by decide +kernel) ⟨Nat.le_of_ble_eq_true rfl, Nat.le_of_ble_eq_true rfl⟩ rfl hl.1 rfl (Nat.le_of_ble_eq_true rfl) dL_law_740 hcs) G (fun H locs G => ?_)
                          refine lv_if_lt (tgt := 770) hx hb dL_law_743 (by decide) (fun c53 => ?_) (fun c53 => ?_)
                          · have h := g_it h c53
                            cases h
                          · have h := g_if h c53
                            refine lv_aload_n hx hb dL_law_746 rfl (lv_at hl 5 rfl) ?_
                            refine lv_iconst (v := 0) hx hb dL_law_747 (by decide) ?_
                            obtain ⟨⟨v54, σ55⟩, e_v54, h⟩ := g_bind h
                            have h := g_let2 (v := v54) rfl h
                            have h := g_let2 (v := σ55) rfl h
                            refine g_calli (g_runV (n := 1) (As := [.int 0]) (rest := []) C G (mX8_count l X σ52 σ55 t 0 v54 ok e_v54) ok.1.2 (gE_8 ok.1.1) rfl (g_goodV u_ml_RL_25 u_im_yX8_count u_se_yX8_count u_in_RX8 u_co_yX8_count) rfl rfl rfl (by decide +kernel) ⟨Nat.le_of_ble_eq_true rfl, Nat.le_of_ble_eq_true rfl⟩ rfl hl.1 rfl (Nat.le_of_ble_eq_true rfl) dL_law_748 hcs) G (fun H locs G => ?_)
                            refine lv_iload hx hb dL_law_751 (lv_at hl 1 rfl) ?_
                            refine lv_icmp_ne (tgt := 770) hx hb dL_law_753 (by decide) (fun c56 => ?_) (fun c56 => ?_)
                            · have h := g_if h c56
                              cases h
                            · have h := g_it h c56
                              refine lv_aload_n hx hb dL_law_756 rfl (lv_at hl 5 rfl) ?_
                              refine lv_iconst (v := 1) hx hb dL_law_757 (by decide) ?_
                              obtain ⟨⟨v57, σ58⟩, e_v57, h⟩ := g_bind h
                              have h := g_let2 (v := v57) rfl h
                              have h := g_let2 (v := σ58) rfl h
                              refine g_calli (g_runV (n := 1) (As := [.int 1]) (rest := []) C G (mX8_count l X σ55 σ58 t 1 v57 ok e_v57) ok.1.2 (gE_8 ok.1.1) rfl (g_goodV u_ml_RL_25 u_im_yX8_count u_se_yX8_count u_in_RX8 u_co_yX8_count) rfl rfl rfl (by decide +kernel) ⟨Nat.le_of_ble_eq_true rfl, Nat.le_of_ble_eq_true rfl⟩ rfl hl.1 rfl (Nat.le_of_ble_eq_true rfl) dL_law_758 hcs) G (fun H locs G => ?_)
                              refine lv_iload hx hb dL_law_761 (lv_at hl 4 rfl) ?_
                              refine lv_icmp_ne (tgt := 770) hx hb dL_law_763 (by decide) (fun c59 => ?_) (fun c59 => ?_)
                              · have h := g_if h c59
                                cases h
                              · have h := g_it h c59
                                refine lv_iconst (v := 1) hx hb dL_law_766 (by decide) ?_
                                refine lv_goto (tgt := 771) hx hb dL_law_767 (by decide) ?_
                                exact ret dL_law_771 G
                  refine lv_if_ge (tgt := 700) hx hb dL_law_692 (by decide) (fun c40 => ?_) (fun c40 => ?_)
                  · refine lv_iload hx hb dL_law_700 (lv_at hl 3 rfl) ?_
                    refine lv_iconst (v := 1) hx hb dL_law_702 (by decide) ?_
                    refine lv_isub hx hb dL_law_703 ?_
                    exact J39 _ _ _ G (if_pos c40).symm
                  · refine lv_iload hx hb dL_law_695 (lv_at hl 3 rfl) ?_
                    refine lv_goto (tgt := 704) hx hb dL_law_697 (by decide) ?_
                    exact J39 _ _ _ G (if_neg c40).symm
      · have h := g_if h c15
        refine lv_iload_n hx hb dL_law_199 rfl (lv_at hl 2 rfl) ?_
        refine lv_if_eq (tgt := 614) hx hb dL_law_200 (by decide) (fun c60 => absurd c60 (by decide)) (fun _ => ?_)
        refine lv_aload_n hx hb dL_law_203 rfl (lv_at hl 1 rfl) ?_
        refine lv_bipush (v := 10) hx hb dL_law_204 (by decide) ?_
        refine lv_iload hx hb dL_law_206 (lv_at hl 4 rfl) ?_
        refine lv_iadd hx hb dL_law_208 ?_
        obtain ⟨v61, e_v61, h⟩ := g_bind h
        refine g_calli (x_runS (n := 2) (As := [.ref b, .int (10 + x4)]) (rest := []) C G hX hbl hbA (mL_cell l X σ b L xs (10 + x4) v61 e_v61) (g_goodS u_ml_RL_42 u_st_yL_cell u_in_RL u_co_yL_cell) rfl rfl rfl (by decide +kernel) ⟨Nat.le_of_ble_eq_true rfl, Nat.le_of_ble_eq_true rfl⟩ rfl hl.1 rfl (Nat.le_of_ble_eq_true rfl) dL_law_209 hcs) G (fun H locs G => ?_)
        refine lv_istore (lv' := [(5, .int v61), (1, .ref (xN X + t)), (0, .ref b), (2, .int 1), (3, .int x3), (4, .int x4)]) hx hb dL_law_212 hl (by decide) rfl (fun ls hl => ?_)
        refine lv_iload hx hb dL_law_214 (lv_at hl 0 rfl) ?_
        refine lv_bipush (v := 8) hx hb dL_law_216 (by decide) ?_
        refine lv_irem hx hb dL_law_218 (by decide) ?_
        refine lv_topi (fun w62 e_w62 => ?_)
        have h := g_let2 e_w62 h
        refine lv_istore (lv' := [(6, .int w62), (5, .int v61), (1, .ref (xN X + t)), (0, .ref b), (2, .int 1), (3, .int x3), (4, .int x4)]) hx hb dL_law_219 hl (by decide) rfl (fun ls hl => ?_)
        refine lv_iload hx hb dL_law_221 (lv_at hl 1 rfl) ?_
        refine lv_bipush (v := 8) hx hb dL_law_223 (by decide) ?_
        refine lv_idiv hx hb dL_law_225 (by decide) ?_
        refine lv_iload_n hx hb dL_law_226 rfl (lv_at hl 5 rfl) ?_
        obtain ⟨c63, h⟩ := g_chk h
        refine lv_irem hx hb dL_law_227 c63 ?_
        refine lv_topi (fun w64 e_w64 => ?_)
        have h := g_let2 e_w64 h
        refine lv_istore (lv' := [(7, .int w64), (6, .int w62), (5, .int v61), (1, .ref (xN X + t)), (0, .ref b), (2, .int 1), (3, .int x3), (4, .int x4)]) hx hb dL_law_228 hl (by decide) rfl (fun ls hl => ?_)
        refine lv_iload hx hb dL_law_230 (lv_at hl 2 rfl) ?_
        refine lv_sipush (v := 200) hx hb dL_law_232 (by decide) ?_
        refine lv_idiv hx hb dL_law_235 (by decide) ?_
        refine lv_bipush (v := 8) hx hb dL_law_236 (by decide) ?_
        refine lv_irem hx hb dL_law_238 (by decide) ?_
        refine lv_topi (fun w65 e_w65 => ?_)
        have h := g_let2 e_w65 h
        refine lv_istore (lv' := [(8, .int w65), (7, .int w64), (6, .int w62), (5, .int v61), (1, .ref (xN X + t)), (0, .ref b), (2, .int 1), (3, .int x3), (4, .int x4)]) hx hb dL_law_239 hl (by decide) rfl (fun ls hl => ?_)
        refine lv_aload_n hx hb dL_law_241 rfl (lv_at hl 4 rfl) ?_
        refine lv_iload hx hb dL_law_242 (lv_at hl 2 rfl) ?_
        refine lv_iconst (v := 2) hx hb dL_law_244 (by decide) ?_
        obtain ⟨⟨v66, σ67⟩, e_v66, h⟩ := g_bind h
        have h := g_let2 (v := v66) rfl h
        have h := g_let2 (v := σ67) rfl h
        refine g_calli (g_runV (n := 2) (As := [.int w62, .int 2]) (rest := []) C G (mX8_scrap l X σ σ67 t w62 2 v66 ok e_v66) ok.1.2 (gE_8 ok.1.1) rfl (g_goodV u_ml_RL_21 u_im_yX8_scrap u_se_yX8_scrap u_in_RX8 u_co_yX8_scrap) rfl rfl rfl (by decide +kernel) ⟨Nat.le_of_ble_eq_true rfl, Nat.le_of_ble_eq_true rfl⟩ rfl hl.1 rfl (Nat.le_of_ble_eq_true rfl) dL_law_245 hcs) G (fun H locs G => ?_)
        have J69 : ∀ (w68 : Int32) (H : Heap) (locs : List Loc), gG X σ67 s H locs → w68 = (if v66 < 0 then (0 : Int32) else (1 : Int32)) → W p l ev room_1 s m #[Value.ref b] below meth c H locs cells slots Q (F0 m 256 ls [.int w68]) := by
          intro w68 H locs G e_w68
          have h := g_let2 e_w68 h
          refine lv_istore (lv' := [(9, .int w68), (8, .int w65), (7, .int w64), (6, .int w62), (5, .int v61), (1, .ref (xN X + t)), (0, .ref b), (2, .int 1), (3, .int x3), (4, .int x4)]) hx hb dL_law_256 hl (by decide) rfl (fun ls hl => ?_)
          refine lv_aload_n hx hb dL_law_258 rfl (lv_at hl 5 rfl) ?_
          refine lv_iload hx hb dL_law_259 (lv_at hl 2 rfl) ?_
          obtain ⟨v71, e_v71, h⟩ := g_bind h
          refine g_calli (g_runV (n := 1) (As := [.int w64]) (rest := []) C G (mX8_at l X σ67 t w64 v71 ok e_v71) ok.1.2 (gE_8 ok.1.1) rfl (g_goodV u_ml_RL_28 u_im_yX8_at u_se_yX8_at u_in_RX8 u_co_yX8_at) rfl rfl rfl (by decide +kernel) ⟨Nat.le_of_ble_eq_true rfl, Nat.le_of_ble_eq_true rfl⟩ rfl hl.1 rfl (Nat.le_of_ble_eq_true rfl) dL_law_261 hcs) G (fun H locs G => ?_)
          have J73 : ∀ (w72 : Int32) (H : Heap) (locs : List Loc), gG X σ67 s H locs → w72 = (if v71 < 0 then (0 : Int32) else (1 : Int32)) → W p l ev room_1 s m #[Value.ref b] below meth c H locs cells slots Q (F0 m 272 ls [.int w72]) := by
            intro w72 H locs G e_w72
            have h := g_let2 e_w72 h
            refine lv_istore (lv' := [(10, .int w72), (9, .int w68), (8, .int w65), (7, .int w64), (6, .int w62), (5, .int v61), (1, .ref (xN X + t)), (0, .ref b), (2, .int 1), (3, .int x3), (4, .int x4)]) hx hb dL_law_272 hl (by decide) rfl (fun ls hl => ?_)
            refine lv_aload_n hx hb dL_law_274 rfl (lv_at hl 6 rfl) ?_
            refine lv_bipush (v := 10) hx hb dL_law_275 (by decide) ?_
            obtain ⟨⟨v75, σ76⟩, e_v75, h⟩ := g_bind h
            have h := g_let2 (v := v75) rfl h
            have h := g_let2 (v := σ76) rfl h
            refine g_calli (g_runV (n := 1) (As := [.int 10]) (rest := []) C G (mX8_count l X σ67 σ76 t 10 v75 ok e_v75) ok.1.2 (gE_8 ok.1.1) rfl (g_goodV u_ml_RL_25 u_im_yX8_count u_se_yX8_count u_in_RX8 u_co_yX8_count) rfl rfl rfl (by decide +kernel) ⟨Nat.le_of_ble_eq_true rfl, Nat.le_of_ble_eq_true rfl⟩ rfl hl.1 rfl (Nat.le_of_ble_eq_true rfl) dL_law_277 hcs) G (fun H locs G => ?_)
            refine lv_istore (lv' := [(11, .int v75), (10, .int w72), (9, .int w68), (8, .int w65), (7, .int w64), (6, .int w62), (5, .int v61), (1, .ref (xN X + t)), (0, .ref b), (2, .int 1), (3, .int x3), (4, .int x4)]) hx hb dL_law_280 hl (by decide) rfl (fun ls hl => ?_)
            refine lv_iload hx hb dL_law_282 (lv_at hl 6 rfl) ?_
            refine lv_iconst (v := 3) hx hb dL_law_284 (by decide) ?_
            refine lv_irem hx hb dL_law_285 (by decide) ?_
            refine lv_if_ne (tgt := 388) hx hb dL_law_286 (by decide) (fun c77 => ?_) (fun c77 => ?_)
            · have h := g_if h c77
              refine lv_iload hx hb dL_law_388 (lv_at hl 6 rfl) ?_
              refine lv_iconst (v := 3) hx hb dL_law_390 (by decide) ?_
              refine lv_irem hx hb dL_law_391 (by decide) ?_
              refine lv_iconst (v := 1) hx hb dL_law_392 (by decide) ?_
              refine lv_icmp_ne (tgt := 503) hx hb dL_law_393 (by decide) (fun c99 => ?_) (fun c99 => ?_)
              · have h := g_if h c99
                refine lv_aload_n hx hb dL_law_503 rfl (lv_at hl 7 rfl) ?_
                refine lv_iload hx hb dL_law_504 (lv_at hl 5 rfl) ?_
                refine lv_iconst (v := 2) hx hb dL_law_506 (by decide) ?_
                obtain ⟨⟨v120, σ121⟩, e_v120, h⟩ := g_bind h
                have h := g_let2 (v := v120) rfl h
                have h := g_let2 (v := σ121) rfl h
                refine g_calli (g_runV (n := 2) (As := [.int w62, .int 2]) (rest := []) C G (mX8_scrap l X σ76 σ121 t w62 2 v120 ok e_v120) ok.1.2 (gE_8 ok.1.1) rfl (g_goodV u_ml_RL_21 u_im_yX8_scrap u_se_yX8_scrap u_in_RX8 u_co_yX8_scrap) rfl rfl rfl (by decide +kernel) ⟨Nat.le_of_ble_eq_true rfl, Nat.le_of_ble_eq_true rfl⟩ rfl hl.1 rfl (Nat.le_of_ble_eq_true rfl) dL_law_507 hcs) G (fun H locs G => ?_)
                refine lv_istore (lv' := [(12, .int v120), (11, .int v75), (10, .int w72), (9, .int w68), (8, .int w65), (7, .int w64), (6, .int w62), (5, .int v61), (1, .ref (xN X + t)), (0, .ref b), (2, .int 1), (3, .int x3), (4, .int x4)]) hx hb dL_law_510 hl (by decide) rfl (fun ls hl => ?_)
                refine lv_aload_n hx hb dL_law_512 rfl (lv_at hl 8 rfl) ?_
                refine lv_iload hx hb dL_law_513 (lv_at hl 6 rfl) ?_
                obtain ⟨⟨v122, σ123⟩, e_v122, h⟩ := g_bind h
                have h := g_let2 (v := v122) rfl h
                have h := g_let2 (v := σ123) rfl h
                refine g_calli (g_runV (n := 1) (As := [.int w62]) (rest := []) C G (mX8_lift l X σ121 σ123 t w62 v122 ok e_v122) ok.1.2 (gE_8 ok.1.1) rfl (g_goodV u_ml_RL_70 u_im_yX8_lift u_se_yX8_lift u_in_RX8 u_co_yX8_lift) rfl rfl rfl (by decide +kernel) ⟨Nat.le_of_ble_eq_true rfl, Nat.le_of_ble_eq_true rfl⟩ rfl hl.1 rfl (Nat.le_of_ble_eq_true rfl) dL_law_515 hcs) G (fun H locs G => ?_)
                refine lv_istore (lv' := [(13, .int v122), (12, .int v120), (11, .int v75), (10, .int w72), (9, .int w68), (8, .int w65), (7, .int w64), (6, .int w62), (5, .int v61), (1, .ref (xN X + t)), (0, .ref b), (2, .int 1), (3, .int x3), (4, .int x4)]) hx hb dL_law_518 hl (by decide) rfl (fun ls hl => ?_)
                refine lv_iload hx hb dL_law_520 (lv_at hl 4 rfl) ?_
                refine lv_if_eq (tgt := 577) hx hb dL_law_522 (by decide) (fun c124 => ?_) (fun c124 => ?_)
                · have h := g_it h c124
                  refine lv_iload hx hb dL_law_577 (lv_at hl 0 rfl) ?_
                  refine lv_sipush (v := (-1002)) hx hb dL_law_579 (by decide) ?_
                  refine lv_icmp_ne (tgt := 589) hx hb dL_law_582 (by decide) (fun c125 => ?_) (fun c125 => ?_)
                  · have h := g_if h c125
                    cases h
                  · have h := g_it h c125
                    refine lv_iconst (v := 1) hx hb dL_law_585 (by decide) ?_
                    refine lv_goto (tgt := 590) hx hb dL_law_586 (by decide) ?_
                    refine lv_istore_n (lv' := [(2, .int 1), (13, .int v122), (12, .int v120), (11, .int v75), (10, .int w72), (9, .int w68), (8, .int w65), (7, .int w64), (6, .int w62), (5, .int v61), (1, .ref (xN X + t)), (0, .ref b), (3, .int x3), (4, .int x4)]) hx hb dL_law_590 rfl hl (by decide) rfl (fun ls hl => ?_)
                    exact L591 (fun σ2 y3 y4 => fL_law_192 L xs t n σ2 y3 y4) (fun H locs ls σ2 y3 y4 G hl h => ih H locs ls σ2 y3 y4 G hl h) gF _ _ _ σ123 x3 x4 G (lv_sub hl [10, 11, 0, 12, 13] rfl) h
                · have h := g_if h c124
                  refine lv_iload hx hb dL_law_525 (lv_at hl 0 rfl) ?_
                  refine lv_iload hx hb dL_law_527 (lv_at hl 1 rfl) ?_
                  refine lv_icmp_ne (tgt := 573) hx hb dL_law_529 (by decide) (fun c126 => ?_) (fun c126 => ?_)
                  · have h := g_if h c126
                    cases h
                  · have h := g_it h c126
                    refine lv_aload_n hx hb dL_law_532 rfl (lv_at hl 9 rfl) ?_
                    refine lv_iload hx hb dL_law_533 (lv_at hl 1 rfl) ?_
                    obtain ⟨v127, e_v127, h⟩ := g_bind h
                    refine g_calli (g_runV (n := 1) (As := [.int v120]) (rest := []) C G (mX8_at l X σ123 t v120 v127 ok e_v127) ok.1.2 (gE_8 ok.1.1) rfl (g_goodV u_ml_RL_28 u_im_yX8_at u_se_yX8_at u_in_RX8 u_co_yX8_at) rfl rfl rfl (by decide +kernel) ⟨Nat.le_of_ble_eq_true rfl, Nat.le_of_ble_eq_true rfl⟩ rfl hl.1 rfl (Nat.le_of_ble_eq_true rfl) dL_law_535 hcs) G (fun H locs G => ?_)
                    refine lv_sipush (v := (-1004)) hx hb dL_law_538 (by decide) ?_
                    refine lv_icmp_ne (tgt := 573) hx hb dL_law_541 (by decide) (fun c128 => ?_) (fun c128 => ?_)
                    · have h := g_if h c128
                      cases h
                    · have h := g_it h c128
                      refine lv_iload hx hb dL_law_544 (lv_at hl 8 rfl) ?_
                      refine lv_iconst (v := 2) hx hb dL_law_546 (by decide) ?_
                      refine lv_irem hx hb dL_law_547 (by decide) ?_
                      refine lv_if_eq (tgt := 569) hx hb dL_law_548 (by decide) (fun c129 => ?_) (fun c129 => ?_)
                      · have h := g_it h c129
                        refine lv_iconst (v := 1) hx hb dL_law_569 (by decide) ?_
                        refine lv_goto (tgt := 590) hx hb dL_law_570 (by decide) ?_
                        refine lv_istore_n (lv' := [(2, .int 1), (13, .int v122), (12, .int v120), (11, .int v75), (10, .int w72), (9, .int w68), (8, .int w65), (7, .int w64), (6, .int w62), (5, .int v61), (1, .ref (xN X + t)), (0, .ref b), (3, .int x3), (4, .int x4)]) hx hb dL_law_590 rfl hl (by decide) rfl (fun ls hl => ?_)
                        exact L591 (fun σ2 y3 y4 => fL_law_192 L xs t n σ2 y3 y4) (fun H locs ls σ2 y3 y4 G hl h => ih H locs ls σ2 y3 y4 G hl h) gF _ _ _ σ123 x3 x4 G (lv_sub hl [10, 11, 0, 12, 13] rfl) h
                      · have h := g_if h c129
                        refine lv_aload_n hx hb dL_law_551 rfl (lv_at hl 9 rfl) ?_
                        obtain ⟨⟨v130, σ131⟩, e_v130, h⟩ := g_bind h
                        have h := g_let2 (v := v130) rfl h
                        have h := g_let2 (v := σ131) rfl h
                        refine g_calli (g_runV (n := 0) (As := []) (rest := []) C G (mX8_undo l X σ123 σ131 t v130 ok e_v130) ok.1.2 (gE_8 ok.1.1) rfl (g_goodV u_ml_RL_73 u_im_yX8_undo u_se_yX8_undo u_in_RX8 u_co_yX8_undo) rfl rfl rfl (by decide +kernel) ⟨Nat.le_of_ble_eq_true rfl, Nat.le_of_ble_eq_true rfl⟩ rfl hl.1 rfl (Nat.le_of_ble_eq_true rfl) dL_law_552 hcs) G (fun H locs G => ?_)
                        refine lv_if_lt (tgt := 573) hx hb dL_law_555 (by decide) (fun c132 => ?_) (fun c132 => ?_)
                        · have h := g_it h c132
                          cases h
                        · have h := g_if h c132
                          refine lv_aload_n hx hb dL_law_558 rfl (lv_at hl 9 rfl) ?_
                          refine lv_iload hx hb dL_law_559 (lv_at hl 1 rfl) ?_
                          obtain ⟨v133, e_v133, h⟩ := g_bind h
                          refine g_calli (g_runV (n := 1) (As := [.int v120]) (rest := []) C G (mX8_at l X σ131 t v120 v133 ok e_v133) ok.1.2 (gE_8 ok.1.1) rfl (g_goodV u_ml_RL_28 u_im_yX8_at u_se_yX8_at u_in_RX8 u_co_yX8_at) rfl rfl rfl (by decide +kernel) ⟨Nat.le_of_ble_eq_true rfl, Nat.le_of_ble_eq_true rfl⟩ rfl hl.1 rfl (Nat.le_of_ble_eq_true rfl) dL_law_561 hcs) G (fun H locs G => ?_)
                          refine lv_iload hx hb dL_law_564 (lv_at hl 7 rfl) ?_
                          refine lv_icmp_ne (tgt := 573) hx hb dL_law_566 (by decide) (fun c134 => ?_) (fun c134 => ?_)
                          · have h := g_if h c134
                            cases h
                          · have h := g_it h c134
                            refine lv_iconst (v := 1) hx hb dL_law_569 (by decide) ?_
                            refine lv_goto (tgt := 590) hx hb dL_law_570 (by decide) ?_
                            refine lv_istore_n (lv' := [(2, .int 1), (13, .int v122), (12, .int v120), (11, .int v75), (10, .int w72), (9, .int w68), (8, .int w65), (7, .int w64), (6, .int w62), (5, .int v61), (1, .ref (xN X + t)), (0, .ref b), (3, .int x3), (4, .int x4)]) hx hb dL_law_590 rfl hl (by decide) rfl (fun ls hl => ?_)
                            exact L591 (fun σ2 y3 y4 => fL_law_192 L xs t n σ2 y3 y4) (fun H locs ls σ2 y3 y4 G hl h => ih H locs ls σ2 y3 y4 G hl h) gF _ _ _ σ131 x3 x4 G (lv_sub hl [10, 11, 0, 12, 13] rfl) h
              · have h := g_it h c99
                refine lv_aload_n hx hb dL_law_396 rfl (lv_at hl 7 rfl) ?_
                refine lv_iload hx hb dL_law_397 (lv_at hl 5 rfl) ?_
                refine lv_iload hx hb dL_law_399 (lv_at hl 4 rfl) ?_
                refine lv_iload hx hb dL_law_401 (lv_at hl 3 rfl) ?_
                obtain ⟨⟨v100, σ101⟩, e_v100, h⟩ := g_bind h
                have h := g_let2 (v := v100) rfl h
                have h := g_let2 (v := σ101) rfl h
                refine g_calli (g_runV (n := 3) (As := [.int w62, .int w64, .int w65]) (rest := []) C G (mX8_force l X σ76 σ101 t w62 w64 w65 v100 ok e_v100) ok.1.2 (gE_8 ok.1.1) rfl (g_goodV u_ml_RL_64 u_im_yX8_force u_se_yX8_force u_in_RX8 u_co_yX8_force) rfl rfl rfl (by decide +kernel) ⟨Nat.le_of_ble_eq_true rfl, Nat.le_of_ble_eq_true rfl⟩ rfl hl.1 rfl (Nat.le_of_ble_eq_true rfl) dL_law_403 hcs) G (fun H locs G => ?_)
                refine lv_istore (lv' := [(12, .int v100), (11, .int v75), (10, .int w72), (9, .int w68), (8, .int w65), (7, .int w64), (6, .int w62), (5, .int v61), (1, .ref (xN X + t)), (0, .ref b), (2, .int 1), (3, .int x3), (4, .int x4)]) hx hb dL_law_406 hl (by decide) rfl (fun ls hl => ?_)
                refine lv_iload hx hb dL_law_408 (lv_at hl 3 rfl) ?_
                refine lv_if_ne (tgt := 418) hx hb dL_law_410 (by decide) (fun c102 => ?_) (fun c102 => ?_)
                · have h := g_if h c102
                  refine lv_iload hx hb dL_law_418 (lv_at hl 0 rfl) ?_
                  refine lv_sipush (v := (-1002)) hx hb dL_law_420 (by decide) ?_
                  refine lv_icmp_ne (tgt := 430) hx hb dL_law_423 (by decide) (fun c119 => ?_) (fun c119 => ?_)
                  · have h := g_if h c119
                    cases h
                  · have h := g_it h c119
                    refine lv_iconst (v := 1) hx hb dL_law_426 (by decide) ?_
                    refine lv_goto (tgt := 499) hx hb dL_law_427 (by decide) ?_
                    refine lv_istore_n (lv' := [(2, .int 1), (12, .int v100), (11, .int v75), (10, .int w72), (9, .int w68), (8, .int w65), (7, .int w64), (6, .int w62), (5, .int v61), (1, .ref (xN X + t)), (0, .ref b), (3, .int x3), (4, .int x4)]) hx hb dL_law_499 rfl hl (by decide) rfl (fun ls hl => ?_)
                    refine lv_goto (tgt := 591) hx hb dL_law_500 (by decide) ?_
                    exact L591 (fun σ2 y3 y4 => fL_law_192 L xs t n σ2 y3 y4) (fun H locs ls σ2 y3 y4 G hl h => ih H locs ls σ2 y3 y4 G hl h) gF _ _ _ σ101 x3 x4 G (lv_sub hl [9, 10, 0, 11, 12] rfl) h
                · have h := g_it h c102
                  refine lv_iload hx hb dL_law_413 (lv_at hl 2 rfl) ?_
                  refine lv_if_eq (tgt := 434) hx hb dL_law_415 (by decide) (fun c103 => ?_) (fun c103 => ?_)
                  · have h := g_it h c103
                    refine lv_iload hx hb dL_law_434 (lv_at hl 0 rfl) ?_
                    refine lv_aload_n hx hb dL_law_436 rfl (lv_at hl 8 rfl) ?_
                    refine lv_iload hx hb dL_law_437 (lv_at hl 6 rfl) ?_
                    refine lv_iconst (v := 5) hx hb dL_law_439 (by decide) ?_
                    obtain ⟨⟨v104, σ105⟩, e_v104, h⟩ := g_bind h
                    have h := g_let2 (v := v104) rfl h
                    have h := g_let2 (v := σ105) rfl h
                    refine g_calli (g_runV (n := 2) (As := [.int w62, .int 5]) (rest := [.int v100]) C G (mX8_scrap l X σ101 σ105 t w62 5 v104 ok e_v104) ok.1.2 (gE_8 ok.1.1) rfl (g_goodV u_ml_RL_21 u_im_yX8_scrap u_se_yX8_scrap u_in_RX8 u_co_yX8_scrap) rfl rfl rfl (by decide +kernel) ⟨Nat.le_of_ble_eq_true rfl, Nat.le_of_ble_eq_true rfl⟩ rfl hl.1 rfl (Nat.le_of_ble_eq_true rfl) dL_law_440 hcs) G (fun H locs G => ?_)
                    refine lv_icmp_ne (tgt := 498) hx hb dL_law_443 (by decide) (fun c106 => ?_) (fun c106 => ?_)
                    · have h := g_if h c106
                      cases h
                    · have h := g_it h c106
                      refine lv_aload_n hx hb dL_law_446 rfl (lv_at hl 8 rfl) ?_
                      refine lv_iload hx hb dL_law_447 (lv_at hl 6 rfl) ?_
                      refine lv_iconst (v := 1) hx hb dL_law_449 (by decide) ?_
                      obtain ⟨⟨v107, σ108⟩, e_v107, h⟩ := g_bind h
                      have h := g_let2 (v := v107) rfl h
                      have h := g_let2 (v := σ108) rfl h
                      refine g_calli (g_runV (n := 2) (As := [.int w62, .int 1]) (rest := []) C G (mX8_scrap l X σ105 σ108 t w62 1 v107 ok e_v107) ok.1.2 (gE_8 ok.1.1) rfl (g_goodV u_ml_RL_21 u_im_yX8_scrap u_se_yX8_scrap u_in_RX8 u_co_yX8_scrap) rfl rfl rfl (by decide +kernel) ⟨Nat.le_of_ble_eq_true rfl, Nat.le_of_ble_eq_true rfl⟩ rfl hl.1 rfl (Nat.le_of_ble_eq_true rfl) dL_law_450 hcs) G (fun H locs G => ?_)
                      refine lv_iload hx hb dL_law_453 (lv_at hl 4 rfl) ?_
                      refine lv_icmp_ne (tgt := 498) hx hb dL_law_455 (by decide) (fun c109 => ?_) (fun c109 => ?_)
                      · have h := g_if h c109
                        cases h
                      · have h := g_it h c109
                        refine lv_aload_n hx hb dL_law_458 rfl (lv_at hl 8 rfl) ?_
                        refine lv_iload hx hb dL_law_459 (lv_at hl 6 rfl) ?_
                        refine lv_iload hx hb dL_law_461 (lv_at hl 4 rfl) ?_
                        refine lv_iconst (v := 1) hx hb dL_law_463 (by decide) ?_
                        refine lv_iadd hx hb dL_law_464 ?_
                        refine lv_bipush (v := 8) hx hb dL_law_465 (by decide) ?_
                        refine lv_irem hx hb dL_law_467 (by decide) ?_
                        obtain ⟨⟨v110, σ111⟩, e_v110, h⟩ := g_bind h
                        have h := g_let2 (v := v110) rfl h
                        have h := g_let2 (v := σ111) rfl h
                        refine g_calli (g_runV (n := 2) (As := [.int w62, .int ((w65 + 1) - (w65 + 1) / 8 * 8)]) (rest := []) C G (mX8_turn l X σ108 σ111 t w62 ((w65 + 1) - (w65 + 1) / 8 * 8) v110 ok e_v110) ok.1.2 (gE_8 ok.1.1) rfl (g_goodV u_ml_RL_67 u_im_yX8_turn u_se_yX8_turn u_in_RX8 u_co_yX8_turn) rfl rfl rfl (by decide +kernel) ⟨Nat.le_of_ble_eq_true rfl, Nat.le_of_ble_eq_true rfl⟩ rfl hl.1 rfl (Nat.le_of_ble_eq_true rfl) dL_law_468 hcs) G (fun H locs G => ?_)
                        refine lv_aload_n hx hb dL_law_471 rfl (lv_at hl 8 rfl) ?_
                        refine lv_iload hx hb dL_law_472 (lv_at hl 6 rfl) ?_
                        refine lv_iconst (v := 5) hx hb dL_law_474 (by decide) ?_
                        obtain ⟨⟨v112, σ113⟩, e_v112, h⟩ := g_bind h
                        have h := g_let2 (v := v112) rfl h
                        have h := g_let2 (v := σ113) rfl h
                        refine g_calli (g_runV (n := 2) (As := [.int w62, .int 5]) (rest := [.int v110]) C G (mX8_scrap l X σ111 σ113 t w62 5 v112 ok e_v112) ok.1.2 (gE_8 ok.1.1) rfl (g_goodV u_ml_RL_21 u_im_yX8_scrap u_se_yX8_scrap u_in_RX8 u_co_yX8_scrap) rfl rfl rfl (by decide +kernel) ⟨Nat.le_of_ble_eq_true rfl, Nat.le_of_ble_eq_true rfl⟩ rfl hl.1 rfl (Nat.le_of_ble_eq_true rfl) dL_law_475 hcs) G (fun H locs G => ?_)
                        refine lv_icmp_ne (tgt := 498) hx hb dL_law_478 (by decide) (fun c114 => ?_) (fun c114 => ?_)
                        · have h := g_if h c114
                          cases h
                        · have h := g_it h c114
                          refine lv_aload_n hx hb dL_law_481 rfl (lv_at hl 8 rfl) ?_
                          refine lv_iload hx hb dL_law_482 (lv_at hl 6 rfl) ?_
                          refine lv_iload hx hb dL_law_484 (lv_at hl 4 rfl) ?_
                          obtain ⟨⟨v115, σ116⟩, e_v115, h⟩ := g_bind h
                          have h := g_let2 (v := v115) rfl h
                          have h := g_let2 (v := σ116) rfl h
                          refine g_calli (g_runV (n := 2) (As := [.int w62, .int w65]) (rest := []) C G (mX8_turn l X σ113 σ116 t w62 w65 v115 ok e_v115) ok.1.2 (gE_8 ok.1.1) rfl (g_goodV u_ml_RL_67 u_im_yX8_turn u_se_yX8_turn u_in_RX8 u_co_yX8_turn) rfl rfl rfl (by decide +kernel) ⟨Nat.le_of_ble_eq_true rfl, Nat.le_of_ble_eq_true rfl⟩ rfl hl.1 rfl (Nat.le_of_ble_eq_true rfl) dL_law_486 hcs) G (fun H locs G => ?_)
                          refine lv_iload hx hb dL_law_489 (lv_at hl 0 rfl) ?_
                          refine lv_icmp_ne (tgt := 498) hx hb dL_law_491 (by decide) (fun c117 => ?_) (fun c117 => ?_)
                          · have h := g_if h c117
                            cases h
                          · have h := g_it h c117
                            refine lv_iconst (v := 1) hx hb dL_law_494 (by decide) ?_
                            refine lv_goto (tgt := 499) hx hb dL_law_495 (by decide) ?_
                            refine lv_istore_n (lv' := [(2, .int 1), (12, .int v100), (11, .int v75), (10, .int w72), (9, .int w68), (8, .int w65), (7, .int w64), (6, .int w62), (5, .int v61), (1, .ref (xN X + t)), (0, .ref b), (3, .int x3), (4, .int x4)]) hx hb dL_law_499 rfl hl (by decide) rfl (fun ls hl => ?_)
                            refine lv_goto (tgt := 591) hx hb dL_law_500 (by decide) ?_
                            exact L591 (fun σ2 y3 y4 => fL_law_192 L xs t n σ2 y3 y4) (fun H locs ls σ2 y3 y4 G hl h => ih H locs ls σ2 y3 y4 G hl h) gF _ _ _ σ116 x3 x4 G (lv_sub hl [9, 10, 0, 11, 12] rfl) h
                  · have h := g_if h c103
                    refine lv_iload hx hb dL_law_418 (lv_at hl 0 rfl) ?_
                    refine lv_sipush (v := (-1002)) hx hb dL_law_420 (by decide) ?_
                    refine lv_icmp_ne (tgt := 430) hx hb dL_law_423 (by decide) (fun c118 => ?_) (fun c118 => ?_)
                    · have h := g_if h c118
                      cases h
                    · have h := g_it h c118
                      refine lv_iconst (v := 1) hx hb dL_law_426 (by decide) ?_
                      refine lv_goto (tgt := 499) hx hb dL_law_427 (by decide) ?_
                      refine lv_istore_n (lv' := [(2, .int 1), (12, .int v100), (11, .int v75), (10, .int w72), (9, .int w68), (8, .int w65), (7, .int w64), (6, .int w62), (5, .int v61), (1, .ref (xN X + t)), (0, .ref b), (3, .int x3), (4, .int x4)]) hx hb dL_law_499 rfl hl (by decide) rfl (fun ls hl => ?_)
                      refine lv_goto (tgt := 591) hx hb dL_law_500 (by decide) ?_
                      exact L591 (fun σ2 y3 y4 => fL_law_192 L xs t n σ2 y3 y4) (fun H locs ls σ2 y3 y4 G hl h => ih H locs ls σ2 y3 y4 G hl h) gF _ _ _ σ101 x3 x4 G (lv_sub hl [9, 10, 0, 11, 12] rfl) h
            · have h := g_it h c77
              refine lv_aload_n hx hb dL_law_289 rfl (lv_at hl 7 rfl) ?_
              refine lv_iload hx hb dL_law_290 (lv_at hl 5 rfl) ?_
              refine lv_iload hx hb dL_law_292 (lv_at hl 4 rfl) ?_
              obtain ⟨v78, e_v78, h⟩ := g_bind h
              refine g_calli (g_runV (n := 2) (As := [.int w62, .int w64]) (rest := []) C G (mX8_ways l X σ76 t w62 w64 v78 ok e_v78) ok.1.2 (gE_8 ok.1.1) rfl (g_goodV u_ml_RL_57 u_im_yX8_ways u_se_yX8_ways u_in_RX8 u_co_yX8_ways) rfl rfl rfl (by decide +kernel) ⟨Nat.le_of_ble_eq_true rfl, Nat.le_of_ble_eq_true rfl⟩ rfl hl.1 rfl (Nat.le_of_ble_eq_true rfl) dL_law_294 hcs) G (fun H locs G => ?_)
              refine lv_istore (lv' := [(12, .int v78), (11, .int v75), (10, .int w72), (9, .int w68), (8, .int w65), (7, .int w64), (6, .int w62), (5, .int v61), (1, .ref (xN X + t)), (0, .ref b), (2, .int 1), (3, .int x3), (4, .int x4)]) hx hb dL_law_297 hl (by decide) rfl (fun ls hl => ?_)
              refine lv_aload_n hx hb dL_law_299 rfl (lv_at hl 8 rfl) ?_
              refine lv_iload hx hb dL_law_300 (lv_at hl 6 rfl) ?_
              refine lv_iload hx hb dL_law_302 (lv_at hl 5 rfl) ?_
              refine lv_iload hx hb dL_law_304 (lv_at hl 4 rfl) ?_
              obtain ⟨⟨v79, σ80⟩, e_v79, h⟩ := g_bind h
              have h := g_let2 (v := v79) rfl h
              have h := g_let2 (v := σ80) rfl h
              refine g_calli (g_runV (n := 3) (As := [.int w62, .int w64, .int w65]) (rest := []) C G (mX8_lay l X σ76 σ80 t w62 w64 w65 v79 ok e_v79) ok.1.2 (gE_8 ok.1.1) rfl (g_goodV u_ml_RL_60 u_im_yX8_lay u_se_yX8_lay u_in_RX8 u_co_yX8_lay) rfl rfl rfl (by decide +kernel) ⟨Nat.le_of_ble_eq_true rfl, Nat.le_of_ble_eq_true rfl⟩ rfl hl.1 rfl (Nat.le_of_ble_eq_true rfl) dL_law_306 hcs) G (fun H locs G => ?_)
              refine lv_istore (lv' := [(13, .int v79), (12, .int v78), (11, .int v75), (10, .int w72), (9, .int w68), (8, .int w65), (7, .int w64), (6, .int w62), (5, .int v61), (1, .ref (xN X + t)), (0, .ref b), (2, .int 1), (3, .int x3), (4, .int x4)]) hx hb dL_law_309 hl (by decide) rfl (fun ls hl => ?_)
              refine lv_iload hx hb dL_law_311 (lv_at hl 0 rfl) ?_
              refine lv_if_lt (tgt := 360) hx hb dL_law_313 (by decide) (fun c81 => ?_) (fun c81 => ?_)
              · have h := g_it h c81
                refine lv_iload hx hb dL_law_360 (lv_at hl 0 rfl) ?_
                refine lv_sipush (v := (-1002)) hx hb dL_law_362 (by decide) ?_
                refine lv_icmp_ne (tgt := 383) hx hb dL_law_365 (by decide) (fun c82 => ?_) (fun c82 => ?_)
                · have h := g_if h c82
                  cases h
                · have h := g_it h c82
                  refine lv_aload_n hx hb dL_law_368 rfl (lv_at hl 9 rfl) ?_
                  refine lv_bipush (v := 10) hx hb dL_law_369 (by decide) ?_
                  obtain ⟨⟨v83, σ84⟩, e_v83, h⟩ := g_bind h
                  have h := g_let2 (v := v83) rfl h
                  have h := g_let2 (v := σ84) rfl h
                  refine g_calli (g_runV (n := 1) (As := [.int 10]) (rest := []) C G (mX8_count l X σ80 σ84 t 10 v83 ok e_v83) ok.1.2 (gE_8 ok.1.1) rfl (g_goodV u_ml_RL_25 u_im_yX8_count u_se_yX8_count u_in_RX8 u_co_yX8_count) rfl rfl rfl (by decide +kernel) ⟨Nat.le_of_ble_eq_true rfl, Nat.le_of_ble_eq_true rfl⟩ rfl hl.1 rfl (Nat.le_of_ble_eq_true rfl) dL_law_371 hcs) G (fun H locs G => ?_)
                  refine lv_iload hx hb dL_law_374 (lv_at hl 2 rfl) ?_
                  refine lv_icmp_ne (tgt := 383) hx hb dL_law_376 (by decide) (fun c85 => ?_) (fun c85 => ?_)
                  · have h := g_if h c85
                    cases h
                  · have h := g_it h c85
                    refine lv_iconst (v := 1) hx hb dL_law_379 (by decide) ?_
                    refine lv_goto (tgt := 384) hx hb dL_law_380 (by decide) ?_
                    refine lv_istore_n (lv' := [(2, .int 1), (13, .int v79), (12, .int v78), (11, .int v75), (10, .int w72), (9, .int w68), (8, .int w65), (7, .int w64), (6, .int w62), (5, .int v61), (1, .ref (xN X + t)), (0, .ref b), (3, .int x3), (4, .int x4)]) hx hb dL_law_384 rfl hl (by decide) rfl (fun ls hl => ?_)
                    refine lv_goto (tgt := 591) hx hb dL_law_385 (by decide) ?_
                    exact L591 (fun σ2 y3 y4 => fL_law_192 L xs t n σ2 y3 y4) (fun H locs ls σ2 y3 y4 G hl h => ih H locs ls σ2 y3 y4 G hl h) gF _ _ _ σ84 x3 x4 G (lv_sub hl [10, 11, 0, 12, 13] rfl) h
              · have h := g_if h c81
                refine lv_iload hx hb dL_law_316 (lv_at hl 4 rfl) ?_
                refine lv_if_ne (tgt := 356) hx hb dL_law_318 (by decide) (fun c91 => ?_) (fun c91 => ?_)
                · have h := g_if h c91
                  cases h
                · have h := g_it h c91
                  refine lv_iload hx hb dL_law_321 (lv_at hl 3 rfl) ?_
                  refine lv_if_ne (tgt := 356) hx hb dL_law_323 (by decide) (fun c92 => ?_) (fun c92 => ?_)
                  · have h := g_if h c92
                    cases h
                  · have h := g_it h c92
                    refine lv_iload hx hb dL_law_326 (lv_at hl 1 rfl) ?_
                    refine lv_if_le (tgt := 356) hx hb dL_law_328 (by decide) (fun c93 => ?_) (fun c93 => ?_)
                    · have h := g_it h c93
                      cases h
                    · have h := g_if h c93
                      refine lv_aload_n hx hb dL_law_331 rfl (lv_at hl 9 rfl) ?_
                      refine lv_iload hx hb dL_law_332 (lv_at hl 7 rfl) ?_
                      refine lv_iconst (v := 5) hx hb dL_law_334 (by decide) ?_
                      obtain ⟨⟨v94, σ95⟩, e_v94, h⟩ := g_bind h
                      have h := g_let2 (v := v94) rfl h
                      have h := g_let2 (v := σ95) rfl h
                      refine g_calli (g_runV (n := 2) (As := [.int w62, .int 5]) (rest := []) C G (mX8_scrap l X σ80 σ95 t w62 5 v94 ok e_v94) ok.1.2 (gE_8 ok.1.1) rfl (g_goodV u_ml_RL_21 u_im_yX8_scrap u_se_yX8_scrap u_in_RX8 u_co_yX8_scrap) rfl rfl rfl (by decide +kernel) ⟨Nat.le_of_ble_eq_true rfl, Nat.le_of_ble_eq_true rfl⟩ rfl hl.1 rfl (Nat.le_of_ble_eq_true rfl) dL_law_335 hcs) G (fun H locs G => ?_)
                      refine lv_if_ne (tgt := 356) hx hb dL_law_338 (by decide) (fun c96 => ?_) (fun c96 => ?_)
                      · have h := g_if h c96
                        cases h
                      · have h := g_it h c96
                        refine lv_aload_n hx hb dL_law_341 rfl (lv_at hl 9 rfl) ?_
                        refine lv_iload hx hb dL_law_342 (lv_at hl 6 rfl) ?_
                        obtain ⟨v97, e_v97, h⟩ := g_bind h
                        refine g_calli (g_runV (n := 1) (As := [.int w64]) (rest := []) C G (mX8_at l X σ95 t w64 v97 ok e_v97) ok.1.2 (gE_8 ok.1.1) rfl (g_goodV u_ml_RL_28 u_im_yX8_at u_se_yX8_at u_in_RX8 u_co_yX8_at) rfl rfl rfl (by decide +kernel) ⟨Nat.le_of_ble_eq_true rfl, Nat.le_of_ble_eq_true rfl⟩ rfl hl.1 rfl (Nat.le_of_ble_eq_true rfl) dL_law_344 hcs) G (fun H locs G => ?_)
                        refine lv_iload hx hb dL_law_347 (lv_at hl 7 rfl) ?_
                        refine lv_icmp_ne (tgt := 356) hx hb dL_law_349 (by decide) (fun c98 => ?_) (fun c98 => ?_)
                        · have h := g_if h c98
                          cases h
                        · have h := g_it h c98
                          refine lv_iconst (v := 1) hx hb dL_law_352 (by decide) ?_
                          refine lv_goto (tgt := 384) hx hb dL_law_353 (by decide) ?_
                          refine lv_istore_n (lv' := [(2, .int 1), (13, .int v79), (12, .int v78), (11, .int v75), (10, .int w72), (9, .int w68), (8, .int w65), (7, .int w64), (6, .int w62), (5, .int v61), (1, .ref (xN X + t)), (0, .ref b), (3, .int x3), (4, .int x4)]) hx hb dL_law_384 rfl hl (by decide) rfl (fun ls hl => ?_)
                          refine lv_goto (tgt := 591) hx hb dL_law_385 (by decide) ?_
                          exact L591 (fun σ2 y3 y4 => fL_law_192 L xs t n σ2 y3 y4) (fun H locs ls σ2 y3 y4 G hl h => ih H locs ls σ2 y3 y4 G hl h) gF _ _ _ σ95 x3 x4 G (lv_sub hl [10, 11, 0, 12, 13] rfl) h
          refine lv_if_lt (tgt := 271) hx hb dL_law_264 (by decide) (fun c74 => ?_) (fun c74 => ?_)
          · refine lv_iconst (v := 0) hx hb dL_law_271 (by decide) ?_
            exact J73 _ _ _ G (if_pos c74).symm
          · refine lv_iconst (v := 1) hx hb dL_law_267 (by decide) ?_
            refine lv_goto (tgt := 272) hx hb dL_law_268 (by decide) ?_
            exact J73 _ _ _ G (if_neg c74).symm
        refine lv_if_lt (tgt := 255) hx hb dL_law_248 (by decide) (fun c70 => ?_) (fun c70 => ?_)
        · refine lv_iconst (v := 0) hx hb dL_law_255 (by decide) ?_
          exact J69 _ _ _ G (if_pos c70).symm
        · refine lv_iconst (v := 1) hx hb dL_law_251 (by decide) ?_
          refine lv_goto (tgt := 256) hx hb dL_law_252 (by decide) ?_
          exact J69 _ _ _ G (if_neg c70).symm
  have L61 : ∀ (n : Nat) (H : Heap) (locs : List Loc) (ls : Array Slot) (σ : gM) (x3 : Int32) (x4 : Int32), gG X σ s H locs → lv_has ls 14 [(1, .ref (xN X + t)), (0, .ref b), (2, .int 1), (3, .int x3), (4, .int x4)] → fL_law_61 L xs t n σ x3 x4 = some σ' → W p l ev room_1 s m #[Value.ref b] below meth c H locs cells slots Q (F0 m 61 ls []) := by
    intro n
    induction n with
    | zero =>
      intro H locs ls σ x3 x4 G hl h
      rw [fL_law_61] at h
      cases h
    | succ n ih =>
      intro H locs ls σ x3 x4 G hl h
      rw [fL_law_61] at h
      refine lv_iload hx hb dL_law_61 (lv_at hl 4 rfl) ?_
      refine lv_bipush (v := 8) hx hb dL_law_63 (by decide) ?_
      refine lv_icmp_ge (tgt := 189) hx hb dL_law_65 (by decide) (fun c14 => ?_) (fun c14 => ?_)
      · have h := g_it h c14
        refine lv_iconst (v := 0) hx hb dL_law_189 (by decide) ?_
        refine lv_istore (lv' := [(4, .int 0), (1, .ref (xN X + t)), (0, .ref b), (2, .int 1), (3, .int x3)]) hx hb dL_law_190 hl (by decide) rfl (fun ls hl => ?_)
        exact L192  gF _ _ _ σ x3 0 G (lv_sub hl [1, 2, 3, 4, 0] rfl) h
      · have h := g_if h c14
        refine lv_iload_n hx hb dL_law_68 rfl (lv_at hl 2 rfl) ?_
        refine lv_if_eq (tgt := 189) hx hb dL_law_69 (by decide) (fun c135 => absurd c135 (by decide)) (fun _ => ?_)
        refine lv_aload_n hx hb dL_law_72 rfl (lv_at hl 1 rfl) ?_
        refine lv_iconst (v := 2) hx hb dL_law_73 (by decide) ?_
        refine lv_iload hx hb dL_law_74 (lv_at hl 4 rfl) ?_
        refine lv_iadd hx hb dL_law_76 ?_
        obtain ⟨v136, e_v136, h⟩ := g_bind h
        refine g_calli (x_runS (n := 2) (As := [.ref b, .int (2 + x4)]) (rest := []) C G hX hbl hbA (mL_cell l X σ b L xs (2 + x4) v136 e_v136) (g_goodS u_ml_RL_42 u_st_yL_cell u_in_RL u_co_yL_cell) rfl rfl rfl (by decide +kernel) ⟨Nat.le_of_ble_eq_true rfl, Nat.le_of_ble_eq_true rfl⟩ rfl hl.1 rfl (Nat.le_of_ble_eq_true rfl) dL_law_77 hcs) G (fun H locs G => ?_)
        refine lv_istore (lv' := [(5, .int v136), (1, .ref (xN X + t)), (0, .ref b), (2, .int 1), (3, .int x3), (4, .int x4)]) hx hb dL_law_80 hl (by decide) rfl (fun ls hl => ?_)
        refine lv_aload_n hx hb dL_law_82 rfl (lv_at hl 1 rfl) ?_
        refine lv_iload hx hb dL_law_83 (lv_at hl 0 rfl) ?_
        refine lv_iconst (v := 4) hx hb dL_law_85 (by decide) ?_
        refine lv_irem hx hb dL_law_86 (by decide) ?_
        have J138 : ∀ (w137 : Int32) (H : Heap) (locs : List Loc), gG X σ s H locs → w137 = (if (v136 - v136 / 4 * 4) = 0 then ((-1) : Int32) else (v136 - v136 / 1000 * 1000)) → W p l ev room_1 s m #[Value.ref b] below meth c H locs cells slots Q (F0 m 100 ls [.int w137, .ref (xN X + t)]) := by
          intro w137 H locs G e_w137
          have h := g_let2 e_w137 h
          refine lv_iload hx hb dL_law_100 (lv_at hl 0 rfl) ?_
          refine lv_iconst (v := 4) hx hb dL_law_102 (by decide) ?_
          refine lv_idiv hx hb dL_law_103 (by decide) ?_
          refine lv_iconst (v := 4) hx hb dL_law_104 (by decide) ?_
          refine lv_irem hx hb dL_law_105 (by decide) ?_
          have J141 : ∀ (w140 : Int32) (H : Heap) (locs : List Loc), gG X σ s H locs → w140 = (if ((v136 / 4) - (v136 / 4) / 4 * 4) = 0 then ((-1) : Int32) else ((v136 / 7) - (v136 / 7) / 1000 * 1000)) → W p l ev room_1 s m #[Value.ref b] below meth c H locs cells slots Q (F0 m 122 ls [.int w140, .int w137, .ref (xN X + t)]) := by
            intro w140 H locs G e_w140
            have h := g_let2 e_w140 h
            refine lv_iload hx hb dL_law_122 (lv_at hl 0 rfl) ?_
            refine lv_bipush (v := 16) hx hb dL_law_124 (by decide) ?_
            refine lv_idiv hx hb dL_law_126 (by decide) ?_
            refine lv_iconst (v := 3) hx hb dL_law_127 (by decide) ?_
            refine lv_irem hx hb dL_law_128 (by decide) ?_
            have J144 : ∀ (w143 : Int32) (H : Heap) (locs : List Loc), gG X σ s H locs → w143 = (if ((v136 / 16) - (v136 / 16) / 3 * 3) = 0 then ((-1) : Int32) else (454 : Int32)) → W p l ev room_1 s m #[Value.ref b] below meth c H locs cells slots Q (F0 m 139 ls [.int w143, .int w140, .int w137, .ref (xN X + t)]) := by
              intro w143 H locs G e_w143
              have h := g_let2 e_w143 h
              refine lv_iload hx hb dL_law_139 (lv_at hl 0 rfl) ?_
              refine lv_bipush (v := 48) hx hb dL_law_141 (by decide) ?_
              refine lv_idiv hx hb dL_law_143 (by decide) ?_
              refine lv_iconst (v := 3) hx hb dL_law_144 (by decide) ?_
              refine lv_irem hx hb dL_law_145 (by decide) ?_
              have J147 : ∀ (w146 : Int32) (H : Heap) (locs : List Loc), gG X σ s H locs → w146 = (if ((v136 / 48) - (v136 / 48) / 3 * 3) = 0 then ((-1) : Int32) else (545 : Int32)) → W p l ev room_1 s m #[Value.ref b] below meth c H locs cells slots Q (F0 m 156 ls [.int w146, .int w143, .int w140, .int w137, .ref (xN X + t)]) := by
                intro w146 H locs G e_w146
                have h := g_let2 e_w146 h
                refine lv_iload hx hb dL_law_156 (lv_at hl 0 rfl) ?_
                refine lv_iconst (v := 2) hx hb dL_law_158 (by decide) ?_
                refine lv_irem hx hb dL_law_159 (by decide) ?_
                obtain ⟨⟨v149, σ150⟩, e_v149, h⟩ := g_bind h
                have h := g_let2 (v := v149) rfl h
                have h := g_let2 (v := σ150) rfl h
                refine g_calli (g_runV (n := 5) (As := [.int w137, .int w140, .int w143, .int w146, .int (v136 - v136 / 2 * 2)]) (rest := []) C G (mX8_addScrap l X σ σ150 t w137 w140 w143 w146 (v136 - v136 / 2 * 2) v149 ok e_v149) ok.1.2 (gE_8 ok.1.1) rfl (g_goodV u_ml_RL_49 u_im_yX8_addScrap u_se_yX8_addScrap u_in_RX8 u_co_yX8_addScrap) rfl rfl rfl (by decide +kernel) ⟨Nat.le_of_ble_eq_true rfl, Nat.le_of_ble_eq_true rfl⟩ rfl hl.1 rfl (Nat.le_of_ble_eq_true rfl) dL_law_160 hcs) G (fun H locs G => ?_)
                refine lv_iload hx hb dL_law_163 (lv_at hl 5 rfl) ?_
                refine lv_icmp_ne (tgt := 181) hx hb dL_law_165 (by decide) (fun c151 => ?_) (fun c151 => ?_)
                · have h := g_if h c151
                  cases h
                · have h := g_it h c151
                  refine lv_aload_n hx hb dL_law_168 rfl (lv_at hl 1 rfl) ?_
                  refine lv_iload hx hb dL_law_169 (lv_at hl 5 rfl) ?_
                  obtain ⟨⟨v152, σ153⟩, e_v152, h⟩ := g_bind h
                  have h := g_let2 (v := v152) rfl h
                  have h := g_let2 (v := σ153) rfl h
                  refine g_calli (g_runS (n := 2) (As := [.ref (xN X + t), .int x4]) (rest := []) C G (mL_turns l X σ150 σ153 t x4 v152 ok e_v152) (g_goodS u_ml_RL_53 u_st_yL_turns u_in_RL u_co_yL_turns) rfl rfl rfl (by decide +kernel) ⟨Nat.le_of_ble_eq_true rfl, Nat.le_of_ble_eq_true rfl⟩ rfl hl.1 rfl (Nat.le_of_ble_eq_true rfl) dL_law_171 hcs) G (fun H locs G => ?_)
                  refine lv_if_eq (tgt := 181) hx hb dL_law_174 (by decide) (fun c154 => ?_) (fun c154 => ?_)
                  · have h := g_it h c154
                    cases h
                  · have h := g_if h c154
                    refine lv_iconst (v := 1) hx hb dL_law_177 (by decide) ?_
                    refine lv_goto (tgt := 182) hx hb dL_law_178 (by decide) ?_
                    refine lv_istore_n (lv' := [(2, .int 1), (5, .int v136), (1, .ref (xN X + t)), (0, .ref b), (3, .int x3), (4, .int x4)]) hx hb dL_law_182 rfl hl (by decide) rfl (fun ls hl => ?_)
                    obtain ⟨w155, e_w155⟩ : ∃ y : Int32, y = x4 + 1 := ⟨_, rfl⟩
                    have h := g_let2 e_w155 h
                    refine lv_iinc (v := w155) (lv' := [(4, .int w155), (2, .int 1), (5, .int v136), (1, .ref (xN X + t)), (0, .ref b), (3, .int x3)]) hx hb dL_law_183 hl (k := 5) rfl (by rw [e_w155]; rfl) (by decide) rfl (fun ls hl => ?_)
                    refine lv_goto (tgt := 61) hx hb dL_law_186 (by decide) ?_
                    exact ih _ _ _ σ153 x3 w155 G (lv_sub hl [3, 4, 1, 5, 0] rfl) h
              refine lv_if_ne (tgt := 153) hx hb dL_law_146 (by decide) (fun c148 => ?_) (fun c148 => ?_)
              · refine lv_sipush (v := 545) hx hb dL_law_153 (by decide) ?_
                exact J147 _ _ _ G (if_neg c148).symm
              · refine lv_iconst (v := (-1)) hx hb dL_law_149 (by decide) ?_
                refine lv_goto (tgt := 156) hx hb dL_law_150 (by decide) ?_
                exact J147 _ _ _ G (if_pos c148).symm
            refine lv_if_ne (tgt := 136) hx hb dL_law_129 (by decide) (fun c145 => ?_) (fun c145 => ?_)
            · refine lv_sipush (v := 454) hx hb dL_law_136 (by decide) ?_
              exact J144 _ _ _ G (if_neg c145).symm
            · refine lv_iconst (v := (-1)) hx hb dL_law_132 (by decide) ?_
              refine lv_goto (tgt := 139) hx hb dL_law_133 (by decide) ?_
              exact J144 _ _ _ G (if_pos c145).symm
          refine lv_if_ne (tgt := 113) hx hb dL_law_106 (by decide) (fun c142 => ?_) (fun c142 => ?_)
          · refine lv_iload hx hb dL_law_113 (lv_at hl 0 rfl) ?_
            refine lv_bipush (v := 7) hx hb dL_law_115 (by decide) ?_
            refine lv_idiv hx hb dL_law_117 (by decide) ?_
            refine lv_sipush (v := 1000) hx hb dL_law_118 (by decide) ?_
            refine lv_irem hx hb dL_law_121 (by decide) ?_
            exact J141 _ _ _ G (if_neg c142).symm
          · refine lv_iconst (v := (-1)) hx hb dL_law_109 (by decide) ?_
            refine lv_goto (tgt := 122) hx hb dL_law_110 (by decide) ?_
            exact J141 _ _ _ G (if_pos c142).symm
        refine lv_if_ne (tgt := 94) hx hb dL_law_87 (by decide) (fun c139 => ?_) (fun c139 => ?_)
        · refine lv_iload hx hb dL_law_94 (lv_at hl 0 rfl) ?_
          refine lv_sipush (v := 1000) hx hb dL_law_96 (by decide) ?_
          refine lv_irem hx hb dL_law_99 (by decide) ?_
          exact J138 _ _ _ G (if_neg c139).symm
        · refine lv_iconst (v := (-1)) hx hb dL_law_90 (by decide) ?_
          refine lv_goto (tgt := 100) hx hb dL_law_91 (by decide) ?_
          exact J138 _ _ _ G (if_pos c139).symm
  intro H locs ls G hl
  refine lv_aload_n hx hb dL_law_8 rfl (lv_at hl 0 rfl) ?_
  obtain ⟨⟨v1, σ2⟩, e_v1, h⟩ := g_bind h
  have h := g_let2 (v := v1) rfl h
  have h := g_let2 (v := σ2) rfl h
  refine g_calli (g_runS (n := 1) (As := [.ref (xN X + t)]) (rest := []) C G (mL_holds l X σ σ2 t v1 ok e_v1) (g_goodS u_ml_RL_38 u_st_yL_holds u_in_RL u_co_yL_holds) rfl rfl rfl (by decide +kernel) ⟨Nat.le_of_ble_eq_true rfl, Nat.le_of_ble_eq_true rfl⟩ rfl hl.1 rfl (Nat.le_of_ble_eq_true rfl) dL_law_9 hcs) G (fun H locs G => ?_)
  refine lv_if_eq (tgt := 44) hx hb dL_law_12 (by decide) (fun c3 => ?_) (fun c3 => ?_)
  · have h := g_it h c3
    cases h
  · have h := g_if h c3
    refine lv_aload_n hx hb dL_law_15 rfl (lv_at hl 0 rfl) ?_
    refine lv_iconst (v := 1) hx hb dL_law_16 (by decide) ?_
    refine lv_aload_n hx hb dL_law_17 rfl (lv_at hl 1 rfl) ?_
    refine lv_iconst (v := 0) hx hb dL_law_18 (by decide) ?_
    obtain ⟨v4, e_v4, h⟩ := g_bind h
    refine g_calli (x_runS (n := 2) (As := [.ref b, .int 0]) (rest := [.int 1, .ref (xN X + t)]) C G hX hbl hbA (mL_cell l X σ2 b L xs 0 v4 e_v4) (g_goodS u_ml_RL_42 u_st_yL_cell u_in_RL u_co_yL_cell) rfl rfl rfl (by decide +kernel) ⟨Nat.le_of_ble_eq_true rfl, Nat.le_of_ble_eq_true rfl⟩ rfl hl.1 rfl (Nat.le_of_ble_eq_true rfl) dL_law_19 hcs) G (fun H locs G => ?_)
    refine lv_iconst (v := 4) hx hb dL_law_22 (by decide) ?_
    refine lv_irem hx hb dL_law_23 (by decide) ?_
    refine lv_iadd hx hb dL_law_24 ?_
    refine lv_iconst (v := 1) hx hb dL_law_25 (by decide) ?_
    refine lv_aload_n hx hb dL_law_26 rfl (lv_at hl 1 rfl) ?_
    refine lv_iconst (v := 1) hx hb dL_law_27 (by decide) ?_
    obtain ⟨v5, e_v5, h⟩ := g_bind h
    refine g_calli (x_runS (n := 2) (As := [.ref b, .int 1]) (rest := [.int 1, .int (1 + (v4 - v4 / 4 * 4)), .ref (xN X + t)]) C G hX hbl hbA (mL_cell l X σ2 b L xs 1 v5 e_v5) (g_goodS u_ml_RL_42 u_st_yL_cell u_in_RL u_co_yL_cell) rfl rfl rfl (by decide +kernel) ⟨Nat.le_of_ble_eq_true rfl, Nat.le_of_ble_eq_true rfl⟩ rfl hl.1 rfl (Nat.le_of_ble_eq_true rfl) dL_law_28 hcs) G (fun H locs G => ?_)
    refine lv_iconst (v := 4) hx hb dL_law_31 (by decide) ?_
    refine lv_irem hx hb dL_law_32 (by decide) ?_
    refine lv_iadd hx hb dL_law_33 ?_
    obtain ⟨⟨v6, σ7⟩, e_v6, h⟩ := g_bind h
    have h := g_let2 (v := v6) rfl h
    have h := g_let2 (v := σ7) rfl h
    refine g_calli (g_runV (n := 2) (As := [.int (1 + (v4 - v4 / 4 * 4)), .int (1 + (v5 - v5 / 4 * 4))]) (rest := []) C G (mX8_reset l X σ2 σ7 t (1 + (v4 - v4 / 4 * 4)) (1 + (v5 - v5 / 4 * 4)) v6 ok e_v6) ok.1.2 (gE_8 ok.1.1) rfl (g_goodV u_ml_RL_46 u_im_yX8_reset u_se_yX8_reset u_in_RX8 u_co_yX8_reset) rfl rfl rfl (by decide +kernel) ⟨Nat.le_of_ble_eq_true rfl, Nat.le_of_ble_eq_true rfl⟩ rfl hl.1 rfl (Nat.le_of_ble_eq_true rfl) dL_law_34 hcs) G (fun H locs G => ?_)
    refine lv_if_ne (tgt := 44) hx hb dL_law_37 (by decide) (fun c8 => ?_) (fun c8 => ?_)
    · have h := g_if h c8
      cases h
    · have h := g_it h c8
      refine lv_iconst (v := 1) hx hb dL_law_40 (by decide) ?_
      refine lv_goto (tgt := 45) hx hb dL_law_41 (by decide) ?_
      refine lv_istore_n (lv' := [(2, .int 1), (1, .ref (xN X + t)), (0, .ref b)]) hx hb dL_law_45 rfl hl (by decide) rfl (fun ls hl => ?_)
      refine lv_aload_n hx hb dL_law_46 rfl (lv_at hl 1 rfl) ?_
      refine lv_iconst (v := 2) hx hb dL_law_47 (by decide) ?_
      obtain ⟨⟨v9, σ10⟩, e_v9, h⟩ := g_bind h
      have h := g_let2 (v := v9) rfl h
      have h := g_let2 (v := σ10) rfl h
      refine g_calli (g_runV (n := 1) (As := [.int 2]) (rest := []) C G (mX8_count l X σ7 σ10 t 2 v9 ok e_v9) ok.1.2 (gE_8 ok.1.1) rfl (g_goodV u_ml_RL_25 u_im_yX8_count u_se_yX8_count u_in_RX8 u_co_yX8_count) rfl rfl rfl (by decide +kernel) ⟨Nat.le_of_ble_eq_true rfl, Nat.le_of_ble_eq_true rfl⟩ rfl hl.1 rfl (Nat.le_of_ble_eq_true rfl) dL_law_48 hcs) G (fun H locs G => ?_)
      refine lv_aload_n hx hb dL_law_51 rfl (lv_at hl 1 rfl) ?_
      refine lv_iconst (v := 3) hx hb dL_law_52 (by decide) ?_
      obtain ⟨⟨v11, σ12⟩, e_v11, h⟩ := g_bind h
      have h := g_let2 (v := v11) rfl h
      have h := g_let2 (v := σ12) rfl h
      refine g_calli (g_runV (n := 1) (As := [.int 3]) (rest := [.int v9]) C G (mX8_count l X σ10 σ12 t 3 v11 ok e_v11) ok.1.2 (gE_8 ok.1.1) rfl (g_goodV u_ml_RL_25 u_im_yX8_count u_se_yX8_count u_in_RX8 u_co_yX8_count) rfl rfl rfl (by decide +kernel) ⟨Nat.le_of_ble_eq_true rfl, Nat.le_of_ble_eq_true rfl⟩ rfl hl.1 rfl (Nat.le_of_ble_eq_true rfl) dL_law_53 hcs) G (fun H locs G => ?_)
      refine lv_imul hx hb dL_law_56 ?_
      refine lv_topi (fun w13 e_w13 => ?_)
      have h := g_let2 e_w13 h
      refine lv_istore_n (lv' := [(3, .int w13), (2, .int 1), (1, .ref (xN X + t)), (0, .ref b)]) hx hb dL_law_57 rfl hl (by decide) rfl (fun ls hl => ?_)
      refine lv_iconst (v := 0) hx hb dL_law_58 (by decide) ?_
      refine lv_istore (lv' := [(4, .int 0), (3, .int w13), (2, .int 1), (1, .ref (xN X + t)), (0, .ref b)]) hx hb dL_law_59 hl (by decide) rfl (fun ls hl => ?_)
      exact L61  gF _ _ _ σ12 w13 0 G (lv_sub hl [3, 4, 2, 1, 0] rfl) h
