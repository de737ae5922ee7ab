def fX9_edge (σ : gM) (t : Nat) (a1 : Int32) (a2 : Int32) (a3 : Int32) (a4 : Int32) : Option (Int32 × gM) :=
  ((fX9_isScrap σ t a1).bind fun v1 =>
  (if v1 = 0 then
    some ((-1001), σ)
  else
    ((fX9_in σ a2 0 7).bind fun v3 =>
    (if v3 = 0 then
      some ((-1001), σ)
    else
      ((fX9_in σ a3 0 3).bind fun v5 =>
      (if v5 = 0 then
        some ((-1001), σ)
      else
        ((fX9_in σ a4 0 1).bind fun v7 =>
        (if v7 = 0 then
          some ((-1001), σ)
        else
          (if a4 = 0 then
            ((fX9_profileOf σ t a1 a2 a3).bind fun pv10 => gl pv10.1 fun v10 => gl pv10.2 fun σ11 =>
            some (v10, σ11))
          else
            ((fX9_lineOf σ t a1 a2 a3).bind fun pv12 => gl pv12.1 fun v12 => gl pv12.2 fun σ13 =>
            some (v12, σ13)))))))))))
set_option maxHeartbeats 4000000 in
set_option maxRecDepth 100000 in
theorem mX9_edge (l : Launch) (X : gX) (σ σ' : gM) (t : Nat) (a1 : Int32) (a2 : Int32) (a3 : Int32) (a4 : Int32) (r : Int32) (ok : gok9 X t) (h : fX9_edge σ t a1 a2 a3 a4 = some (r, σ')) : Met l yX9_edge (Cond.code yX9_edge cX9_edge 5 (some .int) :: gBig) ({ frames := 3, cells := 0, slots := 0, locals := 69 }) (gPc X σ [.ref (xN X + t), .int a1, .int a2, .int a3, .int a4]) (gQi X σ' r) 0 0 (xA X) := by
  refine g_meti (cc := cX9_edge) (maxL := 5) (own := RX9) (by decide) rfl rfl (Nat.le_of_ble_eq_true rfl) ?_
  intro p ev s m args below meth c Q C G ret ls hl
  obtain ⟨⟨hx, hb, hml, hown, hts⟩, hK⟩ := id C
  have hl : lv_has ls 5 [(0, .ref (xN X + t)), (1, .int a1), (2, .int a2), (3, .int a3), (4, .int a4)] := hl
  unfold fX9_edge at h
  refine lv_aload_n hx hb dX9_edge_0 rfl (lv_at hl 0 rfl) ?_
  refine lv_iload_n hx hb dX9_edge_1 rfl (lv_at hl 1 rfl) ?_
  obtain ⟨v1, e_v1, h⟩ := g_bind h
  refine g_calli (g_runV (n := 1) (As := [.int a1]) (rest := []) C G (mX9_isScrap l X σ t a1 v1 ok e_v1) ok.1.2 (gE_9 ok.1.1) rfl (g_goodV u_ml_RX9_86 u_im_yX9_isScrap u_se_yX9_isScrap u_in_RX9 u_co_yX9_isScrap) rfl rfl rfl (by decide +kernel) ⟨Nat.le_of_ble_eq_true rfl, Nat.le_of_ble_eq_true rfl⟩ rfl hl.1 rfl (Nat.le_of_ble_eq_true rfl) dX9_edge_2 ⟨Nat.zero_le _, Nat.zero_le _⟩) G (fun H locs G => ?_)
  refine lv_if_eq (tgt := 37) hx hb dX9_edge_5 (by decide) (fun c2 => ?_) (fun c2 => ?_)
  · have h := g_it h c2
    refine lv_sipush (v := (-1001)) hx hb dX9_edge_37 (by decide) ?_
    exact ret dX9_edge_40 rfl G (Prod.mk.inj (Option.some.inj h))
  · have h := g_if h c2
    refine lv_iload_n hx hb dX9_edge_8 rfl (lv_at hl 2 rfl) ?_
    refine lv_iconst (v := 0) hx hb dX9_edge_9 (by decide) ?_
    refine lv_bipush (v := 7) hx hb dX9_edge_10 (by decide) ?_
    obtain ⟨v3, e_v3, h⟩ := g_bind h
    refine g_calli (g_runS (n := 3) (As := [.int a2, .int 0, .int 7]) (rest := []) C G (mX9_in l X σ a2 0 7 v3 e_v3) (g_goodS u_ml_RX9_38 u_st_yX9_in u_in_RX9 u_co_yX9_in) rfl rfl rfl (by decide +kernel) ⟨Nat.le_of_ble_eq_true rfl, Nat.le_of_ble_eq_true rfl⟩ rfl hl.1 rfl (Nat.le_of_ble_eq_true rfl) dX9_edge_12 ⟨Nat.zero_le _, Nat.zero_le _⟩) G (fun H locs G => ?_)
    refine lv_if_eq (tgt := 37) hx hb dX9_edge_15 (by decide) (fun c4 => ?_) (fun c4 => ?_)
    · have h := g_it h c4
      refine lv_sipush (v := (-1001)) hx hb dX9_edge_37 (by decide) ?_
      exact ret dX9_edge_40 rfl G (Prod.mk.inj (Option.some.inj h))
    · have h := g_if h c4
      refine lv_iload_n hx hb dX9_edge_18 rfl (lv_at hl 3 rfl) ?_
      refine lv_iconst (v := 0) hx hb dX9_edge_19 (by decide) ?_
      refine lv_iconst (v := 3) hx hb dX9_edge_20 (by decide) ?_
      obtain ⟨v5, e_v5, h⟩ := g_bind h
      refine g_calli (g_runS (n := 3) (As := [.int a3, .int 0, .int 3]) (rest := []) C G (mX9_in l X σ a3 0 3 v5 e_v5) (g_goodS u_ml_RX9_38 u_st_yX9_in u_in_RX9 u_co_yX9_in) rfl rfl rfl (by decide +kernel) ⟨Nat.le_of_ble_eq_true rfl, Nat.le_of_ble_eq_true rfl⟩ rfl hl.1 rfl (Nat.le_of_ble_eq_true rfl) dX9_edge_21 ⟨Nat.zero_le _, Nat.zero_le _⟩) G (fun H locs G => ?_)
      refine lv_if_eq (tgt := 37) hx hb dX9_edge_24 (by decide) (fun c6 => ?_) (fun c6 => ?_)
      · have h := g_it h c6
        refine lv_sipush (v := (-1001)) hx hb dX9_edge_37 (by decide) ?_
        exact ret dX9_edge_40 rfl G (Prod.mk.inj (Option.some.inj h))
      · have h := g_if h c6
        refine lv_iload hx hb dX9_edge_27 (lv_at hl 4 rfl) ?_
        refine lv_iconst (v := 0) hx hb dX9_edge_29 (by decide) ?_
        refine lv_iconst (v := 1) hx hb dX9_edge_30 (by decide) ?_
        obtain ⟨v7, e_v7, h⟩ := g_bind h
        refine g_calli (g_runS (n := 3) (As := [.int a4, .int 0, .int 1]) (rest := []) C G (mX9_in l X σ a4 0 1 v7 e_v7) (g_goodS u_ml_RX9_38 u_st_yX9_in u_in_RX9 u_co_yX9_in) rfl rfl rfl (by decide +kernel) ⟨Nat.le_of_ble_eq_true rfl, Nat.le_of_ble_eq_true rfl⟩ rfl hl.1 rfl (Nat.le_of_ble_eq_true rfl) dX9_edge_31 ⟨Nat.zero_le _, Nat.zero_le _⟩) G (fun H locs G => ?_)
        refine lv_if_ne (tgt := 41) hx hb dX9_edge_34 (by decide) (fun c8 => ?_) (fun c8 => ?_)
        · have h := g_if h c8
          refine lv_iload hx hb dX9_edge_41 (lv_at hl 4 rfl) ?_
          refine lv_if_ne (tgt := 56) hx hb dX9_edge_43 (by decide) (fun c9 => ?_) (fun c9 => ?_)
          · have h := g_if h c9
            refine lv_aload_n hx hb dX9_edge_56 rfl (lv_at hl 0 rfl) ?_
            refine lv_iload_n hx hb dX9_edge_57 rfl (lv_at hl 1 rfl) ?_
            refine lv_iload_n hx hb dX9_edge_58 rfl (lv_at hl 2 rfl) ?_
            refine lv_iload_n hx hb dX9_edge_59 rfl (lv_at hl 3 rfl) ?_
            obtain ⟨⟨v12, σ13⟩, e_v12, h⟩ := g_bind h
            have h := g_let2 (v := v12) rfl h
            have h := g_let2 (v := σ13) rfl h
            refine g_calli (g_runV (n := 3) (As := [.int a1, .int a2, .int a3]) (rest := []) C G (mX9_lineOf l X σ σ13 t a1 a2 a3 v12 ok e_v12) ok.1.2 (gE_9 ok.1.1) rfl (g_goodV u_ml_RX9_96 u_im_yX9_lineOf u_se_yX9_lineOf u_in_RX9 u_co_yX9_lineOf) rfl rfl rfl (by decide +kernel) ⟨Nat.le_of_ble_eq_true rfl, Nat.le_of_ble_eq_true rfl⟩ rfl hl.1 rfl (Nat.le_of_ble_eq_true rfl) dX9_edge_60 ⟨Nat.zero_le _, Nat.zero_le _⟩) G (fun H locs G => ?_)
            exact ret dX9_edge_63 rfl G (Prod.mk.inj (Option.some.inj h))
          · have h := g_it h c9
            refine lv_aload_n hx hb dX9_edge_46 rfl (lv_at hl 0 rfl) ?_
            refine lv_iload_n hx hb dX9_edge_47 rfl (lv_at hl 1 rfl) ?_
            refine lv_iload_n hx hb dX9_edge_48 rfl (lv_at hl 2 rfl) ?_
            refine lv_iload_n hx hb dX9_edge_49 rfl (lv_at hl 3 rfl) ?_
            obtain ⟨⟨v10, σ11⟩, e_v10, h⟩ := g_bind h
            have h := g_let2 (v := v10) rfl h
            have h := g_let2 (v := σ11) rfl h
            refine g_calli (g_runV (n := 3) (As := [.int a1, .int a2, .int a3]) (rest := []) C G (mX9_profileOf l X σ σ11 t a1 a2 a3 v10 ok e_v10) ok.1.2 (gE_9 ok.1.1) rfl (g_goodV u_ml_RX9_58 u_im_yX9_profileOf u_se_yX9_profileOf u_in_RX9 u_co_yX9_profileOf) rfl rfl rfl (by decide +kernel) ⟨Nat.le_of_ble_eq_true rfl, Nat.le_of_ble_eq_true rfl⟩ rfl hl.1 rfl (Nat.le_of_ble_eq_true rfl) dX9_edge_50 ⟨Nat.zero_le _, Nat.zero_le _⟩) G (fun H locs G => ?_)
            refine lv_goto (tgt := 63) hx hb dX9_edge_53 (by decide) ?_
            exact ret dX9_edge_63 rfl G (Prod.mk.inj (Option.some.inj h))
        · have h := g_it h c8
          refine lv_sipush (v := (-1001)) hx hb dX9_edge_37 (by decide) ?_
          exact ret dX9_edge_40 rfl G (Prod.mk.inj (Option.some.inj h))

def fX9_undo_23 (t : Nat) : Nat → gM → Int32 → Option (Int32 × gM)
  | 0, _, _ => none
  | n + 1, σ, x1 =>
    (if 135 ≤ x1 then
      some ((σ t 2), σ)
    else
      (if ¬ (((135 * (σ t 2)) + x1) < 0 ∨ gln (t + 2) ≤ ((135 * (σ t 2)) + x1).toNatClampNeg) then
      (if ¬ (x1 < 0 ∨ gln (t + 1) ≤ x1.toNatClampNeg) then
      (gl (gset σ (t + 1) (upd (σ (t + 1)) x1.toNatClampNeg (σ (t + 2) ((135 * (σ t 2)) + x1).toNatClampNeg))) fun σ6 =>
      (gl (x1 + 1) fun w7 =>
      fX9_undo_23 t n σ6 w7))
      else none)
      else none))

def fX9_undo (σ : gM) (t : Nat) : Option (Int32 × gM) :=
  (if (σ t 2) = 0 then
    some ((-1002), σ)
  else
    (gl (gset σ t (upd (σ t) 2 ((σ t 2) - 1))) fun σ2 =>
    fX9_undo_23 t gF σ2 0))
set_option maxHeartbeats 4000000 in
set_option maxRecDepth 100000 in
theorem mX9_undo (l : Launch) (X : gX) (σ σ' : gM) (t : Nat) (r : Int32) (ok : gok9 X t) (h : fX9_undo σ t = some (r, σ')) : Met l yX9_undo (Cond.code yX9_undo cX9_undo 2 (some .int) :: gBig) ({ frames := 0, cells := 0, slots := 0, locals := 0 }) (gPc X σ [.ref (xN X + t)]) (gQi X σ' r) 0 0 (xA X) := by
  refine g_meti (cc := cX9_undo) (maxL := 2) (own := RX9) (by decide) rfl rfl (Nat.le_of_ble_eq_true rfl) ?_
  intro p ev s m args below meth c Q C G ret ls hl
  obtain ⟨⟨hx, hb, hml, hown, hts⟩, hK⟩ := id C
  have hl : lv_has ls 2 [(0, .ref (xN X + t))] := hl
  have L23 : ∀ (n : Nat) (H : Heap) (locs : List Loc) (ls : Array Slot) (σ : gM) (x1 : Int32), gG X σ s H locs → lv_has ls 2 [(0, .ref (xN X + t)), (1, .int x1)] → fX9_undo_23 t n σ x1 = some (r, σ') → W p l ev ({ frames := 0, cells := 0, slots := 0, locals := 0 }) s m args below meth c H locs 0 0 Q (F0 m 23 ls []) := by
    intro n
    induction n with
    | zero =>
      intro H locs ls σ x1 G hl h
      rw [fX9_undo_23] at h
      cases h
    | succ n ih =>
      intro H locs ls σ x1 G hl h
      rw [fX9_undo_23] at h
      refine lv_iload_n hx hb dX9_undo_23 rfl (lv_at hl 1 rfl) ?_
      refine lv_sipush (v := 135) hx hb dX9_undo_24 (by decide) ?_
      refine lv_icmp_ge (tgt := 57) hx hb dX9_undo_27 (by decide) (fun c3 => ?_) (fun c3 => ?_)
      · have h := g_it h c3
        refine lv_aload_n hx hb dX9_undo_57 rfl (lv_at hl 0 rfl) ?_
        refine gg9_2 C G ok.1 u_fl_RX9_46 dX9_undo_58 ?_
        exact ret dX9_undo_61 rfl G (Prod.mk.inj (Option.some.inj h))
      · have h := g_if h c3
        refine lv_aload_n hx hb dX9_undo_30 rfl (lv_at hl 0 rfl) ?_
        refine gg9_0 C G ok.1 ok.2.1.1 u_fl_RX9_7 dX9_undo_31 ?_
        refine lv_iload_n hx hb dX9_undo_34 rfl (lv_at hl 1 rfl) ?_
        refine lv_aload_n hx hb dX9_undo_35 rfl (lv_at hl 0 rfl) ?_
        refine gg9_1 C G ok.1 ok.2.1.2.1 u_fl_RX9_13 dX9_undo_36 ?_
        refine lv_sipush (v := 135) hx hb dX9_undo_39 (by decide) ?_
        refine lv_aload_n hx hb dX9_undo_42 rfl (lv_at hl 0 rfl) ?_
        refine gg9_2 C G ok.1 u_fl_RX9_46 dX9_undo_43 ?_
        refine lv_imul hx hb dX9_undo_46 ?_
        refine lv_iload_n hx hb dX9_undo_47 rfl (lv_at hl 1 rfl) ?_
        refine lv_iadd hx hb dX9_undo_48 ?_
        obtain ⟨c4, h⟩ := g_chk h
        refine g_iald C G ok.2.2.2.1 c4 dX9_undo_49 ?_
        obtain ⟨c5, h⟩ := g_chk h
        obtain ⟨σ6, e_σ6, h⟩ := g_let h
        refine g_iast C G ok.2.2.1 c5 dX9_undo_50 (fun H locs G => ?_)
        rw [e_σ6] at G
        obtain ⟨w7, e_w7⟩ : ∃ y : Int32, y = x1 + 1 := ⟨_, rfl⟩
        have h := g_let2 e_w7 h
        refine lv_iinc (v := w7) (lv' := [(1, .int w7), (0, .ref (xN X + t))]) hx hb dX9_undo_51 hl (k := 1) rfl (by rw [e_w7]; rfl) (by decide) rfl (fun ls hl => ?_)
        refine lv_goto (tgt := 23) hx hb dX9_undo_54 (by decide) ?_
        exact ih _ _ _ σ6 w7 G (lv_sub hl [1, 0] rfl) h
  unfold fX9_undo at h
  refine lv_aload_n hx hb dX9_undo_0 rfl (lv_at hl 0 rfl) ?_
  refine gg9_2 C G ok.1 u_fl_RX9_46 dX9_undo_1 ?_
  refine lv_if_ne (tgt := 11) hx hb dX9_undo_4 (by decide) (fun c1 => ?_) (fun c1 => ?_)
  · have h := g_if h c1
    refine lv_aload_n hx hb dX9_undo_11 rfl (lv_at hl 0 rfl) ?_
    refine lv_dup hx hb dX9_undo_12 rfl ?_
    refine gg9_2 C G ok.1 u_fl_RX9_46 dX9_undo_13 ?_
    refine lv_iconst (v := 1) hx hb dX9_undo_16 (by decide) ?_
    refine lv_isub hx hb dX9_undo_17 ?_
    obtain ⟨σ2, e_σ2, h⟩ := g_let h
    refine gp9_2 C G ok.1 u_fl_RX9_46 dX9_undo_18 (fun H locs G => ?_)
    rw [e_σ2] at G
    refine lv_iconst (v := 0) hx hb dX9_undo_21 (by decide) ?_
    refine lv_istore_n (lv' := [(1, .int 0), (0, .ref (xN X + t))]) hx hb dX9_undo_22 rfl hl (by decide) rfl (fun ls hl => ?_)
    exact L23  gF _ _ _ σ2 0 G (lv_sub hl [1, 0] rfl) h
  · have h := g_it h c1
    refine lv_sipush (v := (-1002)) hx hb dX9_undo_7 (by decide) ?_
    exact ret dX9_undo_10 rfl G (Prod.mk.inj (Option.some.inj h))

def fX9_count_61 (K30 : gM → Int32 → Int32 → Int32 → Int32 → Int32 → Int32 → Option (Int32 × gM)) (t : Nat) (a1 : Int32) : Nat → gM → Int32 → Int32 → Int32 → Int32 → Int32 → Int32 → Int32 → Option (Int32 × gM)
  | 0, _, _, _, _, _, _, _, _ => none
  | n + 1, σ, x2, x3, x4, x5, x6, x7, x8 =>
    (if 4 ≤ x8 then
      (gl (x7 + 1) fun w26 =>
      K30 σ x2 x3 x4 x5 x6 w26)
    else
      ((fX9_isOn σ t x7).bind fun v27 =>
      (if v27 = 0 then
        (gl (x7 + 1) fun w29 =>
        K30 σ x2 x3 x4 x5 x6 w29)
      else
        (if ¬ ((123 + x7) < 0 ∨ gln (t + 1) ≤ (123 + x7).toNatClampNeg) then
        (if ¬ ((111 + x7) < 0 ∨ gln (t + 1) ≤ (111 + x7).toNatClampNeg) then
        ((fX9_reasonOf σ t x7 (σ (t + 1) (123 + x7).toNatClampNeg) (σ (t + 1) (111 + x7).toNatClampNeg) x8).bind fun pv32 => gl pv32.1 fun v32 => gl pv32.2 fun σ33 =>
        (if ¬ ((123 + x7) < 0 ∨ gln (t + 1) ≤ (123 + x7).toNatClampNeg) then
        ((fX9_behind σ33 t (σ33 (t + 1) (123 + x7).toNatClampNeg) x8).bind fun v35 =>
        (if v35 = (-1) then
          (gl (x3 + 0) fun w39 =>
          (gl (x4 + 0) fun w41 =>
          (if v32 = 0 then
            (gl (x5 + 1) fun w44 =>
            (gl (x6 + 0) fun w47 =>
            (gl (x8 + 1) fun w48 =>
            fX9_count_61 K30 t a1 n σ33 x2 w39 w41 w44 w47 x7 w48)))
          else
            (gl (x5 + 0) fun w49 =>
            (gl (x6 + 1) fun w52 =>
            (gl (x8 + 1) fun w53 =>
            fX9_count_61 K30 t a1 n σ33 x2 w39 w41 w49 w52 x7 w53))))))
        else
          (if v32 = (-1) then
            (gl (x3 + 0) fun w57 =>
            (gl (x4 + 0) fun w59 =>
            (gl (x5 + 0) fun w61 =>
            (gl (x6 + 0) fun w63 =>
            (gl (x8 + 1) fun w64 =>
            fX9_count_61 K30 t a1 n σ33 x2 w57 w59 w61 w63 x7 w64)))))
          else
            (if x8 = 1 then
              (gl (x3 + 1) fun w67 =>
              (if v32 = 0 then
                (gl (x4 + 1) fun w70 =>
                (gl (x5 + 0) fun w72 =>
                (gl (x6 + 0) fun w74 =>
                (gl (x8 + 1) fun w75 =>
                fX9_count_61 K30 t a1 n σ33 x2 w67 w70 w72 w74 x7 w75))))
              else
                (gl (x4 + 0) fun w76 =>
                (gl (x5 + 0) fun w78 =>
                (gl (x6 + 0) fun w80 =>
                (gl (x8 + 1) fun w81 =>
                fX9_count_61 K30 t a1 n σ33 x2 w67 w76 w78 w80 x7 w81))))))
            else
              (if x8 = 2 then
                (gl (x3 + 1) fun w84 =>
                (if v32 = 0 then
                  (gl (x4 + 1) fun w87 =>
                  (gl (x5 + 0) fun w89 =>
                  (gl (x6 + 0) fun w91 =>
                  (gl (x8 + 1) fun w92 =>
                  fX9_count_61 K30 t a1 n σ33 x2 w84 w87 w89 w91 x7 w92))))
                else
                  (gl (x4 + 0) fun w93 =>
                  (gl (x5 + 0) fun w95 =>
                  (gl (x6 + 0) fun w97 =>
                  (gl (x8 + 1) fun w98 =>
                  fX9_count_61 K30 t a1 n σ33 x2 w84 w93 w95 w97 x7 w98))))))
              else
                (gl (x3 + 0) fun w100 =>
                (gl (x4 + 0) fun w102 =>
                (gl (x5 + 0) fun w104 =>
                (gl (x6 + 0) fun w106 =>
                (gl (x8 + 1) fun w107 =>
                fX9_count_61 K30 t a1 n σ33 x2 w100 w102 w104 w106 x7 w107))))))))))
        else none))
        else none)
        else none))))

def fX9_count_30 (t : Nat) (a1 : Int32) : Nat → gM → Int32 → Int32 → Int32 → Int32 → Int32 → Int32 → Option (Int32 × gM)
  | 0, _, _, _, _, _, _, _ => none
  | n + 1, σ, x2, x3, x4, x5, x6, x7 =>
    (if ¬ ((2 : Int32) < 0 ∨ gln (t + 1) ≤ (2 : Int32).toNatClampNeg) then
    (if (σ (t + 1) (2 : Int32).toNatClampNeg) ≤ x7 then
      (if a1 = 0 then
        (if ¬ ((2 : Int32) < 0 ∨ gln (t + 1) ≤ (2 : Int32).toNatClampNeg) then
        some ((σ (t + 1) (2 : Int32).toNatClampNeg), σ)
        else none)
      else if a1 = 1 then
        some (x2, σ)
      else if a1 = 2 then
        (if ¬ ((a1 - 2) < 0 ∨ gln (t + 1) ≤ (a1 - 2).toNatClampNeg) then
        some ((σ (t + 1) (a1 - 2).toNatClampNeg), σ)
        else none)
      else if a1 = 3 then
        (if ¬ ((a1 - 2) < 0 ∨ gln (t + 1) ≤ (a1 - 2).toNatClampNeg) then
        some ((σ (t + 1) (a1 - 2).toNatClampNeg), σ)
        else none)
      else if a1 = 4 then
        ((fX9_gathers σ t).bind fun σ14 =>
        some ((σ14 t 9), σ14))
      else if a1 = 5 then
        some (x3, σ)
      else if a1 = 6 then
        some (x4, σ)
      else if a1 = 7 then
        some (x5, σ)
      else if a1 = 8 then
        some (x6, σ)
      else if a1 = 9 then
        ((fX9_places σ t).bind fun v20 =>
        some ((v20 - x2), σ))
      else if a1 = 10 then
        some ((σ t 2), σ)
      else 
        some ((σ t 4), σ))
    else
      ((fX9_isOn σ t x7).bind fun v22 =>
      (if v22 = 0 then
        (gl (x2 + 0) fun w24 =>
        fX9_count_61 (fun σ2 y2 y3 y4 y5 y6 y7 => fX9_count_30 t a1 n σ2 y2 y3 y4 y5 y6 y7) t a1 gF σ w24 x3 x4 x5 x6 x7 0)
      else
        (gl (x2 + 1) fun w108 =>
        fX9_count_61 (fun σ2 y2 y3 y4 y5 y6 y7 => fX9_count_30 t a1 n σ2 y2 y3 y4 y5 y6 y7) t a1 gF σ w108 x3 x4 x5 x6 x7 0))))
    else none)

def fX9_count (σ : gM) (t : Nat) (a1 : Int32) : Option (Int32 × gM) :=
  ((fX9_in σ a1 0 11).bind fun v1 =>
  (if v1 = 0 then
    some ((-1001), σ)
  else
    fX9_count_30 t a1 gF σ 0 0 0 0 0 0))
set_option maxHeartbeats 4000000 in
set_option maxRecDepth 100000 in
theorem mX9_count (l : Launch) (X : gX) (σ σ' : gM) (t : Nat) (a1 : Int32) (r : Int32) (ok : gok9 X t) (h : fX9_count σ t a1 = some (r, σ')) : Met l yX9_count (Cond.code yX9_count cX9_count 12 (some .int) :: gBig) ({ frames := 6, cells := 0, slots := 0, locals := 145 }) (gPc X σ [.ref (xN X + t), .int a1]) (gQi X σ' r) 0 0 (xA X) := by
  refine g_meti (cc := cX9_count) (maxL := 12) (own := RX9) (by decide) rfl rfl (Nat.le_of_ble_eq_true rfl) ?_
  intro p ev s m args below meth c Q C G ret ls hl
  obtain ⟨⟨hx, hb, hml, hown, hts⟩, hK⟩ := id C
  have hl : lv_has ls 12 [(0, .ref (xN X + t)), (1, .int a1)] := hl
  have L61 : ∀ (K30 : gM → Int32 → Int32 → Int32 → Int32 → Int32 → Int32 → Option (Int32 × gM)), (∀ (H : Heap) (locs : List Loc) (ls : Array Slot) (σ : gM) (x2 : Int32) (x3 : Int32) (x4 : Int32) (x5 : Int32) (x6 : Int32) (x7 : Int32), gG X σ s H locs → lv_has ls 12 [(0, .ref (xN X + t)), (1, .int a1), (2, .int x2), (3, .int x3), (4, .int x4), (5, .int x5), (6, .int x6), (7, .int x7)] → K30 σ x2 x3 x4 x5 x6 x7 = some (r, σ') → W p l ev ({ frames := 6, cells := 0, slots := 0, locals := 145 }) s m args below meth c H locs 0 0 Q (F0 m 30 ls [])) → ∀ (n : Nat) (H : Heap) (locs : List Loc) (ls : Array Slot) (σ : gM) (x2 : Int32) (x3 : Int32) (x4 : Int32) (x5 : Int32) (x6 : Int32) (x7 : Int32) (x8 : Int32), gG X σ s H locs → lv_has ls 12 [(0, .ref (xN X + t)), (1, .int a1), (2, .int x2), (3, .int x3), (4, .int x4), (5, .int x5), (6, .int x6), (7, .int x7), (8, .int x8)] → fX9_count_61 K30 t a1 n σ x2 x3 x4 x5 x6 x7 x8 = some (r, σ') → W p l ev ({ frames := 6, cells := 0, slots := 0, locals := 145 }) s m args below meth c H locs 0 0 Q (F0 m 61 ls []) := by
    intro K30 hK30 n
    induction n with
    | zero =>
      intro H locs ls σ x2 x3 x4 x5 x6 x7 x8 G hl h
      rw [fX9_count_61] at h
      cases h
    | succ n ih =>
      intro H locs ls σ x2 x3 x4 x5 x6 x7 x8 G hl h
      rw [fX9_count_61] at h
      refine lv_iload hx hb dX9_count_61 (lv_at hl 8 rfl) ?_
      refine lv_iconst (v := 4) hx hb dX9_count_63 (by decide) ?_
      refine lv_icmp_ge (tgt := 242) hx hb dX9_count_64 (by decide) (fun c25 => ?_) (fun c25 => ?_)
      · have h := g_it h c25
        obtain ⟨w26, e_w26⟩ : ∃ y : Int32, y = x7 + 1 := ⟨_, rfl⟩
        have h := g_let2 e_w26 h
        refine lv_iinc (v := w26) (lv' := [(7, .int w26), (0, .ref (xN X + t)), (1, .int a1), (2, .int x2), (3, .int x3), (4, .int x4), (5, .int x5), (6, .int x6), (8, .int x8)]) hx hb dX9_count_242 hl (k := 7) rfl (by rw [e_w26]; rfl) (by decide) rfl (fun ls hl => ?_)
        refine lv_goto (tgt := 30) hx hb dX9_count_245 (by decide) ?_
        exact hK30 _ _ _ σ x2 x3 x4 x5 x6 w26 G (lv_sub hl [1, 2, 3, 4, 5, 6, 7, 0] rfl) h
      · have h := g_if h c25
        refine lv_aload_n hx hb dX9_count_67 rfl (lv_at hl 0 rfl) ?_
        refine lv_iload hx hb dX9_count_68 (lv_at hl 7 rfl) ?_
        obtain ⟨v27, e_v27, h⟩ := g_bind h
        refine g_calli (g_runV (n := 1) (As := [.int x7]) (rest := []) C G (mX9_isOn l X σ t x7 v27 ok e_v27) ok.1.2 (gE_9 ok.1.1) rfl (g_goodV u_ml_RX9_76 u_im_yX9_isOn u_se_yX9_isOn u_in_RX9 u_co_yX9_isOn) rfl rfl rfl (by decide +kernel) ⟨Nat.le_of_ble_eq_true rfl, Nat.le_of_ble_eq_true rfl⟩ rfl hl.1 rfl (Nat.le_of_ble_eq_true rfl) dX9_count_70 ⟨Nat.zero_le _, Nat.zero_le _⟩) G (fun H locs G => ?_)
        refine lv_if_eq (tgt := 242) hx hb dX9_count_73 (by decide) (fun c28 => ?_) (fun c28 => ?_)
        · have h := g_it h c28
          obtain ⟨w29, e_w29⟩ : ∃ y : Int32, y = x7 + 1 := ⟨_, rfl⟩
          have h := g_let2 e_w29 h
          refine lv_iinc (v := w29) (lv' := [(7, .int w29), (0, .ref (xN X + t)), (1, .int a1), (2, .int x2), (3, .int x3), (4, .int x4), (5, .int x5), (6, .int x6), (8, .int x8)]) hx hb dX9_count_242 hl (k := 7) rfl (by rw [e_w29]; rfl) (by decide) rfl (fun ls hl => ?_)
          refine lv_goto (tgt := 30) hx hb dX9_count_245 (by decide) ?_
          exact hK30 _ _ _ σ x2 x3 x4 x5 x6 w29 G (lv_sub hl [1, 2, 3, 4, 5, 6, 7, 0] rfl) h
        · have h := g_if h c28
          refine lv_aload_n hx hb dX9_count_76 rfl (lv_at hl 0 rfl) ?_
          refine lv_iload hx hb dX9_count_77 (lv_at hl 7 rfl) ?_
          refine lv_aload_n hx hb dX9_count_79 rfl (lv_at hl 0 rfl) ?_
          refine gg9_0 C G ok.1 ok.2.1.1 u_fl_RX9_7 dX9_count_80 ?_
          refine lv_bipush (v := 123) hx hb dX9_count_83 (by decide) ?_
          refine lv_iload hx hb dX9_count_85 (lv_at hl 7 rfl) ?_
          refine lv_iadd hx hb dX9_count_87 ?_
          obtain ⟨c30, h⟩ := g_chk h
          refine g_iald C G ok.2.2.1 c30 dX9_count_88 ?_
          refine lv_aload_n hx hb dX9_count_89 rfl (lv_at hl 0 rfl) ?_
          refine gg9_0 C G ok.1 ok.2.1.1 u_fl_RX9_7 dX9_count_90 ?_
          refine lv_bipush (v := 111) hx hb dX9_count_93 (by decide) ?_
          refine lv_iload hx hb dX9_count_95 (lv_at hl 7 rfl) ?_
          refine lv_iadd hx hb dX9_count_97 ?_
          obtain ⟨c31, h⟩ := g_chk h
          refine g_iald C G ok.2.2.1 c31 dX9_count_98 ?_
          refine lv_iload hx hb dX9_count_99 (lv_at hl 8 rfl) ?_
          obtain ⟨⟨v32, σ33⟩, e_v32, h⟩ := g_bind h
          have h := g_let2 (v := v32) rfl h
          have h := g_let2 (v := σ33) rfl h
          refine g_calli (g_runV (n := 4) (As := [.int x7, .int (σ (t + 1) (123 + x7).toNatClampNeg), .int (σ (t + 1) (111 + x7).toNatClampNeg), .int x8]) (rest := []) C G (mX9_reasonOf l X σ σ33 t x7 (σ (t + 1) (123 + x7).toNatClampNeg) (σ (t + 1) (111 + x7).toNatClampNeg) x8 v32 ok e_v32) ok.1.2 (gE_9 ok.1.1) rfl (g_goodV u_ml_RX9_69 u_im_yX9_reasonOf u_se_yX9_reasonOf u_in_RX9 u_co_yX9_reasonOf) rfl rfl rfl (by decide +kernel) ⟨Nat.le_of_ble_eq_true rfl, Nat.le_of_ble_eq_true rfl⟩ rfl hl.1 rfl (Nat.le_of_ble_eq_true rfl) dX9_count_101 ⟨Nat.zero_le _, Nat.zero_le _⟩) G (fun H locs G => ?_)
          refine lv_istore (lv' := [(9, .int v32), (0, .ref (xN X + t)), (1, .int a1), (2, .int x2), (3, .int x3), (4, .int x4), (5, .int x5), (6, .int x6), (7, .int x7), (8, .int x8)]) hx hb dX9_count_104 hl (by decide) rfl (fun ls hl => ?_)
          refine lv_aload_n hx hb dX9_count_106 rfl (lv_at hl 1 rfl) ?_
          refine lv_aload_n hx hb dX9_count_107 rfl (lv_at hl 1 rfl) ?_
          refine gg9_0 C G ok.1 ok.2.1.1 u_fl_RX9_7 dX9_count_108 ?_
          refine lv_bipush (v := 123) hx hb dX9_count_111 (by decide) ?_
          refine lv_iload hx hb dX9_count_113 (lv_at hl 8 rfl) ?_
          refine lv_iadd hx hb dX9_count_115 ?_
          obtain ⟨c34, h⟩ := g_chk h
          refine g_iald C G ok.2.2.1 c34 dX9_count_116 ?_
          refine lv_iload hx hb dX9_count_117 (lv_at hl 9 rfl) ?_
          obtain ⟨v35, e_v35, h⟩ := g_bind h
          refine g_calli (g_runV (n := 2) (As := [.int (σ33 (t + 1) (123 + x7).toNatClampNeg), .int x8]) (rest := []) C G (mX9_behind l X σ33 t (σ33 (t + 1) (123 + x7).toNatClampNeg) x8 v35 ok e_v35) ok.1.2 (gE_9 ok.1.1) rfl (g_goodV u_ml_RX9_62 u_im_yX9_behind u_se_yX9_behind u_in_RX9 u_co_yX9_behind) rfl rfl rfl (by decide +kernel) ⟨Nat.le_of_ble_eq_true rfl, Nat.le_of_ble_eq_true rfl⟩ rfl hl.1 rfl (Nat.le_of_ble_eq_true rfl) dX9_count_119 ⟨Nat.zero_le _, Nat.zero_le _⟩) G (fun H locs G => ?_)
          refine lv_iconst (v := (-1)) hx hb dX9_count_122 (by decide) ?_
          refine lv_icmp_ne (tgt := 130) hx hb dX9_count_123 (by decide) (fun c36 => ?_) (fun c36 => ?_)
          · have h := g_if h c36
            refine lv_iconst (v := 0) hx hb dX9_count_130 (by decide) ?_
            refine lv_istore (lv' := [(10, .int 0), (9, .int v32), (0, .ref (xN X + t)), (1, .int a1), (2, .int x2), (3, .int x3), (4, .int x4), (5, .int x5), (6, .int x6), (7, .int x7), (8, .int x8)]) hx hb dX9_count_131 hl (by decide) rfl (fun ls hl => ?_)
            refine lv_iload hx hb dX9_count_133 (lv_at hl 0 rfl) ?_
            refine lv_if_ne (tgt := 160) hx hb dX9_count_135 (by decide) (fun c54 => absurd c54 (by decide)) (fun _ => ?_)
            refine lv_iload hx hb dX9_count_138 (lv_at hl 1 rfl) ?_
            refine lv_iconst (v := (-1)) hx hb dX9_count_140 (by decide) ?_
            refine lv_icmp_eq (tgt := 160) hx hb dX9_count_141 (by decide) (fun c55 => ?_) (fun c55 => ?_)
            · have h := g_it h c55
              refine lv_iconst (v := 0) hx hb dX9_count_160 (by decide) ?_
              refine lv_istore (lv' := [(11, .int 0), (10, .int 0), (9, .int v32), (0, .ref (xN X + t)), (1, .int a1), (2, .int x2), (3, .int x3), (4, .int x4), (5, .int x5), (6, .int x6), (7, .int x7), (8, .int x8)]) hx hb dX9_count_161 hl (by decide) rfl (fun ls hl => ?_)
              refine lv_iload_n hx hb dX9_count_163 rfl (lv_at hl 6 rfl) ?_
              refine lv_iload hx hb dX9_count_164 (lv_at hl 0 rfl) ?_
              refine lv_if_eq (tgt := 173) hx hb dX9_count_166 (by decide) (fun _ => ?_) (fun c56 => absurd c56 (by decide))
              refine lv_iconst (v := 0) hx hb dX9_count_173 (by decide) ?_
              refine lv_iadd hx hb dX9_count_174 ?_
              refine lv_topi (fun w57 e_w57 => ?_)
              have h := g_let2 e_w57 h
              refine lv_istore_n (lv' := [(3, .int w57), (11, .int 0), (10, .int 0), (9, .int v32), (0, .ref (xN X + t)), (1, .int a1), (2, .int x2), (4, .int x4), (5, .int x5), (6, .int x6), (7, .int x7), (8, .int x8)]) hx hb dX9_count_175 rfl hl (by decide) rfl (fun ls hl => ?_)
              refine lv_iload hx hb dX9_count_176 (lv_at hl 7 rfl) ?_
              refine lv_iload hx hb dX9_count_178 (lv_at hl 1 rfl) ?_
              refine lv_if_eq (tgt := 192) hx hb dX9_count_180 (by decide) (fun _ => ?_) (fun c58 => absurd c58 (by decide))
              refine lv_iconst (v := 0) hx hb dX9_count_192 (by decide) ?_
              refine lv_iadd hx hb dX9_count_193 ?_
              refine lv_topi (fun w59 e_w59 => ?_)
              have h := g_let2 e_w59 h
              refine lv_istore (lv' := [(4, .int w59), (3, .int w57), (11, .int 0), (10, .int 0), (9, .int v32), (0, .ref (xN X + t)), (1, .int a1), (2, .int x2), (5, .int x5), (6, .int x6), (7, .int x7), (8, .int x8)]) hx hb dX9_count_194 hl (by decide) rfl (fun ls hl => ?_)
              refine lv_iload hx hb dX9_count_196 (lv_at hl 8 rfl) ?_
              refine lv_iload hx hb dX9_count_198 (lv_at hl 3 rfl) ?_
              refine lv_if_eq (tgt := 212) hx hb dX9_count_200 (by decide) (fun _ => ?_) (fun c60 => absurd c60 (by decide))
              refine lv_iconst (v := 0) hx hb dX9_count_212 (by decide) ?_
              refine lv_iadd hx hb dX9_count_213 ?_
              refine lv_topi (fun w61 e_w61 => ?_)
              have h := g_let2 e_w61 h
              refine lv_istore (lv' := [(5, .int w61), (4, .int w59), (3, .int w57), (11, .int 0), (10, .int 0), (9, .int v32), (0, .ref (xN X + t)), (1, .int a1), (2, .int x2), (6, .int x6), (7, .int x7), (8, .int x8)]) hx hb dX9_count_214 hl (by decide) rfl (fun ls hl => ?_)
              refine lv_iload hx hb dX9_count_216 (lv_at hl 9 rfl) ?_
              refine lv_iload hx hb dX9_count_218 (lv_at hl 4 rfl) ?_
              refine lv_if_eq (tgt := 232) hx hb dX9_count_220 (by decide) (fun _ => ?_) (fun c62 => absurd c62 (by decide))
              refine lv_iconst (v := 0) hx hb dX9_count_232 (by decide) ?_
              refine lv_iadd hx hb dX9_count_233 ?_
              refine lv_topi (fun w63 e_w63 => ?_)
              have h := g_let2 e_w63 h
              refine lv_istore (lv' := [(6, .int w63), (5, .int w61), (4, .int w59), (3, .int w57), (11, .int 0), (10, .int 0), (9, .int v32), (0, .ref (xN X + t)), (1, .int a1), (2, .int x2), (7, .int x7), (8, .int x8)]) hx hb dX9_count_234 hl (by decide) rfl (fun ls hl => ?_)
              obtain ⟨w64, e_w64⟩ : ∃ y : Int32, y = x8 + 1 := ⟨_, rfl⟩
              have h := g_let2 e_w64 h
              refine lv_iinc (v := w64) (lv' := [(8, .int w64), (6, .int w63), (5, .int w61), (4, .int w59), (3, .int w57), (11, .int 0), (10, .int 0), (9, .int v32), (0, .ref (xN X + t)), (1, .int a1), (2, .int x2), (7, .int x7)]) hx hb dX9_count_236 hl (k := 11) rfl (by rw [e_w64]; rfl) (by decide) rfl (fun ls hl => ?_)
              refine lv_goto (tgt := 61) hx hb dX9_count_239 (by decide) ?_
              exact ih _ _ _ σ33 x2 w57 w59 w61 w63 x7 w64 G (lv_sub hl [8, 9, 10, 4, 3, 2, 1, 11, 0] rfl) h
            · have h := g_if h c55
              refine lv_iload hx hb dX9_count_144 (lv_at hl 10 rfl) ?_
              refine lv_iconst (v := 1) hx hb dX9_count_146 (by decide) ?_
              refine lv_icmp_eq (tgt := 156) hx hb dX9_count_147 (by decide) (fun c65 => ?_) (fun c65 => ?_)
              · have h := g_it h c65
                refine lv_iconst (v := 1) hx hb dX9_count_156 (by decide) ?_
                refine lv_goto (tgt := 161) hx hb dX9_count_157 (by decide) ?_
                refine lv_istore (lv' := [(11, .int 1), (10, .int 0), (9, .int v32), (0, .ref (xN X + t)), (1, .int a1), (2, .int x2), (3, .int x3), (4, .int x4), (5, .int x5), (6, .int x6), (7, .int x7), (8, .int x8)]) hx hb dX9_count_161 hl (by decide) rfl (fun ls hl => ?_)
                refine lv_iload_n hx hb dX9_count_163 rfl (lv_at hl 6 rfl) ?_
                refine lv_iload hx hb dX9_count_164 (lv_at hl 0 rfl) ?_
                refine lv_if_eq (tgt := 173) hx hb dX9_count_166 (by decide) (fun c66 => absurd c66 (by decide)) (fun _ => ?_)
                refine lv_iconst (v := 1) hx hb dX9_count_169 (by decide) ?_
                refine lv_goto (tgt := 174) hx hb dX9_count_170 (by decide) ?_
                refine lv_iadd hx hb dX9_count_174 ?_
                refine lv_topi (fun w67 e_w67 => ?_)
                have h := g_let2 e_w67 h
                refine lv_istore_n (lv' := [(3, .int w67), (11, .int 1), (10, .int 0), (9, .int v32), (0, .ref (xN X + t)), (1, .int a1), (2, .int x2), (4, .int x4), (5, .int x5), (6, .int x6), (7, .int x7), (8, .int x8)]) hx hb dX9_count_175 rfl hl (by decide) rfl (fun ls hl => ?_)
                refine lv_iload hx hb dX9_count_176 (lv_at hl 7 rfl) ?_
                refine lv_iload hx hb dX9_count_178 (lv_at hl 1 rfl) ?_
                refine lv_if_eq (tgt := 192) hx hb dX9_count_180 (by decide) (fun c68 => absurd c68 (by decide)) (fun _ => ?_)
                refine lv_iload hx hb dX9_count_183 (lv_at hl 3 rfl) ?_
                refine lv_if_ne (tgt := 192) hx hb dX9_count_185 (by decide) (fun c69 => ?_) (fun c69 => ?_)
                · have h := g_if h c69
                  refine lv_iconst (v := 0) hx hb dX9_count_192 (by decide) ?_
                  refine lv_iadd hx hb dX9_count_193 ?_
                  refine lv_topi (fun w76 e_w76 => ?_)
                  have h := g_let2 e_w76 h
                  refine lv_istore (lv' := [(4, .int w76), (3, .int w67), (11, .int 1), (10, .int 0), (9, .int v32), (0, .ref (xN X + t)), (1, .int a1), (2, .int x2), (5, .int x5), (6, .int x6), (7, .int x7), (8, .int x8)]) hx hb dX9_count_194 hl (by decide) rfl (fun ls hl => ?_)
                  refine lv_iload hx hb dX9_count_196 (lv_at hl 8 rfl) ?_
                  refine lv_iload hx hb dX9_count_198 (lv_at hl 3 rfl) ?_
                  refine lv_if_eq (tgt := 212) hx hb dX9_count_200 (by decide) (fun _ => ?_) (fun c77 => absurd c77 (by decide))
                  refine lv_iconst (v := 0) hx hb dX9_count_212 (by decide) ?_
                  refine lv_iadd hx hb dX9_count_213 ?_
                  refine lv_topi (fun w78 e_w78 => ?_)
                  have h := g_let2 e_w78 h
                  refine lv_istore (lv' := [(5, .int w78), (4, .int w76), (3, .int w67), (11, .int 1), (10, .int 0), (9, .int v32), (0, .ref (xN X + t)), (1, .int a1), (2, .int x2), (6, .int x6), (7, .int x7), (8, .int x8)]) hx hb dX9_count_214 hl (by decide) rfl (fun ls hl => ?_)
                  refine lv_iload hx hb dX9_count_216 (lv_at hl 9 rfl) ?_
                  refine lv_iload hx hb dX9_count_218 (lv_at hl 4 rfl) ?_
                  refine lv_if_eq (tgt := 232) hx hb dX9_count_220 (by decide) (fun _ => ?_) (fun c79 => absurd c79 (by decide))
                  refine lv_iconst (v := 0) hx hb dX9_count_232 (by decide) ?_
                  refine lv_iadd hx hb dX9_count_233 ?_
                  refine lv_topi (fun w80 e_w80 => ?_)
                  have h := g_let2 e_w80 h
                  refine lv_istore (lv' := [(6, .int w80), (5, .int w78), (4, .int w76), (3, .int w67), (11, .int 1), (10, .int 0), (9, .int v32), (0, .ref (xN X + t)), (1, .int a1), (2, .int x2), (7, .int x7), (8, .int x8)]) hx hb dX9_count_234 hl (by decide) rfl (fun ls hl => ?_)
                  obtain ⟨w81, e_w81⟩ : ∃ y : Int32, y = x8 + 1 := ⟨_, rfl⟩
                  have h := g_let2 e_w81 h
                  refine lv_iinc (v := w81) (lv' := [(8, .int w81), (6, .int w80), (5, .int w78), (4, .int w76), (3, .int w67), (11, .int 1), (10, .int 0), (9, .int v32), (0, .ref (xN X + t)), (1, .int a1), (2, .int x2), (7, .int x7)]) hx hb dX9_count_236 hl (k := 11) rfl (by rw [e_w81]; rfl) (by decide) rfl (fun ls hl => ?_)
                  refine lv_goto (tgt := 61) hx hb dX9_count_239 (by decide) ?_
                  exact ih _ _ _ σ33 x2 w67 w76 w78 w80 x7 w81 G (lv_sub hl [8, 9, 10, 4, 3, 2, 1, 11, 0] rfl) h
                · have h := g_it h c69
                  refine lv_iconst (v := 1) hx hb dX9_count_188 (by decide) ?_
                  refine lv_goto (tgt := 193) hx hb dX9_count_189 (by decide) ?_
                  refine lv_iadd hx hb dX9_count_193 ?_
                  refine lv_topi (fun w70 e_w70 => ?_)
                  have h := g_let2 e_w70 h
                  refine lv_istore (lv' := [(4, .int w70), (3, .int w67), (11, .int 1), (10, .int 0), (9, .int v32), (0, .ref (xN X + t)), (1, .int a1), (2, .int x2), (5, .int x5), (6, .int x6), (7, .int x7), (8, .int x8)]) hx hb dX9_count_194 hl (by decide) rfl (fun ls hl => ?_)
                  refine lv_iload hx hb dX9_count_196 (lv_at hl 8 rfl) ?_
                  refine lv_iload hx hb dX9_count_198 (lv_at hl 3 rfl) ?_
                  refine lv_if_eq (tgt := 212) hx hb dX9_count_200 (by decide) (fun _ => ?_) (fun c71 => absurd c71 (by decide))
                  refine lv_iconst (v := 0) hx hb dX9_count_212 (by decide) ?_
                  refine lv_iadd hx hb dX9_count_213 ?_
                  refine lv_topi (fun w72 e_w72 => ?_)
                  have h := g_let2 e_w72 h
                  refine lv_istore (lv' := [(5, .int w72), (4, .int w70), (3, .int w67), (11, .int 1), (10, .int 0), (9, .int v32), (0, .ref (xN X + t)), (1, .int a1), (2, .int x2), (6, .int x6), (7, .int x7), (8, .int x8)]) hx hb dX9_count_214 hl (by decide) rfl (fun ls hl => ?_)
                  refine lv_iload hx hb dX9_count_216 (lv_at hl 9 rfl) ?_
                  refine lv_iload hx hb dX9_count_218 (lv_at hl 4 rfl) ?_
                  refine lv_if_eq (tgt := 232) hx hb dX9_count_220 (by decide) (fun _ => ?_) (fun c73 => absurd c73 (by decide))
                  refine lv_iconst (v := 0) hx hb dX9_count_232 (by decide) ?_
                  refine lv_iadd hx hb dX9_count_233 ?_
                  refine lv_topi (fun w74 e_w74 => ?_)
                  have h := g_let2 e_w74 h
                  refine lv_istore (lv' := [(6, .int w74), (5, .int w72), (4, .int w70), (3, .int w67), (11, .int 1), (10, .int 0), (9, .int v32), (0, .ref (xN X + t)), (1, .int a1), (2, .int x2), (7, .int x7), (8, .int x8)]) hx hb dX9_count_234 hl (by decide) rfl (fun ls hl => ?_)
                  obtain ⟨w75, e_w75⟩ : ∃ y : Int32, y = x8 + 1 := ⟨_, rfl⟩
                  have h := g_let2 e_w75 h
                  refine lv_iinc (v := w75) (lv' := [(8, .int w75), (6, .int w74), (5, .int w72), (4, .int w70), (3, .int w67), (11, .int 1), (10, .int 0), (9, .int v32), (0, .ref (xN X + t)), (1, .int a1), (2, .int x2), (7, .int x7)]) hx hb dX9_count_236 hl (k := 11) rfl (by rw [e_w75]; rfl) (by decide) rfl (fun ls hl => ?_)
                  refine lv_goto (tgt := 61) hx hb dX9_count_239 (by decide) ?_
                  exact ih _ _ _ σ33 x2 w67 w70 w72 w74 x7 w75 G (lv_sub hl [8, 9, 10, 4, 3, 2, 1, 11, 0] rfl) h
              · have h := g_if h c65
                refine lv_iload hx hb dX9_count_150 (lv_at hl 10 rfl) ?_
                refine lv_iconst (v := 2) hx hb dX9_count_152 (by decide) ?_
                refine lv_icmp_ne (tgt := 160) hx hb dX9_count_153 (by decide) (fun c82 => ?_) (fun c82 => ?_)
                · have h := g_if h c82
                  refine lv_iconst (v := 0) hx hb dX9_count_160 (by decide) ?_
                  refine lv_istore (lv' := [(11, .int 0), (10, .int 0), (9, .int v32), (0, .ref (xN X + t)), (1, .int a1), (2, .int x2), (3, .int x3), (4, .int x4), (5, .int x5), (6, .int x6), (7, .int x7), (8, .int x8)]) hx hb dX9_count_161 hl (by decide) rfl (fun ls hl => ?_)
                  refine lv_iload_n hx hb dX9_count_163 rfl (lv_at hl 6 rfl) ?_
                  refine lv_iload hx hb dX9_count_164 (lv_at hl 0 rfl) ?_
                  refine lv_if_eq (tgt := 173) hx hb dX9_count_166 (by decide) (fun _ => ?_) (fun c99 => absurd c99 (by decide))
                  refine lv_iconst (v := 0) hx hb dX9_count_173 (by decide) ?_
                  refine lv_iadd hx hb dX9_count_174 ?_
                  refine lv_topi (fun w100 e_w100 => ?_)
                  have h := g_let2 e_w100 h
                  refine lv_istore_n (lv' := [(3, .int w100), (11, .int 0), (10, .int 0), (9, .int v32), (0, .ref (xN X + t)), (1, .int a1), (2, .int x2), (4, .int x4), (5, .int x5), (6, .int x6), (7, .int x7), (8, .int x8)]) hx hb dX9_count_175 rfl hl (by decide) rfl (fun ls hl => ?_)
                  refine lv_iload hx hb dX9_count_176 (lv_at hl 7 rfl) ?_
                  refine lv_iload hx hb dX9_count_178 (lv_at hl 1 rfl) ?_
                  refine lv_if_eq (tgt := 192) hx hb dX9_count_180 (by decide) (fun _ => ?_) (fun c101 => absurd c101 (by decide))
                  refine lv_iconst (v := 0) hx hb dX9_count_192 (by decide) ?_
                  refine lv_iadd hx hb dX9_count_193 ?_
                  refine lv_topi (fun w102 e_w102 => ?_)
                  have h := g_let2 e_w102 h
                  refine lv_istore (lv' := [(4, .int w102), (3, .int w100), (11, .int 0), (10, .int 0), (9, .int v32), (0, .ref (xN X + t)), (1, .int a1), (2, .int x2), (5, .int x5), (6, .int x6), (7, .int x7), (8, .int x8)]) hx hb dX9_count_194 hl (by decide) rfl (fun ls hl => ?_)
                  refine lv_iload hx hb dX9_count_196 (lv_at hl 8 rfl) ?_
                  refine lv_iload hx hb dX9_count_198 (lv_at hl 3 rfl) ?_
                  refine lv_if_eq (tgt := 212) hx hb dX9_count_200 (by decide) (fun _ => ?_) (fun c103 => absurd c103 (by decide))
                  refine lv_iconst (v := 0) hx hb dX9_count_212 (by decide) ?_
                  refine lv_iadd hx hb dX9_count_213 ?_
                  refine lv_topi (fun w104 e_w104 => ?_)
                  have h := g_let2 e_w104 h
                  refine lv_istore (lv' := [(5, .int w104), (4, .int w102), (3, .int w100), (11, .int 0), (10, .int 0), (9, .int v32), (0, .ref (xN X + t)), (1, .int a1), (2, .int x2), (6, .int x6), (7, .int x7), (8, .int x8)]) hx hb dX9_count_214 hl (by decide) rfl (fun ls hl => ?_)
                  refine lv_iload hx hb dX9_count_216 (lv_at hl 9 rfl) ?_
                  refine lv_iload hx hb dX9_count_218 (lv_at hl 4 rfl) ?_
                  refine lv_if_eq (tgt := 232) hx hb dX9_count_220 (by decide) (fun _ => ?_) (fun c105 => absurd c105 (by decide))
                  refine lv_iconst (v := 0) hx hb dX9_count_232 (by decide) ?_
                  refine lv_iadd hx hb dX9_count_233 ?_
                  refine lv_topi (fun w106 e_w106 => ?_)
                  have h := g_let2 e_w106 h
                  refine lv_istore (lv' := [(6, .int w106), (5, .int w104), (4, .int w102), (3, .int w100), (11, .int 0), (10, .int 0), (9, .int v32), (0, .ref (xN X + t)), (1, .int a1), (2, .int x2), (7, .int x7), (8, .int x8)]) hx hb dX9_count_234 hl (by decide) rfl (fun ls hl => ?_)
                  obtain ⟨w107, e_w107⟩ : ∃ y : Int32, y = x8 + 1 := ⟨_, rfl⟩
                  have h := g_let2 e_w107 h
                  refine lv_iinc (v := w107) (lv' := [(8, .int w107), (6, .int w106), (5, .int w104), (4, .int w102), (3, .int w100), (11, .int 0), (10, .int 0), (9, .int v32), (0, .ref (xN X + t)), (1, .int a1), (2, .int x2), (7, .int x7)]) hx hb dX9_count_236 hl (k := 11) rfl (by rw [e_w107]; rfl) (by decide) rfl (fun ls hl => ?_)
                  refine lv_goto (tgt := 61) hx hb dX9_count_239 (by decide) ?_
                  exact ih _ _ _ σ33 x2 w100 w102 w104 w106 x7 w107 G (lv_sub hl [8, 9, 10, 4, 3, 2, 1, 11, 0] rfl) h
                · have h := g_it h c82
                  refine lv_iconst (v := 1) hx hb dX9_count_156 (by decide) ?_
                  refine lv_goto (tgt := 161) hx hb dX9_count_157 (by decide) ?_
                  refine lv_istore (lv' := [(11, .int 1), (10, .int 0), (9, .int v32), (0, .ref (xN X + t)), (1, .int a1), (2, .int x2), (3, .int x3), (4, .int x4), (5, .int x5), (6, .int x6), (7, .int x7), (8, .int x8)]) hx hb dX9_count_161 hl (by decide) rfl (fun ls hl => ?_)
                  refine lv_iload_n hx hb dX9_count_163 rfl (lv_at hl 6 rfl) ?_
                  refine lv_iload hx hb dX9_count_164 (lv_at hl 0 rfl) ?_
                  refine lv_if_eq (tgt := 173) hx hb dX9_count_166 (by decide) (fun c83 => absurd c83 (by decide)) (fun _ => ?_)
                  refine lv_iconst (v := 1) hx hb dX9_count_169 (by decide) ?_
                  refine lv_goto (tgt := 174) hx hb dX9_count_170 (by decide) ?_
                  refine lv_iadd hx hb dX9_count_174 ?_
                  refine lv_topi (fun w84 e_w84 => ?_)
                  have h := g_let2 e_w84 h
                  refine lv_istore_n (lv' := [(3, .int w84), (11, .int 1), (10, .int 0), (9, .int v32), (0, .ref (xN X + t)), (1, .int a1), (2, .int x2), (4, .int x4), (5, .int x5), (6, .int x6), (7, .int x7), (8, .int x8)]) hx hb dX9_count_175 rfl hl (by decide) rfl (fun ls hl => ?_)
                  refine lv_iload hx hb dX9_count_176 (lv_at hl 7 rfl) ?_
                  refine lv_iload hx hb dX9_count_178 (lv_at hl 1 rfl) ?_
                  refine lv_if_eq (tgt := 192) hx hb dX9_count_180 (by decide) (fun c85 => absurd c85 (by decide)) (fun _ => ?_)
                  refine lv_iload hx hb dX9_count_183 (lv_at hl 3 rfl) ?_
                  refine lv_if_ne (tgt := 192) hx hb dX9_count_185 (by decide) (fun c86 => ?_) (fun c86 => ?_)
                  · have h := g_if h c86
                    refine lv_iconst (v := 0) hx hb dX9_count_192 (by decide) ?_
                    refine lv_iadd hx hb dX9_count_193 ?_
                    refine lv_topi (fun w93 e_w93 => ?_)
                    have h := g_let2 e_w93 h
                    refine lv_istore (lv' := [(4, .int w93), (3, .int w84), (11, .int 1), (10, .int 0), (9, .int v32), (0, .ref (xN X + t)), (1, .int a1), (2, .int x2), (5, .int x5), (6, .int x6), (7, .int x7), (8, .int x8)]) hx hb dX9_count_194 hl (by decide) rfl (fun ls hl => ?_)
                    refine lv_iload hx hb dX9_count_196 (lv_at hl 8 rfl) ?_
                    refine lv_iload hx hb dX9_count_198 (lv_at hl 3 rfl) ?_
                    refine lv_if_eq (tgt := 212) hx hb dX9_count_200 (by decide) (fun _ => ?_) (fun c94 => absurd c94 (by decide))
                    refine lv_iconst (v := 0) hx hb dX9_count_212 (by decide) ?_
                    refine lv_iadd hx hb dX9_count_213 ?_
                    refine lv_topi (fun w95 e_w95 => ?_)
                    have h := g_let2 e_w95 h
                    refine lv_istore (lv' := [(5, .int w95), (4, .int w93), (3, .int w84), (11, .int 1), (10, .int 0), (9, .int v32), (0, .ref (xN X + t)), (1, .int a1), (2, .int x2), (6, .int x6), (7, .int x7), (8, .int x8)]) hx hb dX9_count_214 hl (by decide) rfl (fun ls hl => ?_)
                    refine lv_iload hx hb dX9_count_216 (lv_at hl 9 rfl) ?_
                    refine lv_iload hx hb dX9_count_218 (lv_at hl 4 rfl) ?_
                    refine lv_if_eq (tgt := 232) hx hb dX9_count_220 (by decide) (fun _ => ?_) (fun c96 => absurd c96 (by decide))
                    refine lv_iconst (v := 0) hx hb dX9_count_232 (by decide) ?_
                    refine lv_iadd hx hb dX9_count_233 ?_
                    refine lv_topi (fun w97 e_w97 => ?_)
                    have h := g_let2 e_w97 h
                    refine lv_istore (lv' := [(6, .int w97), (5, .int w95), (4, .int w93), (3, .int w84), (11, .int 1), (10, .int 0), (9, .int v32), (0, .ref (xN X + t)), (1, .int a1), (2, .int x2), (7, .int x7), (8, .int x8)]) hx hb dX9_count_234 hl (by decide) rfl (fun ls hl => ?_)
                    obtain ⟨w98, e_w98⟩ : ∃ y : Int32, y = x8 + 1 := ⟨_, rfl⟩
                    have h := g_let2 e_w98 h
                    refine lv_iinc (v := w98) (lv' := [(8, .int w98), (6, .int w97), (5, .int w95), (4, .int w93), (3, .int w84), (11, .int 1), (10, .int 0), (9, .int v32), (0, .ref (xN X + t)), (1, .int a1), (2, .int x2), (7, .int x7)]) hx hb dX9_count_236 hl (k := 11) rfl (by rw [e_w98]; rfl) (by decide) rfl (fun ls hl => ?_)
                    refine lv_goto (tgt := 61) hx hb dX9_count_239 (by decide) ?_
                    exact ih _ _ _ σ33 x2 w84 w93 w95 w97 x7 w98 G (lv_sub hl [8, 9, 10, 4, 3, 2, 1, 11, 0] rfl) h
                  · have h := g_it h c86
                    refine lv_iconst (v := 1) hx hb dX9_count_188 (by decide) ?_
                    refine lv_goto (tgt := 193) hx hb dX9_count_189 (by decide) ?_
                    refine lv_iadd hx hb dX9_count_193 ?_
                    refine lv_topi (fun w87 e_w87 => ?_)
                    have h := g_let2 e_w87 h
                    refine lv_istore (lv' := [(4, .int w87), (3, .int w84), (11, .int 1), (10, .int 0), (9, .int v32), (0, .ref (xN X + t)), (1, .int a1), (2, .int x2), (5, .int x5), (6, .int x6), (7, .int x7), (8, .int x8)]) hx hb dX9_count_194 hl (by decide) rfl (fun ls hl => ?_)
                    refine lv_iload hx hb dX9_count_196 (lv_at hl 8 rfl) ?_
                    refine lv_iload hx hb dX9_count_198 (lv_at hl 3 rfl) ?_
                    refine lv_if_eq (tgt := 212) hx hb dX9_count_200 (by decide) (fun _ => ?_) (fun c88 => absurd c88 (by decide))
                    refine lv_iconst (v := 0) hx hb dX9_count_212 (by decide) ?_
                    refine lv_iadd hx hb dX9_count_213 ?_
                    refine lv_topi (fun w89 e_w89 => ?_)
                    have h := g_let2 e_w89 h
                    refine lv_istore (lv' := [(5, .int w89), (4, .int w87), (3, .int w84), (11, .int 1), (10, .int 0), (9, .int v32), (0, .ref (xN X + t)), (1, .int a1), (2, .int x2), (6, .int x6), (7, .int x7), (8, .int x8)]) hx hb dX9_count_214 hl (by decide) rfl (fun ls hl => ?_)
                    refine lv_iload hx hb dX9_count_216 (lv_at hl 9 rfl) ?_
                    refine lv_iload hx hb dX9_count_218 (lv_at hl 4 rfl) ?_
                    refine lv_if_eq (tgt := 232) hx hb dX9_count_220 (by decide) (fun _ => ?_) (fun c90 => absurd c90 (by decide))
                    refine lv_iconst (v := 0) hx hb dX9_count_232 (by decide) ?_
                    refine lv_iadd hx hb dX9_count_233 ?_
                    refine lv_topi (fun w91 e_w91 => ?_)
                    have h := g_let2 e_w91 h
                    refine lv_istore (lv' := [(6, .int w91), (5, .int w89), (4, .int w87), (3, .int w84), (11, .int 1), (10, .int 0), (9, .int v32), (0, .ref (xN X + t)), (1, .int a1), (2, .int x2), (7, .int x7), (8, .int x8)]) hx hb dX9_count_234 hl (by decide) rfl (fun ls hl => ?_)
                    obtain ⟨w92, e_w92⟩ : ∃ y : Int32, y = x8 + 1 := ⟨_, rfl⟩
                    have h := g_let2 e_w92 h
                    refine lv_iinc (v := w92) (lv' := [(8, .int w92), (6, .int w91), (5, .int w89), (4, .int w87), (3, .int w84), (11, .int 1), (10, .int 0), (9, .int v32), (0, .ref (xN X + t)), (1, .int a1), (2, .int x2), (7, .int x7)]) hx hb dX9_count_236 hl (k := 11) rfl (by rw [e_w92]; rfl) (by decide) rfl (fun ls hl => ?_)
                    refine lv_goto (tgt := 61) hx hb dX9_count_239 (by decide) ?_
                    exact ih _ _ _ σ33 x2 w84 w87 w89 w91 x7 w92 G (lv_sub hl [8, 9, 10, 4, 3, 2, 1, 11, 0] rfl) h
          · have h := g_it h c36
            refine lv_iconst (v := 1) hx hb dX9_count_126 (by decide) ?_
            refine lv_goto (tgt := 131) hx hb dX9_count_127 (by decide) ?_
            refine lv_istore (lv' := [(10, .int 1), (9, .int v32), (0, .ref (xN X + t)), (1, .int a1), (2, .int x2), (3, .int x3), (4, .int x4), (5, .int x5), (6, .int x6), (7, .int x7), (8, .int x8)]) hx hb dX9_count_131 hl (by decide) rfl (fun ls hl => ?_)
            refine lv_iload hx hb dX9_count_133 (lv_at hl 0 rfl) ?_
            refine lv_if_ne (tgt := 160) hx hb dX9_count_135 (by decide) (fun _ => ?_) (fun c37 => absurd c37 (by decide))
            refine lv_iconst (v := 0) hx hb dX9_count_160 (by decide) ?_
            refine lv_istore (lv' := [(11, .int 0), (10, .int 1), (9, .int v32), (0, .ref (xN X + t)), (1, .int a1), (2, .int x2), (3, .int x3), (4, .int x4), (5, .int x5), (6, .int x6), (7, .int x7), (8, .int x8)]) hx hb dX9_count_161 hl (by decide) rfl (fun ls hl => ?_)
            refine lv_iload_n hx hb dX9_count_163 rfl (lv_at hl 6 rfl) ?_
            refine lv_iload hx hb dX9_count_164 (lv_at hl 0 rfl) ?_
            refine lv_if_eq (tgt := 173) hx hb dX9_count_166 (by decide) (fun _ => ?_) (fun c38 => absurd c38 (by decide))
            refine lv_iconst (v := 0) hx hb dX9_count_173 (by decide) ?_
            refine lv_iadd hx hb dX9_count_174 ?_
            refine lv_topi (fun w39 e_w39 => ?_)
            have h := g_let2 e_w39 h
            refine lv_istore_n (lv' := [(3, .int w39), (11, .int 0), (10, .int 1), (9, .int v32), (0, .ref (xN X + t)), (1, .int a1), (2, .int x2), (4, .int x4), (5, .int x5), (6, .int x6), (7, .int x7), (8, .int x8)]) hx hb dX9_count_175 rfl hl (by decide) rfl (fun ls hl => ?_)
            refine lv_iload hx hb dX9_count_176 (lv_at hl 7 rfl) ?_
            refine lv_iload hx hb dX9_count_178 (lv_at hl 1 rfl) ?_
            refine lv_if_eq (tgt := 192) hx hb dX9_count_180 (by decide) (fun _ => ?_) (fun c40 => absurd c40 (by decide))
            refine lv_iconst (v := 0) hx hb dX9_count_192 (by decide) ?_
            refine lv_iadd hx hb dX9_count_193 ?_
            refine lv_topi (fun w41 e_w41 => ?_)
            have h := g_let2 e_w41 h
            refine lv_istore (lv' := [(4, .int w41), (3, .int w39), (11, .int 0), (10, .int 1), (9, .int v32), (0, .ref (xN X + t)), (1, .int a1), (2, .int x2), (5, .int x5), (6, .int x6), (7, .int x7), (8, .int x8)]) hx hb dX9_count_194 hl (by decide) rfl (fun ls hl => ?_)
            refine lv_iload hx hb dX9_count_196 (lv_at hl 8 rfl) ?_
            refine lv_iload hx hb dX9_count_198 (lv_at hl 3 rfl) ?_
            refine lv_if_eq (tgt := 212) hx hb dX9_count_200 (by decide) (fun c42 => absurd c42 (by decide)) (fun _ => ?_)
            refine lv_iload hx hb dX9_count_203 (lv_at hl 4 rfl) ?_
            refine lv_if_ne (tgt := 212) hx hb dX9_count_205 (by decide) (fun c43 => ?_) (fun c43 => ?_)
            · have h := g_if h c43
              refine lv_iconst (v := 0) hx hb dX9_count_212 (by decide) ?_
              refine lv_iadd hx hb dX9_count_213 ?_
              refine lv_topi (fun w49 e_w49 => ?_)
              have h := g_let2 e_w49 h
              refine lv_istore (lv' := [(5, .int w49), (4, .int w41), (3, .int w39), (11, .int 0), (10, .int 1), (9, .int v32), (0, .ref (xN X + t)), (1, .int a1), (2, .int x2), (6, .int x6), (7, .int x7), (8, .int x8)]) hx hb dX9_count_214 hl (by decide) rfl (fun ls hl => ?_)
              refine lv_iload hx hb dX9_count_216 (lv_at hl 9 rfl) ?_
              refine lv_iload hx hb dX9_count_218 (lv_at hl 4 rfl) ?_
              refine lv_if_eq (tgt := 232) hx hb dX9_count_220 (by decide) (fun c50 => absurd c50 (by decide)) (fun _ => ?_)
              refine lv_iload hx hb dX9_count_223 (lv_at hl 5 rfl) ?_
              refine lv_if_eq (tgt := 232) hx hb dX9_count_225 (by decide) (fun c51 => absurd c51 c43) (fun _ => ?_)
              refine lv_iconst (v := 1) hx hb dX9_count_228 (by decide) ?_
              refine lv_goto (tgt := 233) hx hb dX9_count_229 (by decide) ?_
              refine lv_iadd hx hb dX9_count_233 ?_
              refine lv_topi (fun w52 e_w52 => ?_)
              have h := g_let2 e_w52 h
              refine lv_istore (lv' := [(6, .int w52), (5, .int w49), (4, .int w41), (3, .int w39), (11, .int 0), (10, .int 1), (9, .int v32), (0, .ref (xN X + t)), (1, .int a1), (2, .int x2), (7, .int x7), (8, .int x8)]) hx hb dX9_count_234 hl (by decide) rfl (fun ls hl => ?_)
              obtain ⟨w53, e_w53⟩ : ∃ y : Int32, y = x8 + 1 := ⟨_, rfl⟩
              have h := g_let2 e_w53 h
              refine lv_iinc (v := w53) (lv' := [(8, .int w53), (6, .int w52), (5, .int w49), (4, .int w41), (3, .int w39), (11, .int 0), (10, .int 1), (9, .int v32), (0, .ref (xN X + t)), (1, .int a1), (2, .int x2), (7, .int x7)]) hx hb dX9_count_236 hl (k := 11) rfl (by rw [e_w53]; rfl) (by decide) rfl (fun ls hl => ?_)
              refine lv_goto (tgt := 61) hx hb dX9_count_239 (by decide) ?_
              exact ih _ _ _ σ33 x2 w39 w41 w49 w52 x7 w53 G (lv_sub hl [8, 9, 10, 4, 3, 2, 1, 11, 0] rfl) h
            · have h := g_it h c43
              refine lv_iconst (v := 1) hx hb dX9_count_208 (by decide) ?_
              refine lv_goto (tgt := 213) hx hb dX9_count_209 (by decide) ?_
              refine lv_iadd hx hb dX9_count_213 ?_
              refine lv_topi (fun w44 e_w44 => ?_)
              have h := g_let2 e_w44 h
              refine lv_istore (lv' := [(5, .int w44), (4, .int w41), (3, .int w39), (11, .int 0), (10, .int 1), (9, .int v32), (0, .ref (xN X + t)), (1, .int a1), (2, .int x2), (6, .int x6), (7, .int x7), (8, .int x8)]) hx hb dX9_count_214 hl (by decide) rfl (fun ls hl => ?_)
              refine lv_iload hx hb dX9_count_216 (lv_at hl 9 rfl) ?_
              refine lv_iload hx hb dX9_count_218 (lv_at hl 4 rfl) ?_
              refine lv_if_eq (tgt := 232) hx hb dX9_count_220 (by decide) (fun c45 => absurd c45 (by decide)) (fun _ => ?_)
              refine lv_iload hx hb dX9_count_223 (lv_at hl 5 rfl) ?_
              refine lv_if_eq (tgt := 232) hx hb dX9_count_225 (by decide) (fun _ => ?_) (fun c46 => absurd c43 c46)
              refine lv_iconst (v := 0) hx hb dX9_count_232 (by decide) ?_
              refine lv_iadd hx hb dX9_count_233 ?_
              refine lv_topi (fun w47 e_w47 => ?_)
              have h := g_let2 e_w47 h
              refine lv_istore (lv' := [(6, .int w47), (5, .int w44), (4, .int w41), (3, .int w39), (11, .int 0), (10, .int 1), (9, .int v32), (0, .ref (xN X + t)), (1, .int a1), (2, .int x2), (7, .int x7), (8, .int x8)]) hx hb dX9_count_234 hl (by decide) rfl (fun ls hl => ?_)
              obtain ⟨w48, e_w48⟩ : ∃ y : Int32, y = x8 + 1 := ⟨_, rfl⟩
              have h := g_let2 e_w48 h
              refine lv_iinc (v := w48) (lv' := [(8, .int w48), (6, .int w47), (5, .int w44), (4, .int w41), (3, .int w39), (11, .int 0), (10, .int 1), (9, .int v32), (0, .ref (xN X + t)), (1, .int a1), (2, .int x2), (7, .int x7)]) hx hb dX9_count_236 hl (k := 11) rfl (by rw [e_w48]; rfl) (by decide) rfl (fun ls hl => ?_)
              refine lv_goto (tgt := 61) hx hb dX9_count_239 (by decide) ?_
              exact ih _ _ _ σ33 x2 w39 w41 w44 w47 x7 w48 G (lv_sub hl [8, 9, 10, 4, 3, 2, 1, 11, 0] rfl) h
  have L30 : ∀ (n : Nat) (H : Heap) (locs : List Loc) (ls : Array Slot) (σ : gM) (x2 : Int32) (x3 : Int32) (x4 : Int32) (x5 : Int32) (x6 : Int32) (x7 : Int32), gG X σ s H locs → lv_has ls 12 [(0, .ref (xN X + t)), (1, .int a1), (2, .int x2), (3, .int x3), (4, .int x4), (5, .int x5), (6, .int x6), (7, .int x7)] → fX9_count_30 t a1 n σ x2 x3 x4 x5 x6 x7 = some (r, σ') → W p l ev ({ frames := 6, cells := 0, slots := 0, locals := 145 }) s m args below meth c H locs 0 0 Q (F0 m 30 ls []) := by
    intro n
    induction n with
    | zero =>
      intro H locs ls σ x2 x3 x4 x5 x6 x7 G hl h
      rw [fX9_count_30] at h
      cases h
    | succ n ih =>
      intro H locs ls σ x2 x3 x4 x5 x6 x7 G hl h
      rw [fX9_count_30] at h
      refine lv_iload hx hb dX9_count_30 (lv_at hl 7 rfl) ?_
      refine lv_aload_n hx hb dX9_count_32 rfl (lv_at hl 0 rfl) ?_
      refine gg9_0 C G ok.1 ok.2.1.1 u_fl_RX9_7 dX9_count_33 ?_
      refine lv_iconst (v := 2) hx hb dX9_count_36 (by decide) ?_
      obtain ⟨c3, h⟩ := g_chk h
      refine g_iald C G ok.2.2.1 c3 dX9_count_37 ?_
      refine lv_icmp_ge (tgt := 248) hx hb dX9_count_38 (by decide) (fun c4 => ?_) (fun c4 => ?_)
      · have h := g_it h c4
        refine lv_iload_n hx hb dX9_count_248 rfl (lv_at hl 1 rfl) ?_
        by_cases c5 : a1 = 0
        · have h := g_it h c5
          refine lv_tableIn (off := 59) (tgt := 308) hx hb dX9_count_249 (by rw [c5]; decide) (by rw [c5]; decide) (by rw [c5]; rfl) (by decide) ?_
          refine lv_aload_n hx hb dX9_count_308 rfl (lv_at hl 0 rfl) ?_
          refine gg9_0 C G ok.1 ok.2.1.1 u_fl_RX9_7 dX9_count_309 ?_
          refine lv_iconst (v := 2) hx hb dX9_count_312 (by decide) ?_
          obtain ⟨c6, h⟩ := g_chk h
          refine g_iald C G ok.2.2.1 c6 dX9_count_313 ?_
          exact ret dX9_count_314 rfl G (Prod.mk.inj (Option.some.inj h))
        have h := g_if h c5
        by_cases c7 : a1 = 1
        · have h := g_it h c7
          refine lv_tableIn (off := 66) (tgt := 315) hx hb dX9_count_249 (by rw [c7]; decide) (by rw [c7]; decide) (by rw [c7]; rfl) (by decide) ?_
          refine lv_iload_n hx hb dX9_count_315 rfl (lv_at hl 2 rfl) ?_
          exact ret dX9_count_316 rfl G (Prod.mk.inj (Option.some.inj h))
        have h := g_if h c7
        by_cases c8 : a1 = 2
        · have h := g_it h c8
          refine lv_tableIn (off := 68) (tgt := 317) hx hb dX9_count_249 (by rw [c8]; decide) (by rw [c8]; decide) (by rw [c8]; rfl) (by decide) ?_
          refine lv_aload_n hx hb dX9_count_317 rfl (lv_at hl 0 rfl) ?_
          refine gg9_0 C G ok.1 ok.2.1.1 u_fl_RX9_7 dX9_count_318 ?_
          refine lv_iload_n hx hb dX9_count_321 rfl (lv_at hl 1 rfl) ?_
          refine lv_iconst (v := 2) hx hb dX9_count_322 (by decide) ?_
          refine lv_isub hx hb dX9_count_323 ?_
          obtain ⟨c9, h⟩ := g_chk h
          refine g_iald C G ok.2.2.1 c9 dX9_count_324 ?_
          exact ret dX9_count_325 rfl G (Prod.mk.inj (Option.some.inj h))
        have h := g_if h c8
        by_cases c10 : a1 = 3
        · have h := g_it h c10
          refine lv_tableIn (off := 68) (tgt := 317) hx hb dX9_count_249 (by rw [c10]; decide) (by rw [c10]; decide) (by rw [c10]; rfl) (by decide) ?_
          refine lv_aload_n hx hb dX9_count_317 rfl (lv_at hl 0 rfl) ?_
          refine gg9_0 C G ok.1 ok.2.1.1 u_fl_RX9_7 dX9_count_318 ?_
          refine lv_iload_n hx hb dX9_count_321 rfl (lv_at hl 1 rfl) ?_
          refine lv_iconst (v := 2) hx hb dX9_count_322 (by decide) ?_
          refine lv_isub hx hb dX9_count_323 ?_
          obtain ⟨c11, h⟩ := g_chk h
          refine g_iald C G ok.2.2.1 c11 dX9_count_324 ?_
          exact ret dX9_count_325 rfl G (Prod.mk.inj (Option.some.inj h))
        have h := g_if h c10
        by_cases c12 : a1 = 4
        · have h := g_it h c12
          refine lv_tableIn (off := 77) (tgt := 326) hx hb dX9_count_249 (by rw [c12]; decide) (by rw [c12]; decide) (by rw [c12]; rfl) (by decide) ?_
          refine lv_aload_n hx hb dX9_count_326 rfl (lv_at hl 0 rfl) ?_
          obtain ⟨σ14, e_σ14, h⟩ := g_bind h
          refine g_callv (g_runV (n := 0) (As := []) (rest := []) C G (mX9_gathers l X σ σ14 t ok e_σ14) ok.1.2 (gE_9 ok.1.1) rfl (g_goodV u_ml_RX9_89 u_im_yX9_gathers u_se_yX9_gathers u_in_RX9 u_co_yX9_gathers) rfl rfl rfl (by decide +kernel) ⟨Nat.le_of_ble_eq_true rfl, Nat.le_of_ble_eq_true rfl⟩ rfl hl.1 rfl (Nat.le_of_ble_eq_true rfl) dX9_count_327 ⟨Nat.zero_le _, Nat.zero_le _⟩) G (fun H locs G => ?_)
          refine lv_aload_n hx hb dX9_count_330 rfl (lv_at hl 0 rfl) ?_
          refine gg9_9 C G ok.1 u_fl_RX9_99 dX9_count_331 ?_
          exact ret dX9_count_334 rfl G (Prod.mk.inj (Option.some.inj h))
        have h := g_if h c12
        by_cases c15 : a1 = 5
        · have h := g_it h c15
          refine lv_tableIn (off := 86) (tgt := 335) hx hb dX9_count_249 (by rw [c15]; decide) (by rw [c15]; decide) (by rw [c15]; rfl) (by decide) ?_
          refine lv_iload_n hx hb dX9_count_335 rfl (lv_at hl 3 rfl) ?_
          exact ret dX9_count_336 rfl G (Prod.mk.inj (Option.some.inj h))
        have h := g_if h c15
        by_cases c16 : a1 = 6
        · have h := g_it h c16
          refine lv_tableIn (off := 88) (tgt := 337) hx hb dX9_count_249 (by rw [c16]; decide) (by rw [c16]; decide) (by rw [c16]; rfl) (by decide) ?_
          refine lv_iload hx hb dX9_count_337 (lv_at hl 4 rfl) ?_
          exact ret dX9_count_339 rfl G (Prod.mk.inj (Option.some.inj h))
        have h := g_if h c16
        by_cases c17 : a1 = 7
        · have h := g_it h c17
          refine lv_tableIn (off := 91) (tgt := 340) hx hb dX9_count_249 (by rw [c17]; decide) (by rw [c17]; decide) (by rw [c17]; rfl) (by decide) ?_
          refine lv_iload hx hb dX9_count_340 (lv_at hl 5 rfl) ?_
          exact ret dX9_count_342 rfl G (Prod.mk.inj (Option.some.inj h))
        have h := g_if h c17
        by_cases c18 : a1 = 8
        · have h := g_it h c18
          refine lv_tableIn (off := 94) (tgt := 343) hx hb dX9_count_249 (by rw [c18]; decide) (by rw [c18]; decide) (by rw [c18]; rfl) (by decide) ?_
          refine lv_iload hx hb dX9_count_343 (lv_at hl 6 rfl) ?_
          exact ret dX9_count_345 rfl G (Prod.mk.inj (Option.some.inj h))
        have h := g_if h c18
        by_cases c19 : a1 = 9
        · have h := g_it h c19
          refine lv_tableIn (off := 97) (tgt := 346) hx hb dX9_count_249 (by rw [c19]; decide) (by rw [c19]; decide) (by rw [c19]; rfl) (by decide) ?_
          refine lv_aload_n hx hb dX9_count_346 rfl (lv_at hl 0 rfl) ?_
          obtain ⟨v20, e_v20, h⟩ := g_bind h
          refine g_calli (g_runV (n := 0) (As := []) (rest := []) C G (mX9_places l X σ t v20 ok e_v20) ok.1.2 (gE_9 ok.1.1) rfl (g_goodV u_ml_RX9_42 u_im_yX9_places u_se_yX9_places u_in_RX9 u_co_yX9_places) rfl rfl rfl (by decide +kernel) ⟨Nat.le_of_ble_eq_true rfl, Nat.le_of_ble_eq_true rfl⟩ rfl hl.1 rfl (Nat.le_of_ble_eq_true rfl) dX9_count_347 ⟨Nat.zero_le _, Nat.zero_le _⟩) G (fun H locs G => ?_)
          refine lv_iload_n hx hb dX9_count_350 rfl (lv_at hl 2 rfl) ?_
          refine lv_isub hx hb dX9_count_351 ?_
          exact ret dX9_count_352 rfl G (Prod.mk.inj (Option.some.inj h))
        have h := g_if h c19
        by_cases c21 : a1 = 10
        · have h := g_it h c21
          refine lv_tableIn (off := 104) (tgt := 353) hx hb dX9_count_249 (by rw [c21]; decide) (by rw [c21]; decide) (by rw [c21]; rfl) (by decide) ?_
          refine lv_aload_n hx hb dX9_count_353 rfl (lv_at hl 0 rfl) ?_
          refine gg9_2 C G ok.1 u_fl_RX9_46 dX9_count_354 ?_
          exact ret dX9_count_357 rfl G (Prod.mk.inj (Option.some.inj h))
        have h := g_if h c21
        refine lv_tableOut (tgt := 358) hx hb dX9_count_249 (by have q0 := lv_neT c5 (a := 0) (by decide); have q1 := lv_neT c7 (a := 1) (by decide); have q2 := lv_neT c8 (a := 2) (by decide); have q3 := lv_neT c10 (a := 3) (by decide); have q4 := lv_neT c12 (a := 4) (by decide); have q5 := lv_neT c15 (a := 5) (by decide); have q6 := lv_neT c16 (a := 6) (by decide); have q7 := lv_neT c17 (a := 7) (by decide); have q8 := lv_neT c18 (a := 8) (by decide); have q9 := lv_neT c19 (a := 9) (by decide); have q10 := lv_neT c21 (a := 10) (by decide); omega) (by decide) ?_
        refine lv_aload_n hx hb dX9_count_358 rfl (lv_at hl 0 rfl) ?_
        refine gg9_4 C G ok.1 u_fl_RX9_105 dX9_count_359 ?_
        exact ret dX9_count_362 rfl G (Prod.mk.inj (Option.some.inj h))
      · have h := g_if h c4
        refine lv_iload_n hx hb dX9_count_41 rfl (lv_at hl 2 rfl) ?_
        refine lv_aload_n hx hb dX9_count_42 rfl (lv_at hl 0 rfl) ?_
        refine lv_iload hx hb dX9_count_43 (lv_at hl 7 rfl) ?_
        obtain ⟨v22, e_v22, h⟩ := g_bind h
        refine g_calli (g_runV (n := 1) (As := [.int x7]) (rest := [.int x2]) C G (mX9_isOn l X σ t x7 v22 ok e_v22) ok.1.2 (gE_9 ok.1.1) rfl (g_goodV u_ml_RX9_76 u_im_yX9_isOn u_se_yX9_isOn u_in_RX9 u_co_yX9_isOn) rfl rfl rfl (by decide +kernel) ⟨Nat.le_of_ble_eq_true rfl, Nat.le_of_ble_eq_true rfl⟩ rfl hl.1 rfl (Nat.le_of_ble_eq_true rfl) dX9_count_45 ⟨Nat.zero_le _, Nat.zero_le _⟩) G (fun H locs G => ?_)
        refine lv_if_eq (tgt := 55) hx hb dX9_count_48 (by decide) (fun c23 => ?_) (fun c23 => ?_)
        · have h := g_it h c23
          refine lv_iconst (v := 0) hx hb dX9_count_55 (by decide) ?_
          refine lv_iadd hx hb dX9_count_56 ?_
          refine lv_topi (fun w24 e_w24 => ?_)
          have h := g_let2 e_w24 h
          refine lv_istore_n (lv' := [(2, .int w24), (0, .ref (xN X + t)), (1, .int a1), (3, .int x3), (4, .int x4), (5, .int x5), (6, .int x6), (7, .int x7)]) hx hb dX9_count_57 rfl hl (by decide) rfl (fun ls hl => ?_)
          refine lv_iconst (v := 0) hx hb dX9_count_58 (by decide) ?_
          refine lv_istore (lv' := [(8, .int 0), (2, .int w24), (0, .ref (xN X + t)), (1, .int a1), (3, .int x3), (4, .int x4), (5, .int x5), (6, .int x6), (7, .int x7)]) hx hb dX9_count_59 hl (by decide) rfl (fun ls hl => ?_)
          exact L61 (fun σ2 y2 y3 y4 y5 y6 y7 => fX9_count_30 t a1 n σ2 y2 y3 y4 y5 y6 y7) (fun H locs ls σ2 y2 y3 y4 y5 y6 y7 G hl h => ih H locs ls σ2 y2 y3 y4 y5 y6 y7 G hl h) gF _ _ _ σ w24 x3 x4 x5 x6 x7 0 G (lv_sub hl [2, 3, 1, 4, 5, 6, 7, 8, 0] rfl) h
        · have h := g_if h c23
          refine lv_iconst (v := 1) hx hb dX9_count_51 (by decide) ?_
          refine lv_goto (tgt := 56) hx hb dX9_count_52 (by decide) ?_
          refine lv_iadd hx hb dX9_count_56 ?_
          refine lv_topi (fun w108 e_w108 => ?_)
          have h := g_let2 e_w108 h
          refine lv_istore_n (lv' := [(2, .int w108), (0, .ref (xN X + t)), (1, .int a1), (3, .int x3), (4, .int x4), (5, .int x5), (6, .int x6), (7, .int x7)]) hx hb dX9_count_57 rfl hl (by decide) rfl (fun ls hl => ?_)
          refine lv_iconst (v := 0) hx hb dX9_count_58 (by decide) ?_
          refine lv_istore (lv' := [(8, .int 0), (2, .int w108), (0, .ref (xN X + t)), (1, .int a1), (3, .int x3), (4, .int x4), (5, .int x5), (6, .int x6), (7, .int x7)]) hx hb dX9_count_59 hl (by decide) rfl (fun ls hl => ?_)
          exact L61 (fun σ2 y2 y3 y4 y5 y6 y7 => fX9_count_30 t a1 n σ2 y2 y3 y4 y5 y6 y7) (fun H locs ls σ2 y2 y3 y4 y5 y6 y7 G hl h => ih H locs ls σ2 y2 y3 y4 y5 y6 y7 G hl h) gF _ _ _ σ w108 x3 x4 x5 x6 x7 0 G (lv_sub hl [2, 3, 1, 4, 5, 6, 7, 8, 0] rfl) h
  unfold fX9_count at h
  refine lv_iload_n hx hb dX9_count_0 rfl (lv_at hl 1 rfl) ?_
  refine lv_iconst (v := 0) hx hb dX9_count_1 (by decide) ?_
  refine lv_bipush (v := 11) hx hb dX9_count_2 (by decide) ?_
  obtain ⟨v1, e_v1, h⟩ := g_bind h
  refine g_calli (g_runS (n := 3) (As := [.int a1, .int 0, .int 11]) (rest := []) C G (mX9_in l X σ a1 0 11 v1 e_v1) (g_goodS u_ml_RX9_38 u_st_yX9_in u_in_RX9 u_co_yX9_in) rfl rfl rfl (by decide +kernel) ⟨Nat.le_of_ble_eq_true rfl, Nat.le_of_ble_eq_true rfl⟩ rfl hl.1 rfl (Nat.le_of_ble_eq_true rfl) dX9_count_4 ⟨Nat.zero_le _, Nat.zero_le _⟩) G (fun H locs G => ?_)
  refine lv_if_ne (tgt := 14) hx hb dX9_count_7 (by decide) (fun c2 => ?_) (fun c2 => ?_)
  · have h := g_if h c2
    refine lv_iconst (v := 0) hx hb dX9_count_14 (by decide) ?_
    refine lv_istore_n (lv' := [(2, .int 0), (0, .ref (xN X + t)), (1, .int a1)]) hx hb dX9_count_15 rfl hl (by decide) rfl (fun ls hl => ?_)
    refine lv_iconst (v := 0) hx hb dX9_count_16 (by decide) ?_
    refine lv_istore_n (lv' := [(3, .int 0), (2, .int 0), (0, .ref (xN X + t)), (1, .int a1)]) hx hb dX9_count_17 rfl hl (by decide) rfl (fun ls hl => ?_)
    refine lv_iconst (v := 0) hx hb dX9_count_18 (by decide) ?_
    refine lv_istore (lv' := [(4, .int 0), (3, .int 0), (2, .int 0), (0, .ref (xN X + t)), (1, .int a1)]) hx hb dX9_count_19 hl (by decide) rfl (fun ls hl => ?_)
    refine lv_iconst (v := 0) hx hb dX9_count_21 (by decide) ?_
    refine lv_istore (lv' := [(5, .int 0), (4, .int 0), (3, .int 0), (2, .int 0), (0, .ref (xN X + t)), (1, .int a1)]) hx hb dX9_count_22 hl (by decide) rfl (fun ls hl => ?_)
    refine lv_iconst (v := 0) hx hb dX9_count_24 (by decide) ?_
    refine lv_istore (lv' := [(6, .int 0), (5, .int 0), (4, .int 0), (3, .int 0), (2, .int 0), (0, .ref (xN X + t)), (1, .int a1)]) hx hb dX9_count_25 hl (by decide) rfl (fun ls hl => ?_)
    refine lv_iconst (v := 0) hx hb dX9_count_27 (by decide) ?_
    refine lv_istore (lv' := [(7, .int 0), (6, .int 0), (5, .int 0), (4, .int 0), (3, .int 0), (2, .int 0), (0, .ref (xN X + t)), (1, .int a1)]) hx hb dX9_count_28 hl (by decide) rfl (fun ls hl => ?_)
    exact L30  gF _ _ _ σ 0 0 0 0 0 0 G (lv_sub hl [6, 7, 5, 4, 3, 2, 1, 0] rfl) h
  · have h := g_it h c2
    refine lv_sipush (v := (-1001)) hx hb dX9_count_10 (by decide) ?_
    exact ret dX9_count_13 rfl G (Prod.mk.inj (Option.some.inj h))

def fX9_puts (σ : gM) (t : Nat) (a1 : Int32) (a2 : Int32) (a3 : Int32) : Option (gM) :=
  (if ¬ ((123 + a1) < 0 ∨ gln (t + 1) ≤ (123 + a1).toNatClampNeg) then
  (gl (gset σ (t + 1) (upd (σ (t + 1)) (123 + a1).toNatClampNeg a2)) fun σ2 =>
  (if ¬ ((111 + a1) < 0 ∨ gln (t + 1) ≤ (111 + a1).toNatClampNeg) then
  (gl (gset σ2 (t + 1) (upd (σ2 (t + 1)) (111 + a1).toNatClampNeg a3)) fun σ4 =>
  some σ4)
  else none))
  else none)
set_option maxHeartbeats 4000000 in
set_option maxRecDepth 100000 in
theorem mX9_puts (l : Launch) (X : gX) (σ σ' : gM) (t : Nat) (a1 : Int32) (a2 : Int32) (a3 : Int32) (ok : gok9 X t) (h : fX9_puts σ t a1 a2 a3 = some σ') : Met l yX9_puts (Cond.code yX9_puts cX9_puts 4 none :: gBig) ({ frames := 0, cells := 0, slots := 0, locals := 0 }) (gPc X σ [.ref (xN X + t), .int a1, .int a2, .int a3]) (gQv X σ') 0 0 (xA X) := by
  refine g_metv (cc := cX9_puts) (maxL := 4) (own := RX9) (by decide) rfl rfl (Nat.le_of_ble_eq_true rfl) ?_
  intro p ev s m args below meth c Q C G ret ls hl
  obtain ⟨⟨hx, hb, hml, hown, hts⟩, hK⟩ := id C
  have hl : lv_has ls 4 [(0, .ref (xN X + t)), (1, .int a1), (2, .int a2), (3, .int a3)] := hl
  unfold fX9_puts at h
  refine lv_aload_n hx hb dX9_puts_0 rfl (lv_at hl 0 rfl) ?_
  refine gg9_0 C G ok.1 ok.2.1.1 u_fl_RX9_7 dX9_puts_1 ?_
  refine lv_bipush (v := 123) hx hb dX9_puts_4 (by decide) ?_
  refine lv_iload_n hx hb dX9_puts_6 rfl (lv_at hl 1 rfl) ?_
  refine lv_iadd hx hb dX9_puts_7 ?_
  refine lv_iload_n hx hb dX9_puts_8 rfl (lv_at hl 2 rfl) ?_
  obtain ⟨c1, h⟩ := g_chk h
  obtain ⟨σ2, e_σ2, h⟩ := g_let h
  refine g_iast C G ok.2.2.1 c1 dX9_puts_9 (fun H locs G => ?_)
  rw [e_σ2] at G
  refine lv_aload_n hx hb dX9_puts_10 rfl (lv_at hl 0 rfl) ?_
  refine gg9_0 C G ok.1 ok.2.1.1 u_fl_RX9_7 dX9_puts_11 ?_
  refine lv_bipush (v := 111) hx hb dX9_puts_14 (by decide) ?_
  refine lv_iload_n hx hb dX9_puts_16 rfl (lv_at hl 1 rfl) ?_
  refine lv_iadd hx hb dX9_puts_17 ?_
  refine lv_iload_n hx hb dX9_puts_18 rfl (lv_at hl 3 rfl) ?_
  obtain ⟨c3, h⟩ := g_chk h
  obtain ⟨σ4, e_σ4, h⟩ := g_let h
  refine g_iast C G ok.2.2.1 c3 dX9_puts_19 (fun H locs G => ?_)
  rw [e_σ4] at G
  exact ret dX9_puts_20 G (Option.some.inj h)

def fX9_canLie (σ : gM) (t : Nat) (a1 : Int32) (a2 : Int32) (a3 : Int32) : Option (Int32 × gM) :=
  ((fX9_fits σ t a1 a2 a3 0).bind fun pv1 => gl pv1.1 fun v1 => gl pv1.2 fun σ2 =>
  (if v1 = 0 then
    some (1, σ2)
  else
    some (0, σ2)))
set_option maxHeartbeats 4000000 in
set_option maxRecDepth 100000 in
theorem mX9_canLie (l : Launch) (X : gX) (σ σ' : gM) (t : Nat) (a1 : Int32) (a2 : Int32) (a3 : Int32) (r : Int32) (ok : gok9 X t) (h : fX9_canLie σ t a1 a2 a3 = some (r, σ')) : Met l yX9_canLie (Cond.code yX9_canLie cX9_canLie 4 (some .boolean) :: gBig) ({ frames := 5, cells := 0, slots := 0, locals := 126 }) (gPc X σ [.ref (xN X + t), .int a1, .int a2, .int a3]) (gQi X σ' r) 0 0 (xA X) := by
  refine g_meti (cc := cX9_canLie) (maxL := 4) (own := RX9) (by decide) rfl rfl (Nat.le_of_ble_eq_true rfl) ?_
  intro p ev s m args below meth c Q C G ret ls hl
  obtain ⟨⟨hx, hb, hml, hown, hts⟩, hK⟩ := id C
  have hl : lv_has ls 4 [(0, .ref (xN X + t)), (1, .int a1), (2, .int a2), (3, .int a3)] := hl
  unfold fX9_canLie at h
  refine lv_aload_n hx hb dX9_canLie_0 rfl (lv_at hl 0 rfl) ?_
  refine lv_iload_n hx hb dX9_canLie_1 rfl (lv_at hl 1 rfl) ?_
  refine lv_iload_n hx hb dX9_canLie_2 rfl (lv_at hl 2 rfl) ?_
  refine lv_iload_n hx hb dX9_canLie_3 rfl (lv_at hl 3 rfl) ?_
  refine lv_iconst (v := 0) hx hb dX9_canLie_4 (by decide) ?_
  obtain ⟨⟨v1, σ2⟩, e_v1, h⟩ := g_bind h
  have h := g_let2 (v := v1) rfl h
  have h := g_let2 (v := σ2) rfl h
  refine g_calli (g_runV (n := 4) (As := [.int a1, .int a2, .int a3, .int 0]) (rest := []) C G (mX9_fits l X σ σ2 t a1 a2 a3 0 v1 ok e_v1) ok.1.2 (gE_9 ok.1.1) rfl (g_goodV u_ml_RX9_92 u_im_yX9_fits u_se_yX9_fits u_in_RX9 u_co_yX9_fits) rfl rfl rfl (by decide +kernel) ⟨Nat.le_of_ble_eq_true rfl, Nat.le_of_ble_eq_true rfl⟩ rfl hl.1 rfl (Nat.le_of_ble_eq_true rfl) dX9_canLie_5 ⟨Nat.zero_le _, Nat.zero_le _⟩) G (fun H locs G => ?_)
  refine lv_if_ne (tgt := 15) hx hb dX9_canLie_8 (by decide) (fun c3 => ?_) (fun c3 => ?_)
  · have h := g_if h c3
    refine lv_iconst (v := 0) hx hb dX9_canLie_15 (by decide) ?_
    exact ret dX9_canLie_16 rfl G (Prod.mk.inj (Option.some.inj h))
  · have h := g_it h c3
    refine lv_iconst (v := 1) hx hb dX9_canLie_11 (by decide) ?_
    refine lv_goto (tgt := 16) hx hb dX9_canLie_12 (by decide) ?_
    exact ret dX9_canLie_16 rfl G (Prod.mk.inj (Option.some.inj h))

def fX9_isLaying (σ : gM) (t : Nat) (a1 : Int32) (a2 : Int32) (a3 : Int32) : Option (Int32) :=
  ((fX9_isScrap σ t a1).bind fun v1 =>
  (if v1 = 0 then
    some 0
  else
    ((fX9_isPlace σ t a2).bind fun v3 =>
    (if v3 = 0 then
      some 0
    else
      ((fX9_in σ a3 0 7).bind fun v5 =>
      (if v5 = 0 then
        some 0
      else
        some 1))))))
set_option maxHeartbeats 4000000 in
set_option maxRecDepth 100000 in
theorem mX9_isLaying (l : Launch) (X : gX) (σ : gM) (t : Nat) (a1 : Int32) (a2 : Int32) (a3 : Int32) (r : Int32) (ok : gok9 X t) (h : fX9_isLaying σ t a1 a2 a3 = some r) : Met l yX9_isLaying (Cond.code yX9_isLaying cX9_isLaying 4 (some .boolean) :: gBig) ({ frames := 2, cells := 0, slots := 0, locals := 43 }) (gPc X σ [.ref (xN X + t), .int a1, .int a2, .int a3]) (gQi X σ r) 0 0 (xA X) := by
  refine g_meti (cc := cX9_isLaying) (maxL := 4) (own := RX9) (by decide) rfl rfl (Nat.le_of_ble_eq_true rfl) ?_
  intro p ev s m args below meth c Q C G ret ls hl
  obtain ⟨⟨hx, hb, hml, hown, hts⟩, hK⟩ := id C
  have hl : lv_has ls 4 [(0, .ref (xN X + t)), (1, .int a1), (2, .int a2), (3, .int a3)] := hl
  unfold fX9_isLaying at h
  refine lv_aload_n hx hb dX9_isLaying_0 rfl (lv_at hl 0 rfl) ?_
  refine lv_iload_n hx hb dX9_isLaying_1 rfl (lv_at hl 1 rfl) ?_
  obtain ⟨v1, e_v1, h⟩ := g_bind h
  refine g_calli (g_runV (n := 1) (As := [.int a1]) (rest := []) C G (mX9_isScrap l X σ t a1 v1 ok e_v1) ok.1.2 (gE_9 ok.1.1) rfl (g_goodV u_ml_RX9_86 u_im_yX9_isScrap u_se_yX9_isScrap u_in_RX9 u_co_yX9_isScrap) rfl rfl rfl (by decide +kernel) ⟨Nat.le_of_ble_eq_true rfl, Nat.le_of_ble_eq_true rfl⟩ rfl hl.1 rfl (Nat.le_of_ble_eq_true rfl) dX9_isLaying_2 ⟨Nat.zero_le _, Nat.zero_le _⟩) G (fun H locs G => ?_)
  refine lv_if_eq (tgt := 30) hx hb dX9_isLaying_5 (by decide) (fun c2 => ?_) (fun c2 => ?_)
  · have h := g_it h c2
    refine lv_iconst (v := 0) hx hb dX9_isLaying_30 (by decide) ?_
    exact ret dX9_isLaying_31 rfl G ⟨Option.some.inj h, rfl⟩
  · have h := g_if h c2
    refine lv_aload_n hx hb dX9_isLaying_8 rfl (lv_at hl 0 rfl) ?_
    refine lv_iload_n hx hb dX9_isLaying_9 rfl (lv_at hl 2 rfl) ?_
    obtain ⟨v3, e_v3, h⟩ := g_bind h
    refine g_calli (g_runV (n := 1) (As := [.int a2]) (rest := []) C G (mX9_isPlace l X σ t a2 v3 ok e_v3) ok.1.2 (gE_9 ok.1.1) rfl (g_goodV u_ml_RX9_108 u_im_yX9_isPlace u_se_yX9_isPlace u_in_RX9 u_co_yX9_isPlace) rfl rfl rfl (by decide +kernel) ⟨Nat.le_of_ble_eq_true rfl, Nat.le_of_ble_eq_true rfl⟩ rfl hl.1 rfl (Nat.le_of_ble_eq_true rfl) dX9_isLaying_10 ⟨Nat.zero_le _, Nat.zero_le _⟩) G (fun H locs G => ?_)
    refine lv_if_eq (tgt := 30) hx hb dX9_isLaying_13 (by decide) (fun c4 => ?_) (fun c4 => ?_)
    · have h := g_it h c4
      refine lv_iconst (v := 0) hx hb dX9_isLaying_30 (by decide) ?_
      exact ret dX9_isLaying_31 rfl G ⟨Option.some.inj h, rfl⟩
    · have h := g_if h c4
      refine lv_iload_n hx hb dX9_isLaying_16 rfl (lv_at hl 3 rfl) ?_
      refine lv_iconst (v := 0) hx hb dX9_isLaying_17 (by decide) ?_
      refine lv_bipush (v := 7) hx hb dX9_isLaying_18 (by decide) ?_
      obtain ⟨v5, e_v5, h⟩ := g_bind h
      refine g_calli (g_runS (n := 3) (As := [.int a3, .int 0, .int 7]) (rest := []) C G (mX9_in l X σ a3 0 7 v5 e_v5) (g_goodS u_ml_RX9_38 u_st_yX9_in u_in_RX9 u_co_yX9_in) rfl rfl rfl (by decide +kernel) ⟨Nat.le_of_ble_eq_true rfl, Nat.le_of_ble_eq_true rfl⟩ rfl hl.1 rfl (Nat.le_of_ble_eq_true rfl) dX9_isLaying_20 ⟨Nat.zero_le _, Nat.zero_le _⟩) G (fun H locs G => ?_)
      refine lv_if_eq (tgt := 30) hx hb dX9_isLaying_23 (by decide) (fun c6 => ?_) (fun c6 => ?_)
      · have h := g_it h c6
        refine lv_iconst (v := 0) hx hb dX9_isLaying_30 (by decide) ?_
        exact ret dX9_isLaying_31 rfl G ⟨Option.some.inj h, rfl⟩
      · have h := g_if h c6
        refine lv_iconst (v := 1) hx hb dX9_isLaying_26 (by decide) ?_
        refine lv_goto (tgt := 31) hx hb dX9_isLaying_27 (by decide) ?_
        exact ret dX9_isLaying_31 rfl G ⟨Option.some.inj h, rfl⟩

def fX9_lay (σ : gM) (t : Nat) (a1 : Int32) (a2 : Int32) (a3 : Int32) : Option (Int32 × gM) :=
  ((fX9_isLaying σ t a1 a2 a3).bind fun v1 =>
  (if v1 = 0 then
    some ((-1001), σ)
  else
    ((fX9_isOn σ t a1).bind fun v3 =>
    (if v3 = 0 then
      ((fX9_scrapAt σ t a2).bind fun v5 =>
      (if v5 = (-1) then
        ((fX9_canLie σ t a1 a2 a3).bind fun pv7 => gl pv7.1 fun v7 => gl pv7.2 fun σ8 =>
        (if v7 = 0 then
          some ((-1002), σ8)
        else
          ((fX9_records σ8 t).bind fun σ11 =>
          ((fX9_puts σ11 t a1 a2 a3).bind fun σ13 =>
          ((fX9_seams σ13 t a1 a2).bind fun v14 =>
          some (v14, σ13))))))
      else
        some ((-1002), σ)))
    else
      some ((-1002), σ)))))
set_option maxHeartbeats 4000000 in
set_option maxRecDepth 100000 in
theorem mX9_lay (l : Launch) (X : gX) (σ σ' : gM) (t : Nat) (a1 : Int32) (a2 : Int32) (a3 : Int32) (r : Int32) (ok : gok9 X t) (h : fX9_lay σ t a1 a2 a3 = some (r, σ')) : Met l yX9_lay (Cond.code yX9_lay cX9_lay 4 (some .int) :: gBig) ({ frames := 6, cells := 0, slots := 0, locals := 149 }) (gPc X σ [.ref (xN X + t), .int a1, .int a2, .int a3]) (gQi X σ' r) 0 0 (xA X) := by
  refine g_meti (cc := cX9_lay) (maxL := 4) (own := RX9) (by decide) rfl rfl (Nat.le_of_ble_eq_true rfl) ?_
  intro p ev s m args below meth c Q C G ret ls hl
  obtain ⟨⟨hx, hb, hml, hown, hts⟩, hK⟩ := id C
  have hl : lv_has ls 4 [(0, .ref (xN X + t)), (1, .int a1), (2, .int a2), (3, .int a3)] := hl
  unfold fX9_lay at h
  refine lv_aload_n hx hb dX9_lay_0 rfl (lv_at hl 0 rfl) ?_
  refine lv_iload_n hx hb dX9_lay_1 rfl (lv_at hl 1 rfl) ?_
  refine lv_iload_n hx hb dX9_lay_2 rfl (lv_at hl 2 rfl) ?_
  refine lv_iload_n hx hb dX9_lay_3 rfl (lv_at hl 3 rfl) ?_
  obtain ⟨v1, e_v1, h⟩ := g_bind h
  refine g_calli (g_runV (n := 3) (As := [.int a1, .int a2, .int a3]) (rest := []) C G (mX9_isLaying l X σ t a1 a2 a3 v1 ok e_v1) ok.1.2 (gE_9 ok.1.1) rfl (g_goodV u_ml_RX9_111 u_im_yX9_isLaying u_se_yX9_isLaying u_in_RX9 u_co_yX9_isLaying) rfl rfl rfl (by decide +kernel) ⟨Nat.le_of_ble_eq_true rfl, Nat.le_of_ble_eq_true rfl⟩ rfl hl.1 rfl (Nat.le_of_ble_eq_true rfl) dX9_lay_4 ⟨Nat.zero_le _, Nat.zero_le _⟩) G (fun H locs G => ?_)
  refine lv_if_ne (tgt := 14) hx hb dX9_lay_7 (by decide) (fun c2 => ?_) (fun c2 => ?_)
  · have h := g_if h c2
    refine lv_aload_n hx hb dX9_lay_14 rfl (lv_at hl 0 rfl) ?_
    refine lv_iload_n hx hb dX9_lay_15 rfl (lv_at hl 1 rfl) ?_
    obtain ⟨v3, e_v3, h⟩ := g_bind h
    refine g_calli (g_runV (n := 1) (As := [.int a1]) (rest := []) C G (mX9_isOn l X σ t a1 v3 ok e_v3) ok.1.2 (gE_9 ok.1.1) rfl (g_goodV u_ml_RX9_76 u_im_yX9_isOn u_se_yX9_isOn u_in_RX9 u_co_yX9_isOn) rfl rfl rfl (by decide +kernel) ⟨Nat.le_of_ble_eq_true rfl, Nat.le_of_ble_eq_true rfl⟩ rfl hl.1 rfl (Nat.le_of_ble_eq_true rfl) dX9_lay_16 ⟨Nat.zero_le _, Nat.zero_le _⟩) G (fun H locs G => ?_)
    refine lv_if_ne (tgt := 41) hx hb dX9_lay_19 (by decide) (fun c4 => ?_) (fun c4 => ?_)
    · have h := g_if h c4
      refine lv_sipush (v := (-1002)) hx hb dX9_lay_41 (by decide) ?_
      exact ret dX9_lay_44 rfl G (Prod.mk.inj (Option.some.inj h))
    · have h := g_it h c4
      refine lv_aload_n hx hb dX9_lay_22 rfl (lv_at hl 0 rfl) ?_
      refine lv_iload_n hx hb dX9_lay_23 rfl (lv_at hl 2 rfl) ?_
      obtain ⟨v5, e_v5, h⟩ := g_bind h
      refine g_calli (g_runV (n := 1) (As := [.int a2]) (rest := []) C G (mX9_scrapAt l X σ t a2 v5 ok e_v5) ok.1.2 (gE_9 ok.1.1) rfl (g_goodV u_ml_RX9_66 u_im_yX9_scrapAt u_se_yX9_scrapAt u_in_RX9 u_co_yX9_scrapAt) rfl rfl rfl (by decide +kernel) ⟨Nat.le_of_ble_eq_true rfl, Nat.le_of_ble_eq_true rfl⟩ rfl hl.1 rfl (Nat.le_of_ble_eq_true rfl) dX9_lay_24 ⟨Nat.zero_le _, Nat.zero_le _⟩) G (fun H locs G => ?_)
      refine lv_iconst (v := (-1)) hx hb dX9_lay_27 (by decide) ?_
      refine lv_icmp_ne (tgt := 41) hx hb dX9_lay_28 (by decide) (fun c6 => ?_) (fun c6 => ?_)
      · have h := g_if h c6
        refine lv_sipush (v := (-1002)) hx hb dX9_lay_41 (by decide) ?_
        exact ret dX9_lay_44 rfl G (Prod.mk.inj (Option.some.inj h))
      · have h := g_it h c6
        refine lv_aload_n hx hb dX9_lay_31 rfl (lv_at hl 0 rfl) ?_
        refine lv_iload_n hx hb dX9_lay_32 rfl (lv_at hl 1 rfl) ?_
        refine lv_iload_n hx hb dX9_lay_33 rfl (lv_at hl 2 rfl) ?_
        refine lv_iload_n hx hb dX9_lay_34 rfl (lv_at hl 3 rfl) ?_
        obtain ⟨⟨v7, σ8⟩, e_v7, h⟩ := g_bind h
        have h := g_let2 (v := v7) rfl h
        have h := g_let2 (v := σ8) rfl h
        refine g_calli (g_runV (n := 3) (As := [.int a1, .int a2, .int a3]) (rest := []) C G (mX9_canLie l X σ σ8 t a1 a2 a3 v7 ok e_v7) ok.1.2 (gE_9 ok.1.1) rfl (g_goodV u_ml_RX9_114 u_im_yX9_canLie u_se_yX9_canLie u_in_RX9 u_co_yX9_canLie) rfl rfl rfl (by decide +kernel) ⟨Nat.le_of_ble_eq_true rfl, Nat.le_of_ble_eq_true rfl⟩ rfl hl.1 rfl (Nat.le_of_ble_eq_true rfl) dX9_lay_35 ⟨Nat.zero_le _, Nat.zero_le _⟩) G (fun H locs G => ?_)
        refine lv_if_ne (tgt := 45) hx hb dX9_lay_38 (by decide) (fun c9 => ?_) (fun c9 => ?_)
        · have h := g_if h c9
          refine lv_aload_n hx hb dX9_lay_45 rfl (lv_at hl 0 rfl) ?_
          obtain ⟨σ11, e_σ11, h⟩ := g_bind h
          refine g_callv (g_runV (n := 0) (As := []) (rest := []) C G (mX9_records l X σ8 σ11 t ok e_σ11) ok.1.2 (gE_9 ok.1.1) rfl (g_goodV u_ml_RX9_73 u_im_yX9_records u_se_yX9_records u_in_RX9 u_co_yX9_records) rfl rfl rfl (by decide +kernel) ⟨Nat.le_of_ble_eq_true rfl, Nat.le_of_ble_eq_true rfl⟩ rfl hl.1 rfl (Nat.le_of_ble_eq_true rfl) dX9_lay_46 ⟨Nat.zero_le _, Nat.zero_le _⟩) G (fun H locs G => ?_)
          refine lv_aload_n hx hb dX9_lay_49 rfl (lv_at hl 0 rfl) ?_
          refine lv_iload_n hx hb dX9_lay_50 rfl (lv_at hl 1 rfl) ?_
          refine lv_iload_n hx hb dX9_lay_51 rfl (lv_at hl 2 rfl) ?_
          refine lv_iload_n hx hb dX9_lay_52 rfl (lv_at hl 3 rfl) ?_
          obtain ⟨σ13, e_σ13, h⟩ := g_bind h
          refine g_callv (g_runV (n := 3) (As := [.int a1, .int a2, .int a3]) (rest := []) C G (mX9_puts l X σ11 σ13 t a1 a2 a3 ok e_σ13) ok.1.2 (gE_9 ok.1.1) rfl (g_goodV u_ml_RX9_117 u_im_yX9_puts u_se_yX9_puts u_in_RX9 u_co_yX9_puts) rfl rfl rfl (by decide +kernel) ⟨Nat.le_of_ble_eq_true rfl, Nat.le_of_ble_eq_true rfl⟩ rfl hl.1 rfl (Nat.le_of_ble_eq_true rfl) dX9_lay_53 ⟨Nat.zero_le _, Nat.zero_le _⟩) G (fun H locs G => ?_)
          refine lv_aload_n hx hb dX9_lay_56 rfl (lv_at hl 0 rfl) ?_
          refine lv_iload_n hx hb dX9_lay_57 rfl (lv_at hl 1 rfl) ?_
          refine lv_iload_n hx hb dX9_lay_58 rfl (lv_at hl 2 rfl) ?_
          obtain ⟨v14, e_v14, h⟩ := g_bind h
          refine g_calli (g_runV (n := 2) (As := [.int a1, .int a2]) (rest := []) C G (mX9_seams l X σ13 t a1 a2 v14 ok e_v14) ok.1.2 (gE_9 ok.1.1) rfl (g_goodV u_ml_RX9_121 u_im_yX9_seams u_se_yX9_seams u_in_RX9 u_co_yX9_seams) rfl rfl rfl (by decide +kernel) ⟨Nat.le_of_ble_eq_true rfl, Nat.le_of_ble_eq_true rfl⟩ rfl hl.1 rfl (Nat.le_of_ble_eq_true rfl) dX9_lay_59 ⟨Nat.zero_le _, Nat.zero_le _⟩) G (fun H locs G => ?_)
          exact ret dX9_lay_62 rfl G (Prod.mk.inj (Option.some.inj h))
        · have h := g_it h c9
          refine lv_sipush (v := (-1002)) hx hb dX9_lay_41 (by decide) ?_
          exact ret dX9_lay_44 rfl G (Prod.mk.inj (Option.some.inj h))
  · have h := g_it h c2
    refine lv_sipush (v := (-1001)) hx hb dX9_lay_10 (by decide) ?_
    exact ret dX9_lay_13 rfl G (Prod.mk.inj (Option.some.inj h))

def fX9_force (σ : gM) (t : Nat) (a1 : Int32) (a2 : Int32) (a3 : Int32) : Option (Int32 × gM) :=
  ((fX9_isLaying σ t a1 a2 a3).bind fun v1 =>
  (if v1 = 0 then
    some ((-1001), σ)
  else
    ((fX9_isOn σ t a1).bind fun v3 =>
    (if v3 = 0 then
      ((fX9_scrapAt σ t a2).bind fun v5 =>
      (if v5 = (-1) then
        ((fX9_records σ t).bind fun σ8 =>
        ((fX9_puts σ8 t a1 a2 a3).bind fun σ10 =>
        ((fX9_fits σ10 t a1 a2 a3 0).bind fun pv11 => gl pv11.1 fun v11 => gl pv11.2 fun σ12 =>
        some (v11, σ12))))
      else
        some ((-1002), σ)))
    else
      some ((-1002), σ)))))
set_option maxHeartbeats 4000000 in
set_option maxRecDepth 100000 in
theorem mX9_force (l : Launch) (X : gX) (σ σ' : gM) (t : Nat) (a1 : Int32) (a2 : Int32) (a3 : Int32) (r : Int32) (ok : gok9 X t) (h : fX9_force σ t a1 a2 a3 = some (r, σ')) : Met l yX9_force (Cond.code yX9_force cX9_force 4 (some .int) :: gBig) ({ frames := 5, cells := 0, slots := 0, locals := 126 }) (gPc X σ [.ref (xN X + t), .int a1, .int a2, .int a3]) (gQi X σ' r) 0 0 (xA X) := by
  refine g_meti (cc := cX9_force) (maxL := 4) (own := RX9) (by decide) rfl rfl (Nat.le_of_ble_eq_true rfl) ?_
  intro p ev s m args below meth c Q C G ret ls hl
  obtain ⟨⟨hx, hb, hml, hown, hts⟩, hK⟩ := id C
  have hl : lv_has ls 4 [(0, .ref (xN X + t)), (1, .int a1), (2, .int a2), (3, .int a3)] := hl
  unfold fX9_force at h
  refine lv_aload_n hx hb dX9_force_0 rfl (lv_at hl 0 rfl) ?_
  refine lv_iload_n hx hb dX9_force_1 rfl (lv_at hl 1 rfl) ?_
  refine lv_iload_n hx hb dX9_force_2 rfl (lv_at hl 2 rfl) ?_
  refine lv_iload_n hx hb dX9_force_3 rfl (lv_at hl 3 rfl) ?_
  obtain ⟨v1, e_v1, h⟩ := g_bind h
  refine g_calli (g_runV (n := 3) (As := [.int a1, .int a2, .int a3]) (rest := []) C G (mX9_isLaying l X σ t a1 a2 a3 v1 ok e_v1) ok.1.2 (gE_9 ok.1.1) rfl (g_goodV u_ml_RX9_111 u_im_yX9_isLaying u_se_yX9_isLaying u_in_RX9 u_co_yX9_isLaying) rfl rfl rfl (by decide +kernel) ⟨Nat.le_of_ble_eq_true rfl, Nat.le_of_ble_eq_true rfl⟩ rfl hl.1 rfl (Nat.le_of_ble_eq_true rfl) dX9_force_4 ⟨Nat.zero_le _, Nat.zero_le _⟩) G (fun H locs G => ?_)
  refine lv_if_ne (tgt := 14) hx hb dX9_force_7 (by decide) (fun c2 => ?_) (fun c2 => ?_)
  · have h := g_if h c2
    refine lv_aload_n hx hb dX9_force_14 rfl (lv_at hl 0 rfl) ?_
    refine lv_iload_n hx hb dX9_force_15 rfl (lv_at hl 1 rfl) ?_
    obtain ⟨v3, e_v3, h⟩ := g_bind h
    refine g_calli (g_runV (n := 1) (As := [.int a1]) (rest := []) C G (mX9_isOn l X σ t a1 v3 ok e_v3) ok.1.2 (gE_9 ok.1.1) rfl (g_goodV u_ml_RX9_76 u_im_yX9_isOn u_se_yX9_isOn u_in_RX9 u_co_yX9_isOn) rfl rfl rfl (by decide +kernel) ⟨Nat.le_of_ble_eq_true rfl, Nat.le_of_ble_eq_true rfl⟩ rfl hl.1 rfl (Nat.le_of_ble_eq_true rfl) dX9_force_16 ⟨Nat.zero_le _, Nat.zero_le _⟩) G (fun H locs G => ?_)
    refine lv_if_ne (tgt := 31) hx hb dX9_force_19 (by decide) (fun c4 => ?_) (fun c4 => ?_)
    · have h := g_if h c4
      refine lv_sipush (v := (-1002)) hx hb dX9_force_31 (by decide) ?_
      exact ret dX9_force_34 rfl G (Prod.mk.inj (Option.some.inj h))
    · have h := g_it h c4
      refine lv_aload_n hx hb dX9_force_22 rfl (lv_at hl 0 rfl) ?_
      refine lv_iload_n hx hb dX9_force_23 rfl (lv_at hl 2 rfl) ?_
      obtain ⟨v5, e_v5, h⟩ := g_bind h
      refine g_calli (g_runV (n := 1) (As := [.int a2]) (rest := []) C G (mX9_scrapAt l X σ t a2 v5 ok e_v5) ok.1.2 (gE_9 ok.1.1) rfl (g_goodV u_ml_RX9_66 u_im_yX9_scrapAt u_se_yX9_scrapAt u_in_RX9 u_co_yX9_scrapAt) rfl rfl rfl (by decide +kernel) ⟨Nat.le_of_ble_eq_true rfl, Nat.le_of_ble_eq_true rfl⟩ rfl hl.1 rfl (Nat.le_of_ble_eq_true rfl) dX9_force_24 ⟨Nat.zero_le _, Nat.zero_le _⟩) G (fun H locs G => ?_)
      refine lv_iconst (v := (-1)) hx hb dX9_force_27 (by decide) ?_
      refine lv_icmp_eq (tgt := 35) hx hb dX9_force_28 (by decide) (fun c6 => ?_) (fun c6 => ?_)
      · have h := g_it h c6
        refine lv_aload_n hx hb dX9_force_35 rfl (lv_at hl 0 rfl) ?_
        obtain ⟨σ8, e_σ8, h⟩ := g_bind h
        refine g_callv (g_runV (n := 0) (As := []) (rest := []) C G (mX9_records l X σ σ8 t ok e_σ8) ok.1.2 (gE_9 ok.1.1) rfl (g_goodV u_ml_RX9_73 u_im_yX9_records u_se_yX9_records u_in_RX9 u_co_yX9_records) rfl rfl rfl (by decide +kernel) ⟨Nat.le_of_ble_eq_true rfl, Nat.le_of_ble_eq_true rfl⟩ rfl hl.1 rfl (Nat.le_of_ble_eq_true rfl) dX9_force_36 ⟨Nat.zero_le _, Nat.zero_le _⟩) G (fun H locs G => ?_)
        refine lv_aload_n hx hb dX9_force_39 rfl (lv_at hl 0 rfl) ?_
        refine lv_iload_n hx hb dX9_force_40 rfl (lv_at hl 1 rfl) ?_
        refine lv_iload_n hx hb dX9_force_41 rfl (lv_at hl 2 rfl) ?_
        refine lv_iload_n hx hb dX9_force_42 rfl (lv_at hl 3 rfl) ?_
        obtain ⟨σ10, e_σ10, h⟩ := g_bind h
        refine g_callv (g_runV (n := 3) (As := [.int a1, .int a2, .int a3]) (rest := []) C G (mX9_puts l X σ8 σ10 t a1 a2 a3 ok e_σ10) ok.1.2 (gE_9 ok.1.1) rfl (g_goodV u_ml_RX9_117 u_im_yX9_puts u_se_yX9_puts u_in_RX9 u_co_yX9_puts) rfl rfl rfl (by decide +kernel) ⟨Nat.le_of_ble_eq_true rfl, Nat.le_of_ble_eq_true rfl⟩ rfl hl.1 rfl (Nat.le_of_ble_eq_true rfl) dX9_force_43 ⟨Nat.zero_le _, Nat.zero_le _⟩) G (fun H locs G => ?_)
        refine lv_aload_n hx hb dX9_force_46 rfl (lv_at hl 0 rfl) ?_
        refine lv_iload_n hx hb dX9_force_47 rfl (lv_at hl 1 rfl) ?_
        refine lv_iload_n hx hb dX9_force_48 rfl (lv_at hl 2 rfl) ?_
        refine lv_iload_n hx hb dX9_force_49 rfl (lv_at hl 3 rfl) ?_
        refine lv_iconst (v := 0) hx hb dX9_force_50 (by decide) ?_
        obtain ⟨⟨v11, σ12⟩, e_v11, h⟩ := g_bind h
        have h := g_let2 (v := v11) rfl h
        have h := g_let2 (v := σ12) rfl h
        refine g_calli (g_runV (n := 4) (As := [.int a1, .int a2, .int a3, .int 0]) (rest := []) C G (mX9_fits l X σ10 σ12 t a1 a2 a3 0 v11 ok e_v11) ok.1.2 (gE_9 ok.1.1) rfl (g_goodV u_ml_RX9_92 u_im_yX9_fits u_se_yX9_fits u_in_RX9 u_co_yX9_fits) rfl rfl rfl (by decide +kernel) ⟨Nat.le_of_ble_eq_true rfl, Nat.le_of_ble_eq_true rfl⟩ rfl hl.1 rfl (Nat.le_of_ble_eq_true rfl) dX9_force_51 ⟨Nat.zero_le _, Nat.zero_le _⟩) G (fun H locs G => ?_)
        exact ret dX9_force_54 rfl G (Prod.mk.inj (Option.some.inj h))
      · have h := g_if h c6
        refine lv_sipush (v := (-1002)) hx hb dX9_force_31 (by decide) ?_
        exact ret dX9_force_34 rfl G (Prod.mk.inj (Option.some.inj h))
  · have h := g_it h c2
    refine lv_sipush (v := (-1001)) hx hb dX9_force_10 (by decide) ?_
    exact ret dX9_force_13 rfl G (Prod.mk.inj (Option.some.inj h))

def fX9_lift (σ : gM) (t : Nat) (a1 : Int32) : Option (Int32 × gM) :=
  ((fX9_isScrap σ t a1).bind fun v1 =>
  (if v1 = 0 then
    some ((-1001), σ)
  else
    ((fX9_isOn σ t a1).bind fun v3 =>
    (if v3 = 0 then
      some ((-1002), σ)
    else
      ((fX9_records σ t).bind fun σ6 =>
      (if ¬ ((123 + a1) < 0 ∨ gln (t + 1) ≤ (123 + a1).toNatClampNeg) then
      (gl (σ6 (t + 1) (123 + a1).toNatClampNeg) fun w8 =>
      ((fX9_puts σ6 t a1 (-1) 0).bind fun σ10 =>
      some (w8, σ10)))
      else none))))))
set_option maxHeartbeats 4000000 in
set_option maxRecDepth 100000 in
theorem mX9_lift (l : Launch) (X : gX) (σ σ' : gM) (t : Nat) (a1 : Int32) (r : Int32) (ok : gok9 X t) (h : fX9_lift σ t a1 = some (r, σ')) : Met l yX9_lift (Cond.code yX9_lift cX9_lift 3 (some .int) :: gBig) ({ frames := 2, cells := 0, slots := 0, locals := 43 }) (gPc X σ [.ref (xN X + t), .int a1]) (gQi X σ' r) 0 0 (xA X) := by
  refine g_meti (cc := cX9_lift) (maxL := 3) (own := RX9) (by decide) rfl rfl (Nat.le_of_ble_eq_true rfl) ?_
  intro p ev s m args below meth c Q C G ret ls hl
  obtain ⟨⟨hx, hb, hml, hown, hts⟩, hK⟩ := id C
  have hl : lv_has ls 3 [(0, .ref (xN X + t)), (1, .int a1)] := hl
  unfold fX9_lift at h
  refine lv_aload_n hx hb dX9_lift_0 rfl (lv_at hl 0 rfl) ?_
  refine lv_iload_n hx hb dX9_lift_1 rfl (lv_at hl 1 rfl) ?_
  obtain ⟨v1, e_v1, h⟩ := g_bind h
  refine g_calli (g_runV (n := 1) (As := [.int a1]) (rest := []) C G (mX9_isScrap l X σ t a1 v1 ok e_v1) ok.1.2 (gE_9 ok.1.1) rfl (g_goodV u_ml_RX9_86 u_im_yX9_isScrap u_se_yX9_isScrap u_in_RX9 u_co_yX9_isScrap) rfl rfl rfl (by decide +kernel) ⟨Nat.le_of_ble_eq_true rfl, Nat.le_of_ble_eq_true rfl⟩ rfl hl.1 rfl (Nat.le_of_ble_eq_true rfl) dX9_lift_2 ⟨Nat.zero_le _, Nat.zero_le _⟩) G (fun H locs G => ?_)
  refine lv_if_ne (tgt := 12) hx hb dX9_lift_5 (by decide) (fun c2 => ?_) (fun c2 => ?_)
  · have h := g_if h c2
    refine lv_aload_n hx hb dX9_lift_12 rfl (lv_at hl 0 rfl) ?_
    refine lv_iload_n hx hb dX9_lift_13 rfl (lv_at hl 1 rfl) ?_
    obtain ⟨v3, e_v3, h⟩ := g_bind h
    refine g_calli (g_runV (n := 1) (As := [.int a1]) (rest := []) C G (mX9_isOn l X σ t a1 v3 ok e_v3) ok.1.2 (gE_9 ok.1.1) rfl (g_goodV u_ml_RX9_76 u_im_yX9_isOn u_se_yX9_isOn u_in_RX9 u_co_yX9_isOn) rfl rfl rfl (by decide +kernel) ⟨Nat.le_of_ble_eq_true rfl, Nat.le_of_ble_eq_true rfl⟩ rfl hl.1 rfl (Nat.le_of_ble_eq_true rfl) dX9_lift_14 ⟨Nat.zero_le _, Nat.zero_le _⟩) G (fun H locs G => ?_)
    refine lv_if_ne (tgt := 24) hx hb dX9_lift_17 (by decide) (fun c4 => ?_) (fun c4 => ?_)
    · have h := g_if h c4
      refine lv_aload_n hx hb dX9_lift_24 rfl (lv_at hl 0 rfl) ?_
      obtain ⟨σ6, e_σ6, h⟩ := g_bind h
      refine g_callv (g_runV (n := 0) (As := []) (rest := []) C G (mX9_records l X σ σ6 t ok e_σ6) ok.1.2 (gE_9 ok.1.1) rfl (g_goodV u_ml_RX9_73 u_im_yX9_records u_se_yX9_records u_in_RX9 u_co_yX9_records) rfl rfl rfl (by decide +kernel) ⟨Nat.le_of_ble_eq_true rfl, Nat.le_of_ble_eq_true rfl⟩ rfl hl.1 rfl (Nat.le_of_ble_eq_true rfl) dX9_lift_25 ⟨Nat.zero_le _, Nat.zero_le _⟩) G (fun H locs G => ?_)
      refine lv_aload_n hx hb dX9_lift_28 rfl (lv_at hl 0 rfl) ?_
      refine gg9_0 C G ok.1 ok.2.1.1 u_fl_RX9_7 dX9_lift_29 ?_
      refine lv_bipush (v := 123) hx hb dX9_lift_32 (by decide) ?_
      refine lv_iload_n hx hb dX9_lift_34 rfl (lv_at hl 1 rfl) ?_
      refine lv_iadd hx hb dX9_lift_35 ?_
      obtain ⟨c7, h⟩ := g_chk h
      refine g_iald C G ok.2.2.1 c7 dX9_lift_36 ?_
      refine lv_topi (fun w8 e_w8 => ?_)
      have h := g_let2 e_w8 h
      refine lv_istore_n (lv' := [(2, .int w8), (0, .ref (xN X + t)), (1, .int a1)]) hx hb dX9_lift_37 rfl hl (by decide) rfl (fun ls hl => ?_)
      refine lv_aload_n hx hb dX9_lift_38 rfl (lv_at hl 1 rfl) ?_
      refine lv_iload_n hx hb dX9_lift_39 rfl (lv_at hl 2 rfl) ?_
      refine lv_iconst (v := (-1)) hx hb dX9_lift_40 (by decide) ?_
      refine lv_iconst (v := 0) hx hb dX9_lift_41 (by decide) ?_
      obtain ⟨σ10, e_σ10, h⟩ := g_bind h
      refine g_callv (g_runV (n := 3) (As := [.int a1, .int (-1), .int 0]) (rest := []) C G (mX9_puts l X σ6 σ10 t a1 (-1) 0 ok e_σ10) ok.1.2 (gE_9 ok.1.1) rfl (g_goodV u_ml_RX9_117 u_im_yX9_puts u_se_yX9_puts u_in_RX9 u_co_yX9_puts) rfl rfl rfl (by decide +kernel) ⟨Nat.le_of_ble_eq_true rfl, Nat.le_of_ble_eq_true rfl⟩ rfl hl.1 rfl (Nat.le_of_ble_eq_true rfl) dX9_lift_42 ⟨Nat.zero_le _, Nat.zero_le _⟩) G (fun H locs G => ?_)
      refine lv_iload_n hx hb dX9_lift_45 rfl (lv_at hl 0 rfl) ?_
      exact ret dX9_lift_46 rfl G (Prod.mk.inj (Option.some.inj h))
    · have h := g_it h c4
      refine lv_sipush (v := (-1002)) hx hb dX9_lift_20 (by decide) ?_
      exact ret dX9_lift_23 rfl G (Prod.mk.inj (Option.some.inj h))
  · have h := g_it h c2
    refine lv_sipush (v := (-1001)) hx hb dX9_lift_8 (by decide) ?_
    exact ret dX9_lift_11 rfl G (Prod.mk.inj (Option.some.inj h))

def fX9_turn (σ : gM) (t : Nat) (a1 : Int32) (a2 : Int32) : Option (Int32 × gM) :=
  ((fX9_isScrap σ t a1).bind fun v1 =>
  (if v1 = 0 then
    some ((-1001), σ)
  else
    ((fX9_in σ a2 0 7).bind fun v3 =>
    (if v3 = 0 then
      some ((-1001), σ)
    else
      ((fX9_isOn σ t a1).bind fun v5 =>
      (if v5 = 0 then
        some ((-1002), σ)
      else
        ((fX9_records σ t).bind fun σ8 =>
        (if ¬ ((111 + a1) < 0 ∨ gln (t + 1) ≤ (111 + a1).toNatClampNeg) then
        (gl (gset σ8 (t + 1) (upd (σ8 (t + 1)) (111 + a1).toNatClampNeg a2)) fun σ10 =>
        (if ¬ ((123 + a1) < 0 ∨ gln (t + 1) ≤ (123 + a1).toNatClampNeg) then
        ((fX9_fits σ10 t a1 (σ10 (t + 1) (123 + a1).toNatClampNeg) a2 0).bind fun pv12 => gl pv12.1 fun v12 => gl pv12.2 fun σ13 =>
        some (v12, σ13))
        else none))
        else none))))))))
set_option maxHeartbeats 4000000 in
set_option maxRecDepth 100000 in
theorem mX9_turn (l : Launch) (X : gX) (σ σ' : gM) (t : Nat) (a1 : Int32) (a2 : Int32) (r : Int32) (ok : gok9 X t) (h : fX9_turn σ t a1 a2 = some (r, σ')) : Met l yX9_turn (Cond.code yX9_turn cX9_turn 3 (some .int) :: gBig) ({ frames := 5, cells := 0, slots := 0, locals := 126 }) (gPc X σ [.ref (xN X + t), .int a1, .int a2]) (gQi X σ' r) 0 0 (xA X) := by
  refine g_meti (cc := cX9_turn) (maxL := 3) (own := RX9) (by decide) rfl rfl (Nat.le_of_ble_eq_true rfl) ?_
  intro p ev s m args below meth c Q C G ret ls hl
  obtain ⟨⟨hx, hb, hml, hown, hts⟩, hK⟩ := id C
  have hl : lv_has ls 3 [(0, .ref (xN X + t)), (1, .int a1), (2, .int a2)] := hl
  unfold fX9_turn at h
  refine lv_aload_n hx hb dX9_turn_0 rfl (lv_at hl 0 rfl) ?_
  refine lv_iload_n hx hb dX9_turn_1 rfl (lv_at hl 1 rfl) ?_
  obtain ⟨v1, e_v1, h⟩ := g_bind h
  refine g_calli (g_runV (n := 1) (As := [.int a1]) (rest := []) C G (mX9_isScrap l X σ t a1 v1 ok e_v1) ok.1.2 (gE_9 ok.1.1) rfl (g_goodV u_ml_RX9_86 u_im_yX9_isScrap u_se_yX9_isScrap u_in_RX9 u_co_yX9_isScrap) rfl rfl rfl (by decide +kernel) ⟨Nat.le_of_ble_eq_true rfl, Nat.le_of_ble_eq_true rfl⟩ rfl hl.1 rfl (Nat.le_of_ble_eq_true rfl) dX9_turn_2 ⟨Nat.zero_le _, Nat.zero_le _⟩) G (fun H locs G => ?_)
  refine lv_if_eq (tgt := 18) hx hb dX9_turn_5 (by decide) (fun c2 => ?_) (fun c2 => ?_)
  · have h := g_it h c2
    refine lv_sipush (v := (-1001)) hx hb dX9_turn_18 (by decide) ?_
    exact ret dX9_turn_21 rfl G (Prod.mk.inj (Option.some.inj h))
  · have h := g_if h c2
    refine lv_iload_n hx hb dX9_turn_8 rfl (lv_at hl 2 rfl) ?_
    refine lv_iconst (v := 0) hx hb dX9_turn_9 (by decide) ?_
    refine lv_bipush (v := 7) hx hb dX9_turn_10 (by decide) ?_
    obtain ⟨v3, e_v3, h⟩ := g_bind h
    refine g_calli (g_runS (n := 3) (As := [.int a2, .int 0, .int 7]) (rest := []) C G (mX9_in l X σ a2 0 7 v3 e_v3) (g_goodS u_ml_RX9_38 u_st_yX9_in u_in_RX9 u_co_yX9_in) rfl rfl rfl (by decide +kernel) ⟨Nat.le_of_ble_eq_true rfl, Nat.le_of_ble_eq_true rfl⟩ rfl hl.1 rfl (Nat.le_of_ble_eq_true rfl) dX9_turn_12 ⟨Nat.zero_le _, Nat.zero_le _⟩) G (fun H locs G => ?_)
    refine lv_if_ne (tgt := 22) hx hb dX9_turn_15 (by decide) (fun c4 => ?_) (fun c4 => ?_)
    · have h := g_if h c4
      refine lv_aload_n hx hb dX9_turn_22 rfl (lv_at hl 0 rfl) ?_
      refine lv_iload_n hx hb dX9_turn_23 rfl (lv_at hl 1 rfl) ?_
      obtain ⟨v5, e_v5, h⟩ := g_bind h
      refine g_calli (g_runV (n := 1) (As := [.int a1]) (rest := []) C G (mX9_isOn l X σ t a1 v5 ok e_v5) ok.1.2 (gE_9 ok.1.1) rfl (g_goodV u_ml_RX9_76 u_im_yX9_isOn u_se_yX9_isOn u_in_RX9 u_co_yX9_isOn) rfl rfl rfl (by decide +kernel) ⟨Nat.le_of_ble_eq_true rfl, Nat.le_of_ble_eq_true rfl⟩ rfl hl.1 rfl (Nat.le_of_ble_eq_true rfl) dX9_turn_24 ⟨Nat.zero_le _, Nat.zero_le _⟩) G (fun H locs G => ?_)
      refine lv_if_ne (tgt := 34) hx hb dX9_turn_27 (by decide) (fun c6 => ?_) (fun c6 => ?_)
      · have h := g_if h c6
        refine lv_aload_n hx hb dX9_turn_34 rfl (lv_at hl 0 rfl) ?_
        obtain ⟨σ8, e_σ8, h⟩ := g_bind h
        refine g_callv (g_runV (n := 0) (As := []) (rest := []) C G (mX9_records l X σ σ8 t ok e_σ8) ok.1.2 (gE_9 ok.1.1) rfl (g_goodV u_ml_RX9_73 u_im_yX9_records u_se_yX9_records u_in_RX9 u_co_yX9_records) rfl rfl rfl (by decide +kernel) ⟨Nat.le_of_ble_eq_true rfl, Nat.le_of_ble_eq_true rfl⟩ rfl hl.1 rfl (Nat.le_of_ble_eq_true rfl) dX9_turn_35 ⟨Nat.zero_le _, Nat.zero_le _⟩) G (fun H locs G => ?_)
        refine lv_aload_n hx hb dX9_turn_38 rfl (lv_at hl 0 rfl) ?_
        refine gg9_0 C G ok.1 ok.2.1.1 u_fl_RX9_7 dX9_turn_39 ?_
        refine lv_bipush (v := 111) hx hb dX9_turn_42 (by decide) ?_
        refine lv_iload_n hx hb dX9_turn_44 rfl (lv_at hl 1 rfl) ?_
        refine lv_iadd hx hb dX9_turn_45 ?_
        refine lv_iload_n hx hb dX9_turn_46 rfl (lv_at hl 2 rfl) ?_
        obtain ⟨c9, h⟩ := g_chk h
        obtain ⟨σ10, e_σ10, h⟩ := g_let h
        refine g_iast C G ok.2.2.1 c9 dX9_turn_47 (fun H locs G => ?_)
        rw [e_σ10] at G
        refine lv_aload_n hx hb dX9_turn_48 rfl (lv_at hl 0 rfl) ?_
        refine lv_iload_n hx hb dX9_turn_49 rfl (lv_at hl 1 rfl) ?_
        refine lv_aload_n hx hb dX9_turn_50 rfl (lv_at hl 0 rfl) ?_
        refine gg9_0 C G ok.1 ok.2.1.1 u_fl_RX9_7 dX9_turn_51 ?_
        refine lv_bipush (v := 123) hx hb dX9_turn_54 (by decide) ?_
        refine lv_iload_n hx hb dX9_turn_56 rfl (lv_at hl 1 rfl) ?_
        refine lv_iadd hx hb dX9_turn_57 ?_
        obtain ⟨c11, h⟩ := g_chk h
        refine g_iald C G ok.2.2.1 c11 dX9_turn_58 ?_
        refine lv_iload_n hx hb dX9_turn_59 rfl (lv_at hl 2 rfl) ?_
        refine lv_iconst (v := 0) hx hb dX9_turn_60 (by decide) ?_
        obtain ⟨⟨v12, σ13⟩, e_v12, h⟩ := g_bind h
        have h := g_let2 (v := v12) rfl h
        have h := g_let2 (v := σ13) rfl h
        refine g_calli (g_runV (n := 4) (As := [.int a1, .int (σ10 (t + 1) (123 + a1).toNatClampNeg), .int a2, .int 0]) (rest := []) C G (mX9_fits l X σ10 σ13 t a1 (σ10 (t + 1) (123 + a1).toNatClampNeg) a2 0 v12 ok e_v12) ok.1.2 (gE_9 ok.1.1) rfl (g_goodV u_ml_RX9_92 u_im_yX9_fits u_se_yX9_fits u_in_RX9 u_co_yX9_fits) rfl rfl rfl (by decide +kernel) ⟨Nat.le_of_ble_eq_true rfl, Nat.le_of_ble_eq_true rfl⟩ rfl hl.1 rfl (Nat.le_of_ble_eq_true rfl) dX9_turn_61 ⟨Nat.zero_le _, Nat.zero_le _⟩) G (fun H locs G => ?_)
        exact ret dX9_turn_64 rfl G (Prod.mk.inj (Option.some.inj h))
      · have h := g_it h c6
        refine lv_sipush (v := (-1002)) hx hb dX9_turn_30 (by decide) ?_
        exact ret dX9_turn_33 rfl G (Prod.mk.inj (Option.some.inj h))
    · have h := g_it h c4
      refine lv_sipush (v := (-1001)) hx hb dX9_turn_18 (by decide) ?_
      exact ret dX9_turn_21 rfl G (Prod.mk.inj (Option.some.inj h))

def fX9_at (σ : gM) (t : Nat) (a1 : Int32) : Option (Int32) :=
  ((fX9_isPlace σ t a1).bind fun v1 =>
  (if v1 = 0 then
    some (-1001)
  else
    ((fX9_scrapAt σ t a1).bind fun v3 =>
    (if v3 = (-1) then
      some (-1004)
    else
      some v3))))
set_option maxHeartbeats 4000000 in
set_option maxRecDepth 100000 in
theorem mX9_at (l : Launch) (X : gX) (σ : gM) (t : Nat) (a1 : Int32) (r : Int32) (ok : gok9 X t) (h : fX9_at σ t a1 = some r) : Met l yX9_at (Cond.code yX9_at cX9_at 3 (some .int) :: gBig) ({ frames := 2, cells := 0, slots := 0, locals := 43 }) (gPc X σ [.ref (xN X + t), .int a1]) (gQi X σ r) 0 0 (xA X) := by
  refine g_meti (cc := cX9_at) (maxL := 3) (own := RX9) (by decide) rfl rfl (Nat.le_of_ble_eq_true rfl) ?_
  intro p ev s m args below meth c Q C G ret ls hl
  obtain ⟨⟨hx, hb, hml, hown, hts⟩, hK⟩ := id C
  have hl : lv_has ls 3 [(0, .ref (xN X + t)), (1, .int a1)] := hl
  unfold fX9_at at h
  refine lv_aload_n hx hb dX9_at_0 rfl (lv_at hl 0 rfl) ?_
  refine lv_iload_n hx hb dX9_at_1 rfl (lv_at hl 1 rfl) ?_
  obtain ⟨v1, e_v1, h⟩ := g_bind h
  refine g_calli (g_runV (n := 1) (As := [.int a1]) (rest := []) C G (mX9_isPlace l X σ t a1 v1 ok e_v1) ok.1.2 (gE_9 ok.1.1) rfl (g_goodV u_ml_RX9_108 u_im_yX9_isPlace u_se_yX9_isPlace u_in_RX9 u_co_yX9_isPlace) rfl rfl rfl (by decide +kernel) ⟨Nat.le_of_ble_eq_true rfl, Nat.le_of_ble_eq_true rfl⟩ rfl hl.1 rfl (Nat.le_of_ble_eq_true rfl) dX9_at_2 ⟨Nat.zero_le _, Nat.zero_le _⟩) G (fun H locs G => ?_)
  refine lv_if_ne (tgt := 12) hx hb dX9_at_5 (by decide) (fun c2 => ?_) (fun c2 => ?_)
  · have h := g_if h c2
    refine lv_aload_n hx hb dX9_at_12 rfl (lv_at hl 0 rfl) ?_
    refine lv_iload_n hx hb dX9_at_13 rfl (lv_at hl 1 rfl) ?_
    obtain ⟨v3, e_v3, h⟩ := g_bind h
    refine g_calli (g_runV (n := 1) (As := [.int a1]) (rest := []) C G (mX9_scrapAt l X σ t a1 v3 ok e_v3) ok.1.2 (gE_9 ok.1.1) rfl (g_goodV u_ml_RX9_66 u_im_yX9_scrapAt u_se_yX9_scrapAt u_in_RX9 u_co_yX9_scrapAt) rfl rfl rfl (by decide +kernel) ⟨Nat.le_of_ble_eq_true rfl, Nat.le_of_ble_eq_true rfl⟩ rfl hl.1 rfl (Nat.le_of_ble_eq_true rfl) dX9_at_14 ⟨Nat.zero_le _, Nat.zero_le _⟩) G (fun H locs G => ?_)
    refine lv_istore_n (lv' := [(2, .int v3), (0, .ref (xN X + t)), (1, .int a1)]) hx hb dX9_at_17 rfl hl (by decide) rfl (fun ls hl => ?_)
    refine lv_iload_n hx hb dX9_at_18 rfl (lv_at hl 0 rfl) ?_
    refine lv_iconst (v := (-1)) hx hb dX9_at_19 (by decide) ?_
    refine lv_icmp_ne (tgt := 29) hx hb dX9_at_20 (by decide) (fun c4 => ?_) (fun c4 => ?_)
    · have h := g_if h c4
      refine lv_iload_n hx hb dX9_at_29 rfl (lv_at hl 0 rfl) ?_
      exact ret dX9_at_30 rfl G ⟨Option.some.inj h, rfl⟩
    · have h := g_it h c4
      refine lv_sipush (v := (-1004)) hx hb dX9_at_23 (by decide) ?_
      refine lv_goto (tgt := 30) hx hb dX9_at_26 (by decide) ?_
      exact ret dX9_at_30 rfl G ⟨Option.some.inj h, rfl⟩
  · have h := g_it h c2
    refine lv_sipush (v := (-1001)) hx hb dX9_at_8 (by decide) ?_
    exact ret dX9_at_11 rfl G ⟨Option.some.inj h, rfl⟩
