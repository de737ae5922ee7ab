def fX8_member (σ : gM) (t : Nat) (a1 : Int32) (a2 : Int32) : Option (Int32 × gM) :=
  ((fX2_gather σ (t + 108) (t + 1)).bind fun σ2 =>
  ((fX2_size σ2 (t + 108)).bind fun v3 =>
  ((fX8_isWithin σ2 a1 0 (v3 - 1)).bind fun v4 =>
  (if v4 = 0 then
    some ((-1001), σ2)
  else
    (if 0 ≤ a2 then
      ((fX2_scrapOf σ2 (t + 108) a1 a2).bind fun v7 =>
      (if v7 = (-1) then
        some ((-1004), σ2)
      else
        some (v7, σ2)))
    else
      some ((-1001), σ2))))))
set_option maxHeartbeats 4000000 in
set_option maxRecDepth 100000 in
theorem mX8_member (l : Launch) (X : gX) (σ σ' : gM) (t : Nat) (a1 : Int32) (a2 : Int32) (r : Int32) (ok : gok8 X t) (h : fX8_member σ t a1 a2 = some (r, σ')) : Met l yX8_member (Cond.code yX8_member cX8_member 4 (some .int) :: gBig) ({ frames := 6, cells := 0, slots := 0, locals := 146 }) (gPc X σ [.ref (xN X + t), .int a1, .int a2]) (gQi X σ' r) 0 0 (xA X) := by
  refine g_meti (cc := cX8_member) (maxL := 4) (own := RX8) (by decide) rfl rfl (Nat.le_of_ble_eq_true rfl) ?_
  intro p ev s m args below meth c Q C G ret ls hl
  obtain ⟨⟨hx, hb, hml, hown, hts⟩, hK⟩ := id C
  have hl : lv_has ls 4 [(0, .ref (xN X + t)), (1, .int a1), (2, .int a2)] := hl
  unfold fX8_member at h
  refine lv_aload_n hx hb dX8_member_0 rfl (lv_at hl 0 rfl) ?_
  refine gg8_3 C G ok.1 ok.2.1.2.2.2.1 u_fl_RX8_29 dX8_member_1 ?_
  refine lv_aload_n hx hb dX8_member_4 rfl (lv_at hl 0 rfl) ?_
  refine gg8_0 C G ok.1 ok.2.1.1 u_fl_RX8_10 dX8_member_5 ?_
  obtain ⟨σ2, e_σ2, h⟩ := g_bind h
  refine g_callv (g_runV (n := 1) (As := [.ref (xN X + (t + 1))]) (rest := []) C G (mX2_gather l X σ σ2 (t + 108) (t + 1) ok.2.2.2.2.2.1 ok.2.2.1 e_σ2) ok.2.2.2.2.2.1.1.2 (gE_2 ok.2.2.2.2.2.1.1.1) rfl (g_goodV u_ml_RX8_123 u_im_yX2_gather u_se_yX2_gather u_in_RX2 u_co_yX2_gather) rfl rfl rfl (by decide +kernel) ⟨Nat.le_of_ble_eq_true rfl, Nat.le_of_ble_eq_true rfl⟩ rfl hl.1 rfl (Nat.le_of_ble_eq_true rfl) dX8_member_8 ⟨Nat.zero_le _, Nat.zero_le _⟩) G (fun H locs G => ?_)
  refine lv_iload_n hx hb dX8_member_11 rfl (lv_at hl 1 rfl) ?_
  refine lv_iconst (v := 0) hx hb dX8_member_12 (by decide) ?_
  refine lv_aload_n hx hb dX8_member_13 rfl (lv_at hl 0 rfl) ?_
  refine gg8_3 C G ok.1 ok.2.1.2.2.2.1 u_fl_RX8_29 dX8_member_14 ?_
  obtain ⟨v3, e_v3, h⟩ := g_bind h
  refine g_calli (g_runV (n := 0) (As := []) (rest := [.int 0, .int a1]) C G (mX2_size l X σ2 (t + 108) v3 ok.2.2.2.2.2.1 e_v3) ok.2.2.2.2.2.1.1.2 (gE_2 ok.2.2.2.2.2.1.1.1) rfl (g_goodV u_ml_RX8_158 u_im_yX2_size u_se_yX2_size u_in_RX2 u_co_yX2_size) rfl rfl rfl (by decide +kernel) ⟨Nat.le_of_ble_eq_true rfl, Nat.le_of_ble_eq_true rfl⟩ rfl hl.1 rfl (Nat.le_of_ble_eq_true rfl) dX8_member_17 ⟨Nat.zero_le _, Nat.zero_le _⟩) G (fun H locs G => ?_)
  refine lv_iconst (v := 1) hx hb dX8_member_20 (by decide) ?_
  refine lv_isub hx hb dX8_member_21 ?_
  obtain ⟨v4, e_v4, h⟩ := g_bind h
  refine g_calli (g_runS (n := 3) (As := [.int a1, .int 0, .int (v3 - 1)]) (rest := []) C G (mX8_isWithin l X σ2 a1 0 (v3 - 1) v4 e_v4) (g_goodS u_ml_RX8_47 u_st_yX8_isWithin u_in_RX8 u_co_yX8_isWithin) rfl rfl rfl (by decide +kernel) ⟨Nat.le_of_ble_eq_true rfl, Nat.le_of_ble_eq_true rfl⟩ rfl hl.1 rfl (Nat.le_of_ble_eq_true rfl) dX8_member_22 ⟨Nat.zero_le _, Nat.zero_le _⟩) G (fun H locs G => ?_)
  refine lv_if_eq (tgt := 32) hx hb dX8_member_25 (by decide) (fun c5 => ?_) (fun c5 => ?_)
  · have h := g_it h c5
    refine lv_sipush (v := (-1001)) hx hb dX8_member_32 (by decide) ?_
    exact ret dX8_member_35 rfl G (Prod.mk.inj (Option.some.inj h))
  · have h := g_if h c5
    refine lv_iload_n hx hb dX8_member_28 rfl (lv_at hl 2 rfl) ?_
    refine lv_if_ge (tgt := 36) hx hb dX8_member_29 (by decide) (fun c6 => ?_) (fun c6 => ?_)
    · have h := g_it h c6
      refine lv_aload_n hx hb dX8_member_36 rfl (lv_at hl 0 rfl) ?_
      refine gg8_3 C G ok.1 ok.2.1.2.2.2.1 u_fl_RX8_29 dX8_member_37 ?_
      refine lv_iload_n hx hb dX8_member_40 rfl (lv_at hl 1 rfl) ?_
      refine lv_iload_n hx hb dX8_member_41 rfl (lv_at hl 2 rfl) ?_
      obtain ⟨v7, e_v7, h⟩ := g_bind h
      refine g_calli (g_runV (n := 2) (As := [.int a1, .int a2]) (rest := []) C G (mX2_scrapOf l X σ2 (t + 108) a1 a2 v7 ok.2.2.2.2.2.1 e_v7) ok.2.2.2.2.2.1.1.2 (gE_2 ok.2.2.2.2.2.1.1.1) rfl (g_goodV u_ml_RX8_210 u_im_yX2_scrapOf u_se_yX2_scrapOf u_in_RX2 u_co_yX2_scrapOf) rfl rfl rfl (by decide +kernel) ⟨Nat.le_of_ble_eq_true rfl, Nat.le_of_ble_eq_true rfl⟩ rfl hl.1 rfl (Nat.le_of_ble_eq_true rfl) dX8_member_42 ⟨Nat.zero_le _, Nat.zero_le _⟩) G (fun H locs G => ?_)
      refine lv_istore_n (lv' := [(3, .int v7), (0, .ref (xN X + t)), (1, .int a1), (2, .int a2)]) hx hb dX8_member_45 rfl hl (by decide) rfl (fun ls hl => ?_)
      refine lv_iload_n hx hb dX8_member_46 rfl (lv_at hl 0 rfl) ?_
      refine lv_iconst (v := (-1)) hx hb dX8_member_47 (by decide) ?_
      refine lv_icmp_ne (tgt := 57) hx hb dX8_member_48 (by decide) (fun c8 => ?_) (fun c8 => ?_)
      · have h := g_if h c8
        refine lv_iload_n hx hb dX8_member_57 rfl (lv_at hl 0 rfl) ?_
        exact ret dX8_member_58 rfl G (Prod.mk.inj (Option.some.inj h))
      · have h := g_it h c8
        refine lv_sipush (v := (-1004)) hx hb dX8_member_51 (by decide) ?_
        refine lv_goto (tgt := 58) hx hb dX8_member_54 (by decide) ?_
        exact ret dX8_member_58 rfl G (Prod.mk.inj (Option.some.inj h))
    · have h := g_if h c6
      refine lv_sipush (v := (-1001)) hx hb dX8_member_32 (by decide) ?_
      exact ret dX8_member_35 rfl G (Prod.mk.inj (Option.some.inj h))
