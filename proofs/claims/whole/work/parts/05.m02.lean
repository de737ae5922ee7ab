def fX8_addScrap (σ : gM) (t : Nat) (a1 : Int32) (a2 : Int32) (a3 : Int32) (a4 : Int32) (a5 : Int32) : Option (Int32 × gM) :=
  ((fX8_isProfile σ a1).bind fun v1 =>
  (if v1 = 0 then
    some ((-1001), σ)
  else
    ((fX8_isProfile σ a2).bind fun v3 =>
    (if v3 = 0 then
      some ((-1001), σ)
    else
      ((fX8_isProfile σ a3).bind fun v5 =>
      (if v5 = 0 then
        some ((-1001), σ)
      else
        ((fX8_isProfile σ a4).bind fun v7 =>
        (if v7 = 0 then
          some ((-1001), σ)
        else
          ((fX8_isWithin σ a5 0 1).bind fun v9 =>
          (if v9 = 0 then
            some ((-1001), σ)
          else
            ((fX6_size σ ((t + 1) + 1)).bind fun v11 =>
            (if v11 < 12 then
              ((fX1_setEdge σ (t + 119) 0 a1 0).bind fun σ14 =>
              ((fX1_setEdge σ14 (t + 119) 1 a2 0).bind fun σ16 =>
              ((fX1_setEdge σ16 (t + 119) 2 a3 0).bind fun σ18 =>
              ((fX1_setEdge σ18 (t + 119) 3 a4 0).bind fun σ20 =>
              ((fX1_setKind σ20 (t + 119) a5).bind fun σ22 =>
              ((fX8_append σ22 t (t + 119)).bind fun pv23 => gl pv23.1 fun v23 => gl pv23.2 fun σ24 =>
              some (v23, σ24)))))))
            else
              some ((-1003), σ)))))))))))))
set_option maxHeartbeats 4000000 in
set_option maxRecDepth 100000 in
theorem mX8_addScrap (l : Launch) (X : gX) (σ σ' : gM) (t : Nat) (a1 : Int32) (a2 : Int32) (a3 : Int32) (a4 : Int32) (a5 : Int32) (r : Int32) (ok : gok8 X t) (h : fX8_addScrap σ t a1 a2 a3 a4 a5 = some (r, σ')) : Met l yX8_addScrap (Cond.code yX8_addScrap cX8_addScrap 6 (some .int) :: gBig) ({ frames := 6, cells := 0, slots := 0, locals := 171 }) (gPc X σ [.ref (xN X + t), .int a1, .int a2, .int a3, .int a4, .int a5]) (gQi X σ' r) 0 0 (xA X) := by
  refine g_meti (cc := cX8_addScrap) (maxL := 6) (own := RX8) (by decide) rfl rfl (Nat.le_of_ble_eq_true rfl) ?_
  intro p ev s m args below meth c Q C G ret ls hl
  obtain ⟨⟨hx, hb, hml, hown, hts⟩, hK⟩ := id C
  have hl : lv_has ls 6 [(0, .ref (xN X + t)), (1, .int a1), (2, .int a2), (3, .int a3), (4, .int a4), (5, .int a5)] := hl
  unfold fX8_addScrap at h
  refine lv_iload_n hx hb dX8_addScrap_0 rfl (lv_at hl 1 rfl) ?_
  obtain ⟨v1, e_v1, h⟩ := g_bind h
  refine g_calli (g_runS (n := 1) (As := [.int a1]) (rest := []) C G (mX8_isProfile l X σ a1 v1 e_v1) (g_goodS u_ml_RX8_69 u_st_yX8_isProfile u_in_RX8 u_co_yX8_isProfile) rfl rfl rfl (by decide +kernel) ⟨Nat.le_of_ble_eq_true rfl, Nat.le_of_ble_eq_true rfl⟩ rfl hl.1 rfl (Nat.le_of_ble_eq_true rfl) dX8_addScrap_1 ⟨Nat.zero_le _, Nat.zero_le _⟩) G (fun H locs G => ?_)
  refine lv_if_eq (tgt := 39) hx hb dX8_addScrap_4 (by decide) (fun c2 => ?_) (fun c2 => ?_)
  · have h := g_it h c2
    refine lv_sipush (v := (-1001)) hx hb dX8_addScrap_39 (by decide) ?_
    exact ret dX8_addScrap_42 rfl G (Prod.mk.inj (Option.some.inj h))
  · have h := g_if h c2
    refine lv_iload_n hx hb dX8_addScrap_7 rfl (lv_at hl 2 rfl) ?_
    obtain ⟨v3, e_v3, h⟩ := g_bind h
    refine g_calli (g_runS (n := 1) (As := [.int a2]) (rest := []) C G (mX8_isProfile l X σ a2 v3 e_v3) (g_goodS u_ml_RX8_69 u_st_yX8_isProfile u_in_RX8 u_co_yX8_isProfile) rfl rfl rfl (by decide +kernel) ⟨Nat.le_of_ble_eq_true rfl, Nat.le_of_ble_eq_true rfl⟩ rfl hl.1 rfl (Nat.le_of_ble_eq_true rfl) dX8_addScrap_8 ⟨Nat.zero_le _, Nat.zero_le _⟩) G (fun H locs G => ?_)
    refine lv_if_eq (tgt := 39) hx hb dX8_addScrap_11 (by decide) (fun c4 => ?_) (fun c4 => ?_)
    · have h := g_it h c4
      refine lv_sipush (v := (-1001)) hx hb dX8_addScrap_39 (by decide) ?_
      exact ret dX8_addScrap_42 rfl G (Prod.mk.inj (Option.some.inj h))
    · have h := g_if h c4
      refine lv_iload_n hx hb dX8_addScrap_14 rfl (lv_at hl 3 rfl) ?_
      obtain ⟨v5, e_v5, h⟩ := g_bind h
      refine g_calli (g_runS (n := 1) (As := [.int a3]) (rest := []) C G (mX8_isProfile l X σ a3 v5 e_v5) (g_goodS u_ml_RX8_69 u_st_yX8_isProfile u_in_RX8 u_co_yX8_isProfile) rfl rfl rfl (by decide +kernel) ⟨Nat.le_of_ble_eq_true rfl, Nat.le_of_ble_eq_true rfl⟩ rfl hl.1 rfl (Nat.le_of_ble_eq_true rfl) dX8_addScrap_15 ⟨Nat.zero_le _, Nat.zero_le _⟩) G (fun H locs G => ?_)
      refine lv_if_eq (tgt := 39) hx hb dX8_addScrap_18 (by decide) (fun c6 => ?_) (fun c6 => ?_)
      · have h := g_it h c6
        refine lv_sipush (v := (-1001)) hx hb dX8_addScrap_39 (by decide) ?_
        exact ret dX8_addScrap_42 rfl G (Prod.mk.inj (Option.some.inj h))
      · have h := g_if h c6
        refine lv_iload hx hb dX8_addScrap_21 (lv_at hl 4 rfl) ?_
        obtain ⟨v7, e_v7, h⟩ := g_bind h
        refine g_calli (g_runS (n := 1) (As := [.int a4]) (rest := []) C G (mX8_isProfile l X σ a4 v7 e_v7) (g_goodS u_ml_RX8_69 u_st_yX8_isProfile u_in_RX8 u_co_yX8_isProfile) rfl rfl rfl (by decide +kernel) ⟨Nat.le_of_ble_eq_true rfl, Nat.le_of_ble_eq_true rfl⟩ rfl hl.1 rfl (Nat.le_of_ble_eq_true rfl) dX8_addScrap_23 ⟨Nat.zero_le _, Nat.zero_le _⟩) G (fun H locs G => ?_)
        refine lv_if_eq (tgt := 39) hx hb dX8_addScrap_26 (by decide) (fun c8 => ?_) (fun c8 => ?_)
        · have h := g_it h c8
          refine lv_sipush (v := (-1001)) hx hb dX8_addScrap_39 (by decide) ?_
          exact ret dX8_addScrap_42 rfl G (Prod.mk.inj (Option.some.inj h))
        · have h := g_if h c8
          refine lv_iload hx hb dX8_addScrap_29 (lv_at hl 5 rfl) ?_
          refine lv_iconst (v := 0) hx hb dX8_addScrap_31 (by decide) ?_
          refine lv_iconst (v := 1) hx hb dX8_addScrap_32 (by decide) ?_
          obtain ⟨v9, e_v9, h⟩ := g_bind h
          refine g_calli (g_runS (n := 3) (As := [.int a5, .int 0, .int 1]) (rest := []) C G (mX8_isWithin l X σ a5 0 1 v9 e_v9) (g_goodS u_ml_RX8_47 u_st_yX8_isWithin u_in_RX8 u_co_yX8_isWithin) rfl rfl rfl (by decide +kernel) ⟨Nat.le_of_ble_eq_true rfl, Nat.le_of_ble_eq_true rfl⟩ rfl hl.1 rfl (Nat.le_of_ble_eq_true rfl) dX8_addScrap_33 ⟨Nat.zero_le _, Nat.zero_le _⟩) G (fun H locs G => ?_)
          refine lv_if_ne (tgt := 43) hx hb dX8_addScrap_36 (by decide) (fun c10 => ?_) (fun c10 => ?_)
          · have h := g_if h c10
            refine lv_aload_n hx hb dX8_addScrap_43 rfl (lv_at hl 0 rfl) ?_
            refine gg8_0 C G ok.1 ok.2.1.1 u_fl_RX8_10 dX8_addScrap_44 ?_
            refine gn0_0 C G ok.2.2.1.1 ok.2.2.1.2.1.1 (List.mem_of_getElem? (i := 1) rfl) dX8_addScrap_47 ?_
            obtain ⟨v11, e_v11, h⟩ := g_bind h
            refine g_calli (g_runV (n := 0) (As := []) (rest := []) C G (mX6_size l X σ ((t + 1) + 1) v11 ok.2.2.1.2.2.1 e_v11) ok.2.2.1.2.2.1.1.2 (gE_6 ok.2.2.1.2.2.1.1.1) rfl (g_goodV u_ml_RX8_77 u_im_yX6_size u_se_yX6_size u_in_RX6 u_co_yX6_size) rfl rfl rfl (by decide +kernel) ⟨Nat.le_of_ble_eq_true rfl, Nat.le_of_ble_eq_true rfl⟩ rfl hl.1 rfl (Nat.le_of_ble_eq_true rfl) dX8_addScrap_50 ⟨Nat.zero_le _, Nat.zero_le _⟩) G (fun H locs G => ?_)
            refine lv_bipush (v := 12) hx hb dX8_addScrap_53 (by decide) ?_
            refine lv_icmp_lt (tgt := 62) hx hb dX8_addScrap_55 (by decide) (fun c12 => ?_) (fun c12 => ?_)
            · have h := g_it h c12
              refine lv_aload_n hx hb dX8_addScrap_62 rfl (lv_at hl 0 rfl) ?_
              refine gg8_5 C G ok.1 ok.2.1.2.2.2.2.2 u_fl_RX8_43 dX8_addScrap_63 ?_
              refine lv_iconst (v := 0) hx hb dX8_addScrap_66 (by decide) ?_
              refine lv_iload_n hx hb dX8_addScrap_67 rfl (lv_at hl 1 rfl) ?_
              refine lv_iconst (v := 0) hx hb dX8_addScrap_68 (by decide) ?_
              obtain ⟨σ14, e_σ14, h⟩ := g_bind h
              refine g_callv (g_runV (n := 3) (As := [.int 0, .int a1, .int 0]) (rest := []) C G (mX1_setEdge l X σ σ14 (t + 119) 0 a1 0 ok.2.2.2.2.2.2.2 e_σ14) ok.2.2.2.2.2.2.2.1.2 (gE_1 ok.2.2.2.2.2.2.2.1.1) rfl (g_goodV u_ml_RX8_82 u_im_yX1_setEdge u_se_yX1_setEdge u_in_RX1 u_co_yX1_setEdge) rfl rfl rfl (by decide +kernel) ⟨Nat.le_of_ble_eq_true rfl, Nat.le_of_ble_eq_true rfl⟩ rfl hl.1 rfl (Nat.le_of_ble_eq_true rfl) dX8_addScrap_69 ⟨Nat.zero_le _, Nat.zero_le _⟩) G (fun H locs G => ?_)
              refine lv_aload_n hx hb dX8_addScrap_72 rfl (lv_at hl 0 rfl) ?_
              refine gg8_5 C G ok.1 ok.2.1.2.2.2.2.2 u_fl_RX8_43 dX8_addScrap_73 ?_
              refine lv_iconst (v := 1) hx hb dX8_addScrap_76 (by decide) ?_
              refine lv_iload_n hx hb dX8_addScrap_77 rfl (lv_at hl 2 rfl) ?_
              refine lv_iconst (v := 0) hx hb dX8_addScrap_78 (by decide) ?_
              obtain ⟨σ16, e_σ16, h⟩ := g_bind h
              refine g_callv (g_runV (n := 3) (As := [.int 1, .int a2, .int 0]) (rest := []) C G (mX1_setEdge l X σ14 σ16 (t + 119) 1 a2 0 ok.2.2.2.2.2.2.2 e_σ16) ok.2.2.2.2.2.2.2.1.2 (gE_1 ok.2.2.2.2.2.2.2.1.1) rfl (g_goodV u_ml_RX8_82 u_im_yX1_setEdge u_se_yX1_setEdge u_in_RX1 u_co_yX1_setEdge) rfl rfl rfl (by decide +kernel) ⟨Nat.le_of_ble_eq_true rfl, Nat.le_of_ble_eq_true rfl⟩ rfl hl.1 rfl (Nat.le_of_ble_eq_true rfl) dX8_addScrap_79 ⟨Nat.zero_le _, Nat.zero_le _⟩) G (fun H locs G => ?_)
              refine lv_aload_n hx hb dX8_addScrap_82 rfl (lv_at hl 0 rfl) ?_
              refine gg8_5 C G ok.1 ok.2.1.2.2.2.2.2 u_fl_RX8_43 dX8_addScrap_83 ?_
              refine lv_iconst (v := 2) hx hb dX8_addScrap_86 (by decide) ?_
              refine lv_iload_n hx hb dX8_addScrap_87 rfl (lv_at hl 3 rfl) ?_
              refine lv_iconst (v := 0) hx hb dX8_addScrap_88 (by decide) ?_
              obtain ⟨σ18, e_σ18, h⟩ := g_bind h
              refine g_callv (g_runV (n := 3) (As := [.int 2, .int a3, .int 0]) (rest := []) C G (mX1_setEdge l X σ16 σ18 (t + 119) 2 a3 0 ok.2.2.2.2.2.2.2 e_σ18) ok.2.2.2.2.2.2.2.1.2 (gE_1 ok.2.2.2.2.2.2.2.1.1) rfl (g_goodV u_ml_RX8_82 u_im_yX1_setEdge u_se_yX1_setEdge u_in_RX1 u_co_yX1_setEdge) rfl rfl rfl (by decide +kernel) ⟨Nat.le_of_ble_eq_true rfl, Nat.le_of_ble_eq_true rfl⟩ rfl hl.1 rfl (Nat.le_of_ble_eq_true rfl) dX8_addScrap_89 ⟨Nat.zero_le _, Nat.zero_le _⟩) G (fun H locs G => ?_)
              refine lv_aload_n hx hb dX8_addScrap_92 rfl (lv_at hl 0 rfl) ?_
              refine gg8_5 C G ok.1 ok.2.1.2.2.2.2.2 u_fl_RX8_43 dX8_addScrap_93 ?_
              refine lv_iconst (v := 3) hx hb dX8_addScrap_96 (by decide) ?_
              refine lv_iload hx hb dX8_addScrap_97 (lv_at hl 4 rfl) ?_
              refine lv_iconst (v := 0) hx hb dX8_addScrap_99 (by decide) ?_
              obtain ⟨σ20, e_σ20, h⟩ := g_bind h
              refine g_callv (g_runV (n := 3) (As := [.int 3, .int a4, .int 0]) (rest := []) C G (mX1_setEdge l X σ18 σ20 (t + 119) 3 a4 0 ok.2.2.2.2.2.2.2 e_σ20) ok.2.2.2.2.2.2.2.1.2 (gE_1 ok.2.2.2.2.2.2.2.1.1) rfl (g_goodV u_ml_RX8_82 u_im_yX1_setEdge u_se_yX1_setEdge u_in_RX1 u_co_yX1_setEdge) rfl rfl rfl (by decide +kernel) ⟨Nat.le_of_ble_eq_true rfl, Nat.le_of_ble_eq_true rfl⟩ rfl hl.1 rfl (Nat.le_of_ble_eq_true rfl) dX8_addScrap_100 ⟨Nat.zero_le _, Nat.zero_le _⟩) G (fun H locs G => ?_)
              refine lv_aload_n hx hb dX8_addScrap_103 rfl (lv_at hl 0 rfl) ?_
              refine gg8_5 C G ok.1 ok.2.1.2.2.2.2.2 u_fl_RX8_43 dX8_addScrap_104 ?_
              refine lv_iload hx hb dX8_addScrap_107 (lv_at hl 5 rfl) ?_
              obtain ⟨σ22, e_σ22, h⟩ := g_bind h
              refine g_callv (g_runV (n := 1) (As := [.int a5]) (rest := []) C G (mX1_setKind l X σ20 σ22 (t + 119) a5 ok.2.2.2.2.2.2.2 e_σ22) ok.2.2.2.2.2.2.2.1.2 (gE_1 ok.2.2.2.2.2.2.2.1.1) rfl (g_goodV u_ml_RX8_86 u_im_yX1_setKind u_se_yX1_setKind u_in_RX1 u_co_yX1_setKind) rfl rfl rfl (by decide +kernel) ⟨Nat.le_of_ble_eq_true rfl, Nat.le_of_ble_eq_true rfl⟩ rfl hl.1 rfl (Nat.le_of_ble_eq_true rfl) dX8_addScrap_109 ⟨Nat.zero_le _, Nat.zero_le _⟩) G (fun H locs G => ?_)
              refine lv_aload_n hx hb dX8_addScrap_112 rfl (lv_at hl 0 rfl) ?_
              refine lv_aload_n hx hb dX8_addScrap_113 rfl (lv_at hl 0 rfl) ?_
              refine gg8_5 C G ok.1 ok.2.1.2.2.2.2.2 u_fl_RX8_43 dX8_addScrap_114 ?_
              obtain ⟨⟨v23, σ24⟩, e_v23, h⟩ := g_bind h
              have h := g_let2 (v := v23) rfl h
              have h := g_let2 (v := σ24) rfl h
              refine g_calli (g_runV (n := 1) (As := [.ref (xN X + (t + 119))]) (rest := []) C G (mX8_append l X σ22 σ24 t (t + 119) v23 ok ok.2.2.2.2.2.2.2 e_v23) ok.1.2 (gE_8 ok.1.1) rfl (g_goodV u_ml_RX8_90 u_im_yX8_append u_se_yX8_append u_in_RX8 u_co_yX8_append) rfl rfl rfl (by decide +kernel) ⟨Nat.le_of_ble_eq_true rfl, Nat.le_of_ble_eq_true rfl⟩ rfl hl.1 rfl (Nat.le_of_ble_eq_true rfl) dX8_addScrap_117 ⟨Nat.zero_le _, Nat.zero_le _⟩) G (fun H locs G => ?_)
              exact ret dX8_addScrap_120 rfl G (Prod.mk.inj (Option.some.inj h))
            · have h := g_if h c12
              refine lv_sipush (v := (-1003)) hx hb dX8_addScrap_58 (by decide) ?_
              exact ret dX8_addScrap_61 rfl G (Prod.mk.inj (Option.some.inj h))
          · have h := g_it h c10
            refine lv_sipush (v := (-1001)) hx hb dX8_addScrap_39 (by decide) ?_
            exact ret dX8_addScrap_42 rfl G (Prod.mk.inj (Option.some.inj h))

def fX7_next (σ : gM) (t : Nat) : Option (Int32) :=
  (if (σ t 2) ≤ (σ t 3) then
    some (-1)
  else
    ((fX5_get σ (t + 1) (σ t 3)).bind fun v2 =>
    some v2))
set_option maxHeartbeats 4000000 in
set_option maxRecDepth 100000 in
theorem mX7_next (l : Launch) (X : gX) (σ : gM) (t : Nat) (r : Int32) (ok : gok7 X t) (h : fX7_next σ t = some r) : Met l yX7_next (Cond.code yX7_next cX7_next 1 (some .int) :: gBig) ({ frames := 1, cells := 0, slots := 0, locals := 21 }) (gPc X σ [.ref (xN X + t)]) (gQi X σ r) 0 0 (xA X) := by
  refine g_meti (cc := cX7_next) (maxL := 1) (own := RX7) (by decide) rfl rfl (Nat.le_of_ble_eq_true rfl) ?_
  intro p ev s m args below meth c Q C G ret ls hl
  obtain ⟨⟨hx, hb, hml, hown, hts⟩, hK⟩ := id C
  have hl : lv_has ls 1 [(0, .ref (xN X + t))] := hl
  unfold fX7_next at h
  refine lv_aload_n hx hb dX7_next_0 rfl (lv_at hl 0 rfl) ?_
  refine gg7_3 C G ok.1 u_fl_RX7_31 dX7_next_1 ?_
  refine lv_aload_n hx hb dX7_next_4 rfl (lv_at hl 0 rfl) ?_
  refine gg7_2 C G ok.1 u_fl_RX7_27 dX7_next_5 ?_
  refine lv_icmp_ge (tgt := 25) hx hb dX7_next_8 (by decide) (fun c1 => ?_) (fun c1 => ?_)
  · have h := g_it h c1
    refine lv_iconst (v := (-1)) hx hb dX7_next_25 (by decide) ?_
    exact ret dX7_next_26 rfl G ⟨Option.some.inj h, rfl⟩
  · have h := g_if h c1
    refine lv_aload_n hx hb dX7_next_11 rfl (lv_at hl 0 rfl) ?_
    refine gg7_0 C G ok.1 ok.2.1.1 u_fl_RX7_14 dX7_next_12 ?_
    refine lv_aload_n hx hb dX7_next_15 rfl (lv_at hl 0 rfl) ?_
    refine gg7_3 C G ok.1 u_fl_RX7_31 dX7_next_16 ?_
    obtain ⟨v2, e_v2, h⟩ := g_bind h
    refine g_calli (g_runV (n := 1) (As := [.int (σ t 3)]) (rest := []) C G (mX5_get l X σ (t + 1) (σ t 3) v2 ok.2.2.1 e_v2) ok.2.2.1.1.2 (gE_5 ok.2.2.1.1.1) rfl (g_goodV u_ml_RX7_64 u_im_yX5_get u_se_yX5_get u_in_RX5 u_co_yX5_get) rfl rfl rfl (by decide +kernel) ⟨Nat.le_of_ble_eq_true rfl, Nat.le_of_ble_eq_true rfl⟩ rfl hl.1 rfl (Nat.le_of_ble_eq_true rfl) dX7_next_19 ⟨Nat.zero_le _, Nat.zero_le _⟩) G (fun H locs G => ?_)
    refine lv_goto (tgt := 26) hx hb dX7_next_22 (by decide) ?_
    exact ret dX7_next_26 rfl G ⟨Option.some.inj h, rfl⟩

def fX7_takeSign (σ : gM) (t : Nat) (a1 : Int32) : Option (gM) :=
  (if (σ t 4) = 0 then
    (gl (gset σ t (upd (σ t) 4 0)) fun σ2 =>
    (if (σ2 t 4) = 0 then
      some σ2
    else
      (gl (gset σ2 t (upd (σ2 t) 3 ((σ2 t 3) + 1))) fun σ4 =>
      some σ4)))
  else
    ((fX7_next σ t).bind fun v5 =>
    (if v5 = a1 then
      (gl (gset σ t (upd (σ t) 4 1)) fun σ7 =>
      (if (σ7 t 4) = 0 then
        some σ7
      else
        (gl (gset σ7 t (upd (σ7 t) 3 ((σ7 t 3) + 1))) fun σ9 =>
        some σ9)))
    else
      (gl (gset σ t (upd (σ t) 4 0)) fun σ10 =>
      (if (σ10 t 4) = 0 then
        some σ10
      else
        (gl (gset σ10 t (upd (σ10 t) 3 ((σ10 t 3) + 1))) fun σ12 =>
        some σ12))))))
set_option maxHeartbeats 4000000 in
set_option maxRecDepth 100000 in
theorem mX7_takeSign (l : Launch) (X : gX) (σ σ' : gM) (t : Nat) (a1 : Int32) (ok : gok7 X t) (h : fX7_takeSign σ t a1 = some σ') : Met l yX7_takeSign (Cond.code yX7_takeSign cX7_takeSign 2 none :: gBig) ({ frames := 2, cells := 0, slots := 0, locals := 41 }) (gPc X σ [.ref (xN X + t), .int a1]) (gQv X σ') 0 0 (xA X) := by
  refine g_metv (cc := cX7_takeSign) (maxL := 2) (own := RX7) (by decide) rfl rfl (Nat.le_of_ble_eq_true rfl) ?_
  intro p ev s m args below meth c Q C G ret ls hl
  obtain ⟨⟨hx, hb, hml, hown, hts⟩, hK⟩ := id C
  have hl : lv_has ls 2 [(0, .ref (xN X + t)), (1, .int a1)] := hl
  unfold fX7_takeSign at h
  refine lv_aload_n hx hb dX7_takeSign_0 rfl (lv_at hl 0 rfl) ?_
  refine lv_aload_n hx hb dX7_takeSign_1 rfl (lv_at hl 0 rfl) ?_
  refine gg7_4 C G ok.1 u_fl_RX7_34 dX7_takeSign_2 ?_
  refine lv_if_eq (tgt := 20) hx hb dX7_takeSign_5 (by decide) (fun c1 => ?_) (fun c1 => ?_)
  · have h := g_it h c1
    refine lv_iconst (v := 0) hx hb dX7_takeSign_20 (by decide) ?_
    obtain ⟨σ2, e_σ2, h⟩ := g_let h
    refine gp7_4 C G ok.1 u_fl_RX7_34 (by decide) dX7_takeSign_21 (fun H locs G => ?_)
    rw [e_σ2] at G
    refine lv_aload_n hx hb dX7_takeSign_24 rfl (lv_at hl 0 rfl) ?_
    refine gg7_4 C G ok.1 u_fl_RX7_34 dX7_takeSign_25 ?_
    refine lv_if_eq (tgt := 41) hx hb dX7_takeSign_28 (by decide) (fun c3 => ?_) (fun c3 => ?_)
    · have h := g_it h c3
      exact ret dX7_takeSign_41 G (Option.some.inj h)
    · have h := g_if h c3
      refine lv_aload_n hx hb dX7_takeSign_31 rfl (lv_at hl 0 rfl) ?_
      refine lv_dup hx hb dX7_takeSign_32 rfl ?_
      refine gg7_3 C G ok.1 u_fl_RX7_31 dX7_takeSign_33 ?_
      refine lv_iconst (v := 1) hx hb dX7_takeSign_36 (by decide) ?_
      refine lv_iadd hx hb dX7_takeSign_37 ?_
      obtain ⟨σ4, e_σ4, h⟩ := g_let h
      refine gp7_3 C G ok.1 u_fl_RX7_31 dX7_takeSign_38 (fun H locs G => ?_)
      rw [e_σ4] at G
      exact ret dX7_takeSign_41 G (Option.some.inj h)
  · have h := g_if h c1
    refine lv_aload_n hx hb dX7_takeSign_8 rfl (lv_at hl 0 rfl) ?_
    obtain ⟨v5, e_v5, h⟩ := g_bind h
    refine g_calli (g_runV (n := 0) (As := []) (rest := [.ref (xN X + t)]) C G (mX7_next l X σ t v5 ok e_v5) ok.1.2 (gE_7 ok.1.1) rfl (g_goodV u_ml_RX7_56 u_im_yX7_next u_se_yX7_next u_in_RX7 u_co_yX7_next) rfl rfl rfl (by decide +kernel) ⟨Nat.le_of_ble_eq_true rfl, Nat.le_of_ble_eq_true rfl⟩ rfl hl.1 rfl (Nat.le_of_ble_eq_true rfl) dX7_takeSign_9 ⟨Nat.zero_le _, Nat.zero_le _⟩) G (fun H locs G => ?_)
    refine lv_iload_n hx hb dX7_takeSign_12 rfl (lv_at hl 1 rfl) ?_
    refine lv_icmp_ne (tgt := 20) hx hb dX7_takeSign_13 (by decide) (fun c6 => ?_) (fun c6 => ?_)
    · have h := g_if h c6
      refine lv_iconst (v := 0) hx hb dX7_takeSign_20 (by decide) ?_
      obtain ⟨σ10, e_σ10, h⟩ := g_let h
      refine gp7_4 C G ok.1 u_fl_RX7_34 (by decide) dX7_takeSign_21 (fun H locs G => ?_)
      rw [e_σ10] at G
      refine lv_aload_n hx hb dX7_takeSign_24 rfl (lv_at hl 0 rfl) ?_
      refine gg7_4 C G ok.1 u_fl_RX7_34 dX7_takeSign_25 ?_
      refine lv_if_eq (tgt := 41) hx hb dX7_takeSign_28 (by decide) (fun c11 => ?_) (fun c11 => ?_)
      · have h := g_it h c11
        exact ret dX7_takeSign_41 G (Option.some.inj h)
      · have h := g_if h c11
        refine lv_aload_n hx hb dX7_takeSign_31 rfl (lv_at hl 0 rfl) ?_
        refine lv_dup hx hb dX7_takeSign_32 rfl ?_
        refine gg7_3 C G ok.1 u_fl_RX7_31 dX7_takeSign_33 ?_
        refine lv_iconst (v := 1) hx hb dX7_takeSign_36 (by decide) ?_
        refine lv_iadd hx hb dX7_takeSign_37 ?_
        obtain ⟨σ12, e_σ12, h⟩ := g_let h
        refine gp7_3 C G ok.1 u_fl_RX7_31 dX7_takeSign_38 (fun H locs G => ?_)
        rw [e_σ12] at G
        exact ret dX7_takeSign_41 G (Option.some.inj h)
    · have h := g_it h c6
      refine lv_iconst (v := 1) hx hb dX7_takeSign_16 (by decide) ?_
      refine lv_goto (tgt := 21) hx hb dX7_takeSign_17 (by decide) ?_
      obtain ⟨σ7, e_σ7, h⟩ := g_let h
      refine gp7_4 C G ok.1 u_fl_RX7_34 (by decide) dX7_takeSign_21 (fun H locs G => ?_)
      rw [e_σ7] at G
      refine lv_aload_n hx hb dX7_takeSign_24 rfl (lv_at hl 0 rfl) ?_
      refine gg7_4 C G ok.1 u_fl_RX7_34 dX7_takeSign_25 ?_
      refine lv_if_eq (tgt := 41) hx hb dX7_takeSign_28 (by decide) (fun c8 => ?_) (fun c8 => ?_)
      · have h := g_it h c8
        exact ret dX7_takeSign_41 G (Option.some.inj h)
      · have h := g_if h c8
        refine lv_aload_n hx hb dX7_takeSign_31 rfl (lv_at hl 0 rfl) ?_
        refine lv_dup hx hb dX7_takeSign_32 rfl ?_
        refine gg7_3 C G ok.1 u_fl_RX7_31 dX7_takeSign_33 ?_
        refine lv_iconst (v := 1) hx hb dX7_takeSign_36 (by decide) ?_
        refine lv_iadd hx hb dX7_takeSign_37 ?_
        obtain ⟨σ9, e_σ9, h⟩ := g_let h
        refine gp7_3 C G ok.1 u_fl_RX7_31 dX7_takeSign_38 (fun H locs G => ?_)
        rw [e_σ9] at G
        exact ret dX7_takeSign_41 G (Option.some.inj h)

def fX7_takeDigit (σ : gM) (t : Nat) (a1 : Int32) : Option (Int32 × gM) :=
  ((fX7_next σ t).bind fun v1 =>
  (gl (v1 - 48) fun w2 =>
  (if (σ t 4) = 0 then
    (gl (gset σ t (upd (σ t) 4 0)) fun σ4 =>
    (if (σ4 t 4) = 0 then
      some (0, σ4)
    else
      (gl (gset σ4 t (upd (σ4 t) 3 ((σ4 t 3) + 1))) fun σ6 =>
      some (w2, σ6))))
  else
    (if w2 < 0 then
      (gl (gset σ t (upd (σ t) 4 0)) fun σ8 =>
      (if (σ8 t 4) = 0 then
        some (0, σ8)
      else
        (gl (gset σ8 t (upd (σ8 t) 3 ((σ8 t 3) + 1))) fun σ10 =>
        some (w2, σ10))))
    else
      (if a1 < w2 then
        (gl (gset σ t (upd (σ t) 4 0)) fun σ12 =>
        (if (σ12 t 4) = 0 then
          some (0, σ12)
        else
          (gl (gset σ12 t (upd (σ12 t) 3 ((σ12 t 3) + 1))) fun σ14 =>
          some (w2, σ14))))
      else
        (gl (gset σ t (upd (σ t) 4 1)) fun σ15 =>
        (if (σ15 t 4) = 0 then
          some (0, σ15)
        else
          (gl (gset σ15 t (upd (σ15 t) 3 ((σ15 t 3) + 1))) fun σ17 =>
          some (w2, σ17)))))))))
set_option maxHeartbeats 4000000 in
set_option maxRecDepth 100000 in
theorem mX7_takeDigit (l : Launch) (X : gX) (σ σ' : gM) (t : Nat) (a1 : Int32) (r : Int32) (ok : gok7 X t) (h : fX7_takeDigit σ t a1 = some (r, σ')) : Met l yX7_takeDigit (Cond.code yX7_takeDigit cX7_takeDigit 3 (some .int) :: gBig) ({ frames := 2, cells := 0, slots := 0, locals := 41 }) (gPc X σ [.ref (xN X + t), .int a1]) (gQi X σ' r) 0 0 (xA X) := by
  refine g_meti (cc := cX7_takeDigit) (maxL := 3) (own := RX7) (by decide) rfl rfl (Nat.le_of_ble_eq_true rfl) ?_
  intro p ev s m args below meth c Q C G ret ls hl
  obtain ⟨⟨hx, hb, hml, hown, hts⟩, hK⟩ := id C
  have hl : lv_has ls 3 [(0, .ref (xN X + t)), (1, .int a1)] := hl
  unfold fX7_takeDigit at h
  refine lv_aload_n hx hb dX7_takeDigit_0 rfl (lv_at hl 0 rfl) ?_
  obtain ⟨v1, e_v1, h⟩ := g_bind h
  refine g_calli (g_runV (n := 0) (As := []) (rest := []) C G (mX7_next l X σ t v1 ok e_v1) ok.1.2 (gE_7 ok.1.1) rfl (g_goodV u_ml_RX7_56 u_im_yX7_next u_se_yX7_next u_in_RX7 u_co_yX7_next) rfl rfl rfl (by decide +kernel) ⟨Nat.le_of_ble_eq_true rfl, Nat.le_of_ble_eq_true rfl⟩ rfl hl.1 rfl (Nat.le_of_ble_eq_true rfl) dX7_takeDigit_1 ⟨Nat.zero_le _, Nat.zero_le _⟩) G (fun H locs G => ?_)
  refine lv_bipush (v := 48) hx hb dX7_takeDigit_4 (by decide) ?_
  refine lv_isub hx hb dX7_takeDigit_6 ?_
  refine lv_topi (fun w2 e_w2 => ?_)
  have h := g_let2 e_w2 h
  refine lv_istore_n (lv' := [(2, .int w2), (0, .ref (xN X + t)), (1, .int a1)]) hx hb dX7_takeDigit_7 rfl hl (by decide) rfl (fun ls hl => ?_)
  refine lv_aload_n hx hb dX7_takeDigit_8 rfl (lv_at hl 1 rfl) ?_
  refine lv_aload_n hx hb dX7_takeDigit_9 rfl (lv_at hl 1 rfl) ?_
  refine gg7_4 C G ok.1 u_fl_RX7_34 dX7_takeDigit_10 ?_
  refine lv_if_eq (tgt := 29) hx hb dX7_takeDigit_13 (by decide) (fun c3 => ?_) (fun c3 => ?_)
  · have h := g_it h c3
    refine lv_iconst (v := 0) hx hb dX7_takeDigit_29 (by decide) ?_
    obtain ⟨σ4, e_σ4, h⟩ := g_let h
    refine gp7_4 C G ok.1 u_fl_RX7_34 (by decide) dX7_takeDigit_30 (fun H locs G => ?_)
    rw [e_σ4] at G
    refine lv_aload_n hx hb dX7_takeDigit_33 rfl (lv_at hl 1 rfl) ?_
    refine gg7_4 C G ok.1 u_fl_RX7_34 dX7_takeDigit_34 ?_
    refine lv_if_ne (tgt := 42) hx hb dX7_takeDigit_37 (by decide) (fun c5 => ?_) (fun c5 => ?_)
    · have h := g_if h c5
      refine lv_aload_n hx hb dX7_takeDigit_42 rfl (lv_at hl 1 rfl) ?_
      refine lv_dup hx hb dX7_takeDigit_43 rfl ?_
      refine gg7_3 C G ok.1 u_fl_RX7_31 dX7_takeDigit_44 ?_
      refine lv_iconst (v := 1) hx hb dX7_takeDigit_47 (by decide) ?_
      refine lv_iadd hx hb dX7_takeDigit_48 ?_
      obtain ⟨σ6, e_σ6, h⟩ := g_let h
      refine gp7_3 C G ok.1 u_fl_RX7_31 dX7_takeDigit_49 (fun H locs G => ?_)
      rw [e_σ6] at G
      refine lv_iload_n hx hb dX7_takeDigit_52 rfl (lv_at hl 0 rfl) ?_
      exact ret dX7_takeDigit_53 rfl G (Prod.mk.inj (Option.some.inj h))
    · have h := g_it h c5
      refine lv_iconst (v := 0) hx hb dX7_takeDigit_40 (by decide) ?_
      exact ret dX7_takeDigit_41 rfl G (Prod.mk.inj (Option.some.inj h))
  · have h := g_if h c3
    refine lv_iload_n hx hb dX7_takeDigit_16 rfl (lv_at hl 0 rfl) ?_
    refine lv_if_lt (tgt := 29) hx hb dX7_takeDigit_17 (by decide) (fun c7 => ?_) (fun c7 => ?_)
    · have h := g_it h c7
      refine lv_iconst (v := 0) hx hb dX7_takeDigit_29 (by decide) ?_
      obtain ⟨σ8, e_σ8, h⟩ := g_let h
      refine gp7_4 C G ok.1 u_fl_RX7_34 (by decide) dX7_takeDigit_30 (fun H locs G => ?_)
      rw [e_σ8] at G
      refine lv_aload_n hx hb dX7_takeDigit_33 rfl (lv_at hl 1 rfl) ?_
      refine gg7_4 C G ok.1 u_fl_RX7_34 dX7_takeDigit_34 ?_
      refine lv_if_ne (tgt := 42) hx hb dX7_takeDigit_37 (by decide) (fun c9 => ?_) (fun c9 => ?_)
      · have h := g_if h c9
        refine lv_aload_n hx hb dX7_takeDigit_42 rfl (lv_at hl 1 rfl) ?_
        refine lv_dup hx hb dX7_takeDigit_43 rfl ?_
        refine gg7_3 C G ok.1 u_fl_RX7_31 dX7_takeDigit_44 ?_
        refine lv_iconst (v := 1) hx hb dX7_takeDigit_47 (by decide) ?_
        refine lv_iadd hx hb dX7_takeDigit_48 ?_
        obtain ⟨σ10, e_σ10, h⟩ := g_let h
        refine gp7_3 C G ok.1 u_fl_RX7_31 dX7_takeDigit_49 (fun H locs G => ?_)
        rw [e_σ10] at G
        refine lv_iload_n hx hb dX7_takeDigit_52 rfl (lv_at hl 0 rfl) ?_
        exact ret dX7_takeDigit_53 rfl G (Prod.mk.inj (Option.some.inj h))
      · have h := g_it h c9
        refine lv_iconst (v := 0) hx hb dX7_takeDigit_40 (by decide) ?_
        exact ret dX7_takeDigit_41 rfl G (Prod.mk.inj (Option.some.inj h))
    · have h := g_if h c7
      refine lv_iload_n hx hb dX7_takeDigit_20 rfl (lv_at hl 0 rfl) ?_
      refine lv_iload_n hx hb dX7_takeDigit_21 rfl (lv_at hl 2 rfl) ?_
      refine lv_icmp_gt (tgt := 29) hx hb dX7_takeDigit_22 (by decide) (fun c11 => ?_) (fun c11 => ?_)
      · have h := g_it h c11
        refine lv_iconst (v := 0) hx hb dX7_takeDigit_29 (by decide) ?_
        obtain ⟨σ12, e_σ12, h⟩ := g_let h
        refine gp7_4 C G ok.1 u_fl_RX7_34 (by decide) dX7_takeDigit_30 (fun H locs G => ?_)
        rw [e_σ12] at G
        refine lv_aload_n hx hb dX7_takeDigit_33 rfl (lv_at hl 1 rfl) ?_
        refine gg7_4 C G ok.1 u_fl_RX7_34 dX7_takeDigit_34 ?_
        refine lv_if_ne (tgt := 42) hx hb dX7_takeDigit_37 (by decide) (fun c13 => ?_) (fun c13 => ?_)
        · have h := g_if h c13
          refine lv_aload_n hx hb dX7_takeDigit_42 rfl (lv_at hl 1 rfl) ?_
          refine lv_dup hx hb dX7_takeDigit_43 rfl ?_
          refine gg7_3 C G ok.1 u_fl_RX7_31 dX7_takeDigit_44 ?_
          refine lv_iconst (v := 1) hx hb dX7_takeDigit_47 (by decide) ?_
          refine lv_iadd hx hb dX7_takeDigit_48 ?_
          obtain ⟨σ14, e_σ14, h⟩ := g_let h
          refine gp7_3 C G ok.1 u_fl_RX7_31 dX7_takeDigit_49 (fun H locs G => ?_)
          rw [e_σ14] at G
          refine lv_iload_n hx hb dX7_takeDigit_52 rfl (lv_at hl 0 rfl) ?_
          exact ret dX7_takeDigit_53 rfl G (Prod.mk.inj (Option.some.inj h))
        · have h := g_it h c13
          refine lv_iconst (v := 0) hx hb dX7_takeDigit_40 (by decide) ?_
          exact ret dX7_takeDigit_41 rfl G (Prod.mk.inj (Option.some.inj h))
      · have h := g_if h c11
        refine lv_iconst (v := 1) hx hb dX7_takeDigit_25 (by decide) ?_
        refine lv_goto (tgt := 30) hx hb dX7_takeDigit_26 (by decide) ?_
        obtain ⟨σ15, e_σ15, h⟩ := g_let h
        refine gp7_4 C G ok.1 u_fl_RX7_34 (by decide) dX7_takeDigit_30 (fun H locs G => ?_)
        rw [e_σ15] at G
        refine lv_aload_n hx hb dX7_takeDigit_33 rfl (lv_at hl 1 rfl) ?_
        refine gg7_4 C G ok.1 u_fl_RX7_34 dX7_takeDigit_34 ?_
        refine lv_if_ne (tgt := 42) hx hb dX7_takeDigit_37 (by decide) (fun c16 => ?_) (fun c16 => ?_)
        · have h := g_if h c16
          refine lv_aload_n hx hb dX7_takeDigit_42 rfl (lv_at hl 1 rfl) ?_
          refine lv_dup hx hb dX7_takeDigit_43 rfl ?_
          refine gg7_3 C G ok.1 u_fl_RX7_31 dX7_takeDigit_44 ?_
          refine lv_iconst (v := 1) hx hb dX7_takeDigit_47 (by decide) ?_
          refine lv_iadd hx hb dX7_takeDigit_48 ?_
          obtain ⟨σ17, e_σ17, h⟩ := g_let h
          refine gp7_3 C G ok.1 u_fl_RX7_31 dX7_takeDigit_49 (fun H locs G => ?_)
          rw [e_σ17] at G
          refine lv_iload_n hx hb dX7_takeDigit_52 rfl (lv_at hl 0 rfl) ?_
          exact ret dX7_takeDigit_53 rfl G (Prod.mk.inj (Option.some.inj h))
        · have h := g_it h c16
          refine lv_iconst (v := 0) hx hb dX7_takeDigit_40 (by decide) ?_
          exact ret dX7_takeDigit_41 rfl G (Prod.mk.inj (Option.some.inj h))

def fX7_takeEdge (σ : gM) (t : Nat) (a1 : Int32) : Option (gM) :=
  ((fX7_next σ t).bind fun v1 =>
  (if v1 = 45 then
    ((fX7_takeSign σ t 45).bind fun σ5 =>
    ((fX7_takeSign σ5 t 47).bind fun σ7 =>
    ((fX7_takeDigit σ7 t 0).bind fun pv9 => gl pv9.1 fun v9 => gl pv9.2 fun σ10 =>
    ((fX1_setEdge σ10 (t + 3) a1 (-1) v9).bind fun σ12 =>
    some σ12))))
  else
    ((fX7_takeDigit σ t 9).bind fun pv14 => gl pv14.1 fun v14 => gl pv14.2 fun σ15 =>
    (gl (v14 * 100) fun w16 =>
    ((fX7_takeDigit σ15 t 9).bind fun pv17 => gl pv17.1 fun v17 => gl pv17.2 fun σ18 =>
    (gl (w16 + (v17 * 10)) fun w19 =>
    ((fX7_takeDigit σ18 t 9).bind fun pv20 => gl pv20.1 fun v20 => gl pv20.2 fun σ21 =>
    (gl (w19 + v20) fun w22 =>
    ((fX7_takeSign σ21 t 47).bind fun σ24 =>
    ((fX7_takeDigit σ24 t 9).bind fun pv26 => gl pv26.1 fun v26 => gl pv26.2 fun σ27 =>
    ((fX1_setEdge σ27 (t + 3) a1 w22 v26).bind fun σ29 =>
    some σ29)))))))))))
set_option maxHeartbeats 4000000 in
set_option maxRecDepth 100000 in
theorem mX7_takeEdge (l : Launch) (X : gX) (σ σ' : gM) (t : Nat) (a1 : Int32) (ok : gok7 X t) (h : fX7_takeEdge σ t a1 = some σ') : Met l yX7_takeEdge (Cond.code yX7_takeEdge cX7_takeEdge 4 none :: gBig) ({ frames := 3, cells := 0, slots := 0, locals := 63 }) (gPc X σ [.ref (xN X + t), .int a1]) (gQv X σ') 0 0 (xA X) := by
  refine g_metv (cc := cX7_takeEdge) (maxL := 4) (own := RX7) (by decide) rfl rfl (Nat.le_of_ble_eq_true rfl) ?_
  intro p ev s m args below meth c Q C G ret ls hl
  obtain ⟨⟨hx, hb, hml, hown, hts⟩, hK⟩ := id C
  have hl : lv_has ls 4 [(0, .ref (xN X + t)), (1, .int a1)] := hl
  unfold fX7_takeEdge at h
  refine lv_aload_n hx hb dX7_takeEdge_0 rfl (lv_at hl 0 rfl) ?_
  obtain ⟨v1, e_v1, h⟩ := g_bind h
  refine g_calli (g_runV (n := 0) (As := []) (rest := []) C G (mX7_next l X σ t v1 ok e_v1) ok.1.2 (gE_7 ok.1.1) rfl (g_goodV u_ml_RX7_56 u_im_yX7_next u_se_yX7_next u_in_RX7 u_co_yX7_next) rfl rfl rfl (by decide +kernel) ⟨Nat.le_of_ble_eq_true rfl, Nat.le_of_ble_eq_true rfl⟩ rfl hl.1 rfl (Nat.le_of_ble_eq_true rfl) dX7_takeEdge_1 ⟨Nat.zero_le _, Nat.zero_le _⟩) G (fun H locs G => ?_)
  refine lv_bipush (v := 45) hx hb dX7_takeEdge_4 (by decide) ?_
  refine lv_icmp_ne (tgt := 13) hx hb dX7_takeEdge_6 (by decide) (fun c2 => ?_) (fun c2 => ?_)
  · have h := g_if h c2
    refine lv_iconst (v := 0) hx hb dX7_takeEdge_13 (by decide) ?_
    refine lv_istore_n (lv' := [(2, .int 0), (0, .ref (xN X + t)), (1, .int a1)]) hx hb dX7_takeEdge_14 rfl hl (by decide) rfl (fun ls hl => ?_)
    refine lv_iconst (v := (-1)) hx hb dX7_takeEdge_15 (by decide) ?_
    refine lv_istore_n (lv' := [(3, .int (-1)), (2, .int 0), (0, .ref (xN X + t)), (1, .int a1)]) hx hb dX7_takeEdge_16 rfl hl (by decide) rfl (fun ls hl => ?_)
    refine lv_iload_n hx hb dX7_takeEdge_17 rfl (lv_at hl 1 rfl) ?_
    refine lv_if_eq (tgt := 30) hx hb dX7_takeEdge_18 (by decide) (fun _ => ?_) (fun c13 => absurd c13 (by decide))
    refine lv_aload_n hx hb dX7_takeEdge_30 rfl (lv_at hl 2 rfl) ?_
    refine lv_bipush (v := 9) hx hb dX7_takeEdge_31 (by decide) ?_
    obtain ⟨⟨v14, σ15⟩, e_v14, h⟩ := g_bind h
    have h := g_let2 (v := v14) rfl h
    have h := g_let2 (v := σ15) rfl h
    refine g_calli (g_runV (n := 1) (As := [.int 9]) (rest := []) C G (mX7_takeDigit l X σ σ15 t 9 v14 ok e_v14) ok.1.2 (gE_7 ok.1.1) rfl (g_goodV u_ml_RX7_49 u_im_yX7_takeDigit u_se_yX7_takeDigit u_in_RX7 u_co_yX7_takeDigit) rfl rfl rfl (by decide +kernel) ⟨Nat.le_of_ble_eq_true rfl, Nat.le_of_ble_eq_true rfl⟩ rfl hl.1 rfl (Nat.le_of_ble_eq_true rfl) dX7_takeEdge_33 ⟨Nat.zero_le _, Nat.zero_le _⟩) G (fun H locs G => ?_)
    refine lv_bipush (v := 100) hx hb dX7_takeEdge_36 (by decide) ?_
    refine lv_imul hx hb dX7_takeEdge_38 ?_
    refine lv_topi (fun w16 e_w16 => ?_)
    have h := g_let2 e_w16 h
    refine lv_istore_n (lv' := [(3, .int w16), (2, .int 0), (0, .ref (xN X + t)), (1, .int a1)]) hx hb dX7_takeEdge_39 rfl hl (by decide) rfl (fun ls hl => ?_)
    refine lv_iload_n hx hb dX7_takeEdge_40 rfl (lv_at hl 0 rfl) ?_
    refine lv_aload_n hx hb dX7_takeEdge_41 rfl (lv_at hl 2 rfl) ?_
    refine lv_bipush (v := 9) hx hb dX7_takeEdge_42 (by decide) ?_
    obtain ⟨⟨v17, σ18⟩, e_v17, h⟩ := g_bind h
    have h := g_let2 (v := v17) rfl h
    have h := g_let2 (v := σ18) rfl h
    refine g_calli (g_runV (n := 1) (As := [.int 9]) (rest := [.int w16]) C G (mX7_takeDigit l X σ15 σ18 t 9 v17 ok e_v17) ok.1.2 (gE_7 ok.1.1) rfl (g_goodV u_ml_RX7_49 u_im_yX7_takeDigit u_se_yX7_takeDigit u_in_RX7 u_co_yX7_takeDigit) rfl rfl rfl (by decide +kernel) ⟨Nat.le_of_ble_eq_true rfl, Nat.le_of_ble_eq_true rfl⟩ rfl hl.1 rfl (Nat.le_of_ble_eq_true rfl) dX7_takeEdge_44 ⟨Nat.zero_le _, Nat.zero_le _⟩) G (fun H locs G => ?_)
    refine lv_bipush (v := 10) hx hb dX7_takeEdge_47 (by decide) ?_
    refine lv_imul hx hb dX7_takeEdge_49 ?_
    refine lv_iadd hx hb dX7_takeEdge_50 ?_
    refine lv_topi (fun w19 e_w19 => ?_)
    have h := g_let2 e_w19 h
    refine lv_istore_n (lv' := [(3, .int w19), (2, .int 0), (0, .ref (xN X + t)), (1, .int a1)]) hx hb dX7_takeEdge_51 rfl hl (by decide) rfl (fun ls hl => ?_)
    refine lv_iload_n hx hb dX7_takeEdge_52 rfl (lv_at hl 0 rfl) ?_
    refine lv_aload_n hx hb dX7_takeEdge_53 rfl (lv_at hl 2 rfl) ?_
    refine lv_bipush (v := 9) hx hb dX7_takeEdge_54 (by decide) ?_
    obtain ⟨⟨v20, σ21⟩, e_v20, h⟩ := g_bind h
    have h := g_let2 (v := v20) rfl h
    have h := g_let2 (v := σ21) rfl h
    refine g_calli (g_runV (n := 1) (As := [.int 9]) (rest := [.int w19]) C G (mX7_takeDigit l X σ18 σ21 t 9 v20 ok e_v20) ok.1.2 (gE_7 ok.1.1) rfl (g_goodV u_ml_RX7_49 u_im_yX7_takeDigit u_se_yX7_takeDigit u_in_RX7 u_co_yX7_takeDigit) rfl rfl rfl (by decide +kernel) ⟨Nat.le_of_ble_eq_true rfl, Nat.le_of_ble_eq_true rfl⟩ rfl hl.1 rfl (Nat.le_of_ble_eq_true rfl) dX7_takeEdge_56 ⟨Nat.zero_le _, Nat.zero_le _⟩) G (fun H locs G => ?_)
    refine lv_iadd hx hb dX7_takeEdge_59 ?_
    refine lv_topi (fun w22 e_w22 => ?_)
    have h := g_let2 e_w22 h
    refine lv_istore_n (lv' := [(3, .int w22), (2, .int 0), (0, .ref (xN X + t)), (1, .int a1)]) hx hb dX7_takeEdge_60 rfl hl (by decide) rfl (fun ls hl => ?_)
    refine lv_aload_n hx hb dX7_takeEdge_61 rfl (lv_at hl 2 rfl) ?_
    refine lv_bipush (v := 47) hx hb dX7_takeEdge_62 (by decide) ?_
    obtain ⟨σ24, e_σ24, h⟩ := g_bind h
    refine g_callv (g_runV (n := 1) (As := [.int 47]) (rest := []) C G (mX7_takeSign l X σ21 σ24 t 47 ok e_σ24) ok.1.2 (gE_7 ok.1.1) rfl (g_goodV u_ml_RX7_42 u_im_yX7_takeSign u_se_yX7_takeSign u_in_RX7 u_co_yX7_takeSign) rfl rfl rfl (by decide +kernel) ⟨Nat.le_of_ble_eq_true rfl, Nat.le_of_ble_eq_true rfl⟩ rfl hl.1 rfl (Nat.le_of_ble_eq_true rfl) dX7_takeEdge_64 ⟨Nat.zero_le _, Nat.zero_le _⟩) G (fun H locs G => ?_)
    refine lv_aload_n hx hb dX7_takeEdge_67 rfl (lv_at hl 2 rfl) ?_
    refine gg7_1 C G ok.1 ok.2.1.2 u_fl_RX7_23 dX7_takeEdge_68 ?_
    refine lv_iload_n hx hb dX7_takeEdge_71 rfl (lv_at hl 3 rfl) ?_
    refine lv_iload_n hx hb dX7_takeEdge_72 rfl (lv_at hl 0 rfl) ?_
    refine lv_aload_n hx hb dX7_takeEdge_73 rfl (lv_at hl 2 rfl) ?_
    refine lv_iload_n hx hb dX7_takeEdge_74 rfl (lv_at hl 1 rfl) ?_
    refine lv_if_eq (tgt := 82) hx hb dX7_takeEdge_75 (by decide) (fun _ => ?_) (fun c25 => absurd c25 (by decide))
    refine lv_bipush (v := 9) hx hb dX7_takeEdge_82 (by decide) ?_
    obtain ⟨⟨v26, σ27⟩, e_v26, h⟩ := g_bind h
    have h := g_let2 (v := v26) rfl h
    have h := g_let2 (v := σ27) rfl h
    refine g_calli (g_runV (n := 1) (As := [.int 9]) (rest := [.int w22, .int a1, .ref (xN X + (t + 3))]) C G (mX7_takeDigit l X σ24 σ27 t 9 v26 ok e_v26) ok.1.2 (gE_7 ok.1.1) rfl (g_goodV u_ml_RX7_49 u_im_yX7_takeDigit u_se_yX7_takeDigit u_in_RX7 u_co_yX7_takeDigit) rfl rfl rfl (by decide +kernel) ⟨Nat.le_of_ble_eq_true rfl, Nat.le_of_ble_eq_true rfl⟩ rfl hl.1 rfl (Nat.le_of_ble_eq_true rfl) dX7_takeEdge_84 ⟨Nat.zero_le _, Nat.zero_le _⟩) G (fun H locs G => ?_)
    obtain ⟨σ29, e_σ29, h⟩ := g_bind h
    refine g_callv (g_runV (n := 3) (As := [.int a1, .int w22, .int v26]) (rest := []) C G (mX1_setEdge l X σ27 σ29 (t + 3) a1 w22 v26 ok.2.2.2 e_σ29) ok.2.2.2.1.2 (gE_1 ok.2.2.2.1.1) rfl (g_goodV u_ml_RX7_60 u_im_yX1_setEdge u_se_yX1_setEdge u_in_RX1 u_co_yX1_setEdge) rfl rfl rfl (by decide +kernel) ⟨Nat.le_of_ble_eq_true rfl, Nat.le_of_ble_eq_true rfl⟩ rfl hl.1 rfl (Nat.le_of_ble_eq_true rfl) dX7_takeEdge_87 ⟨Nat.zero_le _, Nat.zero_le _⟩) G (fun H locs G => ?_)
    exact ret dX7_takeEdge_90 G (Option.some.inj h)
  · have h := g_it h c2
    refine lv_iconst (v := 1) hx hb dX7_takeEdge_9 (by decide) ?_
    refine lv_goto (tgt := 14) hx hb dX7_takeEdge_10 (by decide) ?_
    refine lv_istore_n (lv' := [(2, .int 1), (0, .ref (xN X + t)), (1, .int a1)]) hx hb dX7_takeEdge_14 rfl hl (by decide) rfl (fun ls hl => ?_)
    refine lv_iconst (v := (-1)) hx hb dX7_takeEdge_15 (by decide) ?_
    refine lv_istore_n (lv' := [(3, .int (-1)), (2, .int 1), (0, .ref (xN X + t)), (1, .int a1)]) hx hb dX7_takeEdge_16 rfl hl (by decide) rfl (fun ls hl => ?_)
    refine lv_iload_n hx hb dX7_takeEdge_17 rfl (lv_at hl 1 rfl) ?_
    refine lv_if_eq (tgt := 30) hx hb dX7_takeEdge_18 (by decide) (fun c3 => absurd c3 (by decide)) (fun _ => ?_)
    refine lv_aload_n hx hb dX7_takeEdge_21 rfl (lv_at hl 2 rfl) ?_
    refine lv_bipush (v := 45) hx hb dX7_takeEdge_22 (by decide) ?_
    obtain ⟨σ5, e_σ5, h⟩ := g_bind h
    refine g_callv (g_runV (n := 1) (As := [.int 45]) (rest := []) C G (mX7_takeSign l X σ σ5 t 45 ok e_σ5) ok.1.2 (gE_7 ok.1.1) rfl (g_goodV u_ml_RX7_42 u_im_yX7_takeSign u_se_yX7_takeSign u_in_RX7 u_co_yX7_takeSign) rfl rfl rfl (by decide +kernel) ⟨Nat.le_of_ble_eq_true rfl, Nat.le_of_ble_eq_true rfl⟩ rfl hl.1 rfl (Nat.le_of_ble_eq_true rfl) dX7_takeEdge_24 ⟨Nat.zero_le _, Nat.zero_le _⟩) G (fun H locs G => ?_)
    refine lv_goto (tgt := 61) hx hb dX7_takeEdge_27 (by decide) ?_
    refine lv_aload_n hx hb dX7_takeEdge_61 rfl (lv_at hl 2 rfl) ?_
    refine lv_bipush (v := 47) hx hb dX7_takeEdge_62 (by decide) ?_
    obtain ⟨σ7, e_σ7, h⟩ := g_bind h
    refine g_callv (g_runV (n := 1) (As := [.int 47]) (rest := []) C G (mX7_takeSign l X σ5 σ7 t 47 ok e_σ7) ok.1.2 (gE_7 ok.1.1) rfl (g_goodV u_ml_RX7_42 u_im_yX7_takeSign u_se_yX7_takeSign u_in_RX7 u_co_yX7_takeSign) rfl rfl rfl (by decide +kernel) ⟨Nat.le_of_ble_eq_true rfl, Nat.le_of_ble_eq_true rfl⟩ rfl hl.1 rfl (Nat.le_of_ble_eq_true rfl) dX7_takeEdge_64 ⟨Nat.zero_le _, Nat.zero_le _⟩) G (fun H locs G => ?_)
    refine lv_aload_n hx hb dX7_takeEdge_67 rfl (lv_at hl 2 rfl) ?_
    refine gg7_1 C G ok.1 ok.2.1.2 u_fl_RX7_23 dX7_takeEdge_68 ?_
    refine lv_iload_n hx hb dX7_takeEdge_71 rfl (lv_at hl 3 rfl) ?_
    refine lv_iload_n hx hb dX7_takeEdge_72 rfl (lv_at hl 0 rfl) ?_
    refine lv_aload_n hx hb dX7_takeEdge_73 rfl (lv_at hl 2 rfl) ?_
    refine lv_iload_n hx hb dX7_takeEdge_74 rfl (lv_at hl 1 rfl) ?_
    refine lv_if_eq (tgt := 82) hx hb dX7_takeEdge_75 (by decide) (fun c8 => absurd c8 (by decide)) (fun _ => ?_)
    refine lv_iconst (v := 0) hx hb dX7_takeEdge_78 (by decide) ?_
    refine lv_goto (tgt := 84) hx hb dX7_takeEdge_79 (by decide) ?_
    obtain ⟨⟨v9, σ10⟩, e_v9, h⟩ := g_bind h
    have h := g_let2 (v := v9) rfl h
    have h := g_let2 (v := σ10) rfl h
    refine g_calli (g_runV (n := 1) (As := [.int 0]) (rest := [.int (-1), .int a1, .ref (xN X + (t + 3))]) C G (mX7_takeDigit l X σ7 σ10 t 0 v9 ok e_v9) ok.1.2 (gE_7 ok.1.1) rfl (g_goodV u_ml_RX7_49 u_im_yX7_takeDigit u_se_yX7_takeDigit u_in_RX7 u_co_yX7_takeDigit) rfl rfl rfl (by decide +kernel) ⟨Nat.le_of_ble_eq_true rfl, Nat.le_of_ble_eq_true rfl⟩ rfl hl.1 rfl (Nat.le_of_ble_eq_true rfl) dX7_takeEdge_84 ⟨Nat.zero_le _, Nat.zero_le _⟩) G (fun H locs G => ?_)
    obtain ⟨σ12, e_σ12, h⟩ := g_bind h
    refine g_callv (g_runV (n := 3) (As := [.int a1, .int (-1), .int v9]) (rest := []) C G (mX1_setEdge l X σ10 σ12 (t + 3) a1 (-1) v9 ok.2.2.2 e_σ12) ok.2.2.2.1.2 (gE_1 ok.2.2.2.1.1) rfl (g_goodV u_ml_RX7_60 u_im_yX1_setEdge u_se_yX1_setEdge u_in_RX1 u_co_yX1_setEdge) rfl rfl rfl (by decide +kernel) ⟨Nat.le_of_ble_eq_true rfl, Nat.le_of_ble_eq_true rfl⟩ rfl hl.1 rfl (Nat.le_of_ble_eq_true rfl) dX7_takeEdge_87 ⟨Nat.zero_le _, Nat.zero_le _⟩) G (fun H locs G => ?_)
    exact ret dX7_takeEdge_90 G (Option.some.inj h)

def fX7_read_12 (t : Nat) : Nat → gM → Int32 → Option (gM)
  | 0, _, _ => none
  | n + 1, σ, x1 =>
    (if 4 ≤ x1 then
      ((fX7_takeSign σ t 59).bind fun σ5 =>
      ((fX7_takeDigit σ5 t 1).bind fun pv6 => gl pv6.1 fun v6 => gl pv6.2 fun σ7 =>
      ((fX1_setKind σ7 (t + 3) v6).bind fun σ9 =>
      (if (σ9 t 4) = 0 then
        (gl (gset σ9 t (upd (σ9 t) 4 0)) fun σ11 =>
        some σ11)
      else
        (if (σ9 t 3) = (σ9 t 2) then
          (gl (gset σ9 t (upd (σ9 t) 4 1)) fun σ13 =>
          some σ13)
        else
          (gl (gset σ9 t (upd (σ9 t) 4 0)) fun σ14 =>
          some σ14))))))
    else
      (if x1 ≤ 0 then
        ((fX7_takeEdge σ t x1).bind fun σ17 =>
        (gl (x1 + 1) fun w18 =>
        fX7_read_12 t n σ17 w18))
      else
        ((fX7_takeSign σ t 44).bind fun σ20 =>
        ((fX7_takeEdge σ20 t x1).bind fun σ22 =>
        (gl (x1 + 1) fun w23 =>
        fX7_read_12 t n σ22 w23)))))

def fX7_read (σ : gM) (t : Nat) : Option (gM) :=
  (gl (gset σ t (upd (σ t) 3 0)) fun σ1 =>
  (gl (gset σ1 t (upd (σ1 t) 4 1)) fun σ2 =>
  fX7_read_12 t gF σ2 0))
set_option maxHeartbeats 4000000 in
set_option maxRecDepth 100000 in
theorem mX7_read (l : Launch) (X : gX) (σ σ' : gM) (t : Nat) (ok : gok7 X t) (h : fX7_read σ t = some σ') : Met l yX7_read (Cond.code yX7_read cX7_read 2 none :: gBig) ({ frames := 4, cells := 0, slots := 0, locals := 86 }) (gPc X σ [.ref (xN X + t)]) (gQv X σ') 0 0 (xA X) := by
  refine g_metv (cc := cX7_read) (maxL := 2) (own := RX7) (by decide) rfl rfl (Nat.le_of_ble_eq_true rfl) ?_
  intro p ev s m args below meth c Q C G ret ls hl
  obtain ⟨⟨hx, hb, hml, hown, hts⟩, hK⟩ := id C
  have hl : lv_has ls 2 [(0, .ref (xN X + t))] := hl
  have L12 : ∀ (n : Nat) (H : Heap) (locs : List Loc) (ls : Array Slot) (σ : gM) (x1 : Int32), gG X σ s H locs → lv_has ls 2 [(0, .ref (xN X + t)), (1, .int x1)] → fX7_read_12 t n σ x1 = some σ' → W p l ev ({ frames := 4, cells := 0, slots := 0, locals := 86 }) s m args below meth c H locs 0 0 Q (F0 m 12 ls []) := by
    intro n
    induction n with
    | zero =>
      intro H locs ls σ x1 G hl h
      rw [fX7_read_12] at h
      cases h
    | succ n ih =>
      intro H locs ls σ x1 G hl h
      rw [fX7_read_12] at h
      refine lv_iload_n hx hb dX7_read_12 rfl (lv_at hl 1 rfl) ?_
      refine lv_iconst (v := 4) hx hb dX7_read_13 (by decide) ?_
      refine lv_icmp_ge (tgt := 38) hx hb dX7_read_14 (by decide) (fun c3 => ?_) (fun c3 => ?_)
      · have h := g_it h c3
        refine lv_aload_n hx hb dX7_read_38 rfl (lv_at hl 0 rfl) ?_
        refine lv_bipush (v := 59) hx hb dX7_read_39 (by decide) ?_
        obtain ⟨σ5, e_σ5, h⟩ := g_bind h
        refine g_callv (g_runV (n := 1) (As := [.int 59]) (rest := []) C G (mX7_takeSign l X σ σ5 t 59 ok e_σ5) ok.1.2 (gE_7 ok.1.1) rfl (g_goodV u_ml_RX7_42 u_im_yX7_takeSign u_se_yX7_takeSign u_in_RX7 u_co_yX7_takeSign) rfl rfl rfl (by decide +kernel) ⟨Nat.le_of_ble_eq_true rfl, Nat.le_of_ble_eq_true rfl⟩ rfl hl.1 rfl (Nat.le_of_ble_eq_true rfl) dX7_read_41 ⟨Nat.zero_le _, Nat.zero_le _⟩) G (fun H locs G => ?_)
        refine lv_aload_n hx hb dX7_read_44 rfl (lv_at hl 0 rfl) ?_
        refine gg7_1 C G ok.1 ok.2.1.2 u_fl_RX7_23 dX7_read_45 ?_
        refine lv_aload_n hx hb dX7_read_48 rfl (lv_at hl 0 rfl) ?_
        refine lv_iconst (v := 1) hx hb dX7_read_49 (by decide) ?_
        obtain ⟨⟨v6, σ7⟩, e_v6, h⟩ := g_bind h
        have h := g_let2 (v := v6) rfl h
        have h := g_let2 (v := σ7) rfl h
        refine g_calli (g_runV (n := 1) (As := [.int 1]) (rest := [.ref (xN X + (t + 3))]) C G (mX7_takeDigit l X σ5 σ7 t 1 v6 ok e_v6) ok.1.2 (gE_7 ok.1.1) rfl (g_goodV u_ml_RX7_49 u_im_yX7_takeDigit u_se_yX7_takeDigit u_in_RX7 u_co_yX7_takeDigit) rfl rfl rfl (by decide +kernel) ⟨Nat.le_of_ble_eq_true rfl, Nat.le_of_ble_eq_true rfl⟩ rfl hl.1 rfl (Nat.le_of_ble_eq_true rfl) dX7_read_50 ⟨Nat.zero_le _, Nat.zero_le _⟩) G (fun H locs G => ?_)
        obtain ⟨σ9, e_σ9, h⟩ := g_bind h
        refine g_callv (g_runV (n := 1) (As := [.int v6]) (rest := []) C G (mX1_setKind l X σ7 σ9 (t + 3) v6 ok.2.2.2 e_σ9) ok.2.2.2.1.2 (gE_1 ok.2.2.2.1.1) rfl (g_goodV u_ml_RX7_53 u_im_yX1_setKind u_se_yX1_setKind u_in_RX1 u_co_yX1_setKind) rfl rfl rfl (by decide +kernel) ⟨Nat.le_of_ble_eq_true rfl, Nat.le_of_ble_eq_true rfl⟩ rfl hl.1 rfl (Nat.le_of_ble_eq_true rfl) dX7_read_53 ⟨Nat.zero_le _, Nat.zero_le _⟩) G (fun H locs G => ?_)
        refine lv_aload_n hx hb dX7_read_56 rfl (lv_at hl 0 rfl) ?_
        refine lv_aload_n hx hb dX7_read_57 rfl (lv_at hl 0 rfl) ?_
        refine gg7_4 C G ok.1 u_fl_RX7_34 dX7_read_58 ?_
        refine lv_if_eq (tgt := 79) hx hb dX7_read_61 (by decide) (fun c10 => ?_) (fun c10 => ?_)
        · have h := g_it h c10
          refine lv_iconst (v := 0) hx hb dX7_read_79 (by decide) ?_
          obtain ⟨σ11, e_σ11, h⟩ := g_let h
          refine gp7_4 C G ok.1 u_fl_RX7_34 (by decide) dX7_read_80 (fun H locs G => ?_)
          rw [e_σ11] at G
          exact ret dX7_read_83 G (Option.some.inj h)
        · have h := g_if h c10
          refine lv_aload_n hx hb dX7_read_64 rfl (lv_at hl 0 rfl) ?_
          refine gg7_3 C G ok.1 u_fl_RX7_31 dX7_read_65 ?_
          refine lv_aload_n hx hb dX7_read_68 rfl (lv_at hl 0 rfl) ?_
          refine gg7_2 C G ok.1 u_fl_RX7_27 dX7_read_69 ?_
          refine lv_icmp_ne (tgt := 79) hx hb dX7_read_72 (by decide) (fun c12 => ?_) (fun c12 => ?_)
          · have h := g_if h c12
            refine lv_iconst (v := 0) hx hb dX7_read_79 (by decide) ?_
            obtain ⟨σ14, e_σ14, h⟩ := g_let h
            refine gp7_4 C G ok.1 u_fl_RX7_34 (by decide) dX7_read_80 (fun H locs G => ?_)
            rw [e_σ14] at G
            exact ret dX7_read_83 G (Option.some.inj h)
          · have h := g_it h c12
            refine lv_iconst (v := 1) hx hb dX7_read_75 (by decide) ?_
            refine lv_goto (tgt := 80) hx hb dX7_read_76 (by decide) ?_
            obtain ⟨σ13, e_σ13, h⟩ := g_let h
            refine gp7_4 C G ok.1 u_fl_RX7_34 (by decide) dX7_read_80 (fun H locs G => ?_)
            rw [e_σ13] at G
            exact ret dX7_read_83 G (Option.some.inj h)
      · have h := g_if h c3
        refine lv_iload_n hx hb dX7_read_17 rfl (lv_at hl 1 rfl) ?_
        refine lv_if_le (tgt := 27) hx hb dX7_read_18 (by decide) (fun c15 => ?_) (fun c15 => ?_)
        · have h := g_it h c15
          refine lv_aload_n hx hb dX7_read_27 rfl (lv_at hl 0 rfl) ?_
          refine lv_iload_n hx hb dX7_read_28 rfl (lv_at hl 1 rfl) ?_
          obtain ⟨σ17, e_σ17, h⟩ := g_bind h
          refine g_callv (g_runV (n := 1) (As := [.int x1]) (rest := []) C G (mX7_takeEdge l X σ σ17 t x1 ok e_σ17) ok.1.2 (gE_7 ok.1.1) rfl (g_goodV u_ml_RX7_46 u_im_yX7_takeEdge u_se_yX7_takeEdge u_in_RX7 u_co_yX7_takeEdge) rfl rfl rfl (by decide +kernel) ⟨Nat.le_of_ble_eq_true rfl, Nat.le_of_ble_eq_true rfl⟩ rfl hl.1 rfl (Nat.le_of_ble_eq_true rfl) dX7_read_29 ⟨Nat.zero_le _, Nat.zero_le _⟩) G (fun H locs G => ?_)
          obtain ⟨w18, e_w18⟩ : ∃ y : Int32, y = x1 + 1 := ⟨_, rfl⟩
          have h := g_let2 e_w18 h
          refine lv_iinc (v := w18) (lv' := [(1, .int w18), (0, .ref (xN X + t))]) hx hb dX7_read_32 hl (k := 1) rfl (by rw [e_w18]; rfl) (by decide) rfl (fun ls hl => ?_)
          refine lv_goto (tgt := 12) hx hb dX7_read_35 (by decide) ?_
          exact ih _ _ _ σ17 w18 G (lv_sub hl [1, 0] rfl) h
        · have h := g_if h c15
          refine lv_aload_n hx hb dX7_read_21 rfl (lv_at hl 0 rfl) ?_
          refine lv_bipush (v := 44) hx hb dX7_read_22 (by decide) ?_
          obtain ⟨σ20, e_σ20, h⟩ := g_bind h
          refine g_callv (g_runV (n := 1) (As := [.int 44]) (rest := []) C G (mX7_takeSign l X σ σ20 t 44 ok e_σ20) ok.1.2 (gE_7 ok.1.1) rfl (g_goodV u_ml_RX7_42 u_im_yX7_takeSign u_se_yX7_takeSign u_in_RX7 u_co_yX7_takeSign) rfl rfl rfl (by decide +kernel) ⟨Nat.le_of_ble_eq_true rfl, Nat.le_of_ble_eq_true rfl⟩ rfl hl.1 rfl (Nat.le_of_ble_eq_true rfl) dX7_read_24 ⟨Nat.zero_le _, Nat.zero_le _⟩) G (fun H locs G => ?_)
          refine lv_aload_n hx hb dX7_read_27 rfl (lv_at hl 0 rfl) ?_
          refine lv_iload_n hx hb dX7_read_28 rfl (lv_at hl 1 rfl) ?_
          obtain ⟨σ22, e_σ22, h⟩ := g_bind h
          refine g_callv (g_runV (n := 1) (As := [.int x1]) (rest := []) C G (mX7_takeEdge l X σ20 σ22 t x1 ok e_σ22) ok.1.2 (gE_7 ok.1.1) rfl (g_goodV u_ml_RX7_46 u_im_yX7_takeEdge u_se_yX7_takeEdge u_in_RX7 u_co_yX7_takeEdge) rfl rfl rfl (by decide +kernel) ⟨Nat.le_of_ble_eq_true rfl, Nat.le_of_ble_eq_true rfl⟩ rfl hl.1 rfl (Nat.le_of_ble_eq_true rfl) dX7_read_29 ⟨Nat.zero_le _, Nat.zero_le _⟩) G (fun H locs G => ?_)
          obtain ⟨w23, e_w23⟩ : ∃ y : Int32, y = x1 + 1 := ⟨_, rfl⟩
          have h := g_let2 e_w23 h
          refine lv_iinc (v := w23) (lv' := [(1, .int w23), (0, .ref (xN X + t))]) hx hb dX7_read_32 hl (k := 1) rfl (by rw [e_w23]; rfl) (by decide) rfl (fun ls hl => ?_)
          refine lv_goto (tgt := 12) hx hb dX7_read_35 (by decide) ?_
          exact ih _ _ _ σ22 w23 G (lv_sub hl [1, 0] rfl) h
  unfold fX7_read at h
  refine lv_aload_n hx hb dX7_read_0 rfl (lv_at hl 0 rfl) ?_
  refine lv_iconst (v := 0) hx hb dX7_read_1 (by decide) ?_
  obtain ⟨σ1, e_σ1, h⟩ := g_let h
  refine gp7_3 C G ok.1 u_fl_RX7_31 dX7_read_2 (fun H locs G => ?_)
  rw [e_σ1] at G
  refine lv_aload_n hx hb dX7_read_5 rfl (lv_at hl 0 rfl) ?_
  refine lv_iconst (v := 1) hx hb dX7_read_6 (by decide) ?_
  obtain ⟨σ2, e_σ2, h⟩ := g_let h
  refine gp7_4 C G ok.1 u_fl_RX7_34 (by decide) dX7_read_7 (fun H locs G => ?_)
  rw [e_σ2] at G
  refine lv_iconst (v := 0) hx hb dX7_read_10 (by decide) ?_
  refine lv_istore_n (lv' := [(1, .int 0), (0, .ref (xN X + t))]) hx hb dX7_read_11 rfl hl (by decide) rfl (fun ls hl => ?_)
  exact L12  gF _ _ _ σ2 0 G (lv_sub hl [1, 0] rfl) h

def fX7_isSound (σ : gM) (t : Nat) : Option (Int32) :=
  (if (σ t 4) = 0 ∨ (σ t 4) = 1 then
  some (σ t 4)
  else none)
set_option maxHeartbeats 4000000 in
set_option maxRecDepth 100000 in
theorem mX7_isSound (l : Launch) (X : gX) (σ : gM) (t : Nat) (r : Int32) (ok : gok7 X t) (h : fX7_isSound σ t = some r) : Met l yX7_isSound (Cond.code yX7_isSound cX7_isSound 1 (some .boolean) :: gBig) ({ frames := 0, cells := 0, slots := 0, locals := 0 }) (gPc X σ [.ref (xN X + t)]) (gQi X σ r) 0 0 (xA X) := by
  refine g_meti (cc := cX7_isSound) (maxL := 1) (own := RX7) (by decide) rfl rfl (Nat.le_of_ble_eq_true rfl) ?_
  intro p ev s m args below meth c Q C G ret ls hl
  obtain ⟨⟨hx, hb, hml, hown, hts⟩, hK⟩ := id C
  have hl : lv_has ls 1 [(0, .ref (xN X + t))] := hl
  unfold fX7_isSound at h
  refine lv_aload_n hx hb dX7_isSound_0 rfl (lv_at hl 0 rfl) ?_
  refine gg7_4 C G ok.1 u_fl_RX7_34 dX7_isSound_1 ?_
  obtain ⟨c1, h⟩ := g_chk h
  exact ret dX7_isSound_4 (g_z c1) G ⟨Option.some.inj h, rfl⟩

def fX7_draft (σ : gM) (t : Nat) : Option ((Option Nat)) :=
  some (some (t + 3))
set_option maxHeartbeats 4000000 in
set_option maxRecDepth 100000 in
theorem mX7_draft (l : Launch) (X : gX) (σ : gM) (t : Nat) (r : Option Nat) (ok : gok7 X t) (h : fX7_draft σ t = some r) : Met l yX7_draft (Cond.code yX7_draft cX7_draft 1 (some (.object "TornPages$Draft")) :: gBig) ({ frames := 0, cells := 0, slots := 0, locals := 0 }) (gPc X σ [.ref (xN X + t)]) (gQr X σ r) 0 0 (xA X) := by
  refine g_metr (cc := cX7_draft) (maxL := 1) (own := RX7) (by decide) rfl rfl (Nat.le_of_ble_eq_true rfl) ?_
  intro p ev s m args below meth c Q C G ret ls hl
  obtain ⟨⟨hx, hb, hml, hown, hts⟩, hK⟩ := id C
  have hl : lv_has ls 1 [(0, .ref (xN X + t))] := hl
  unfold fX7_draft at h
  refine lv_aload_n hx hb dX7_draft_0 rfl (lv_at hl 0 rfl) ?_
  refine gg7_1 C G ok.1 ok.2.1.2 u_fl_RX7_23 dX7_draft_1 ?_
  exact ret (v := (some (t + 3))) dX7_draft_4 G ⟨Option.some.inj h, rfl⟩
theorem okX7_draft {X : gX} {σ : gM} {t k : Nat} (ok : gok7 X t) (h : fX7_draft σ t = some (some k)) : gok1 X k := by
  unfold fX7_draft at h
  have e : t + 3 = k := Option.some.inj (Option.some.inj h)
  rw [← e]
  exact ok.2.2.2

def fX8_add (σ : gM) (t : Nat) : Option (Int32 × gM) :=
  ((fX7_read σ (t + 111)).bind fun σ2 =>
  ((fX7_isSound σ2 (t + 111)).bind fun v3 =>
  (if v3 = 0 then
    some ((-1002), σ2)
  else
    ((fX6_size σ2 ((t + 1) + 1)).bind fun v5 =>
    (if v5 < 12 then
      ((fX7_draft σ2 (t + 111)).bind fun v7 =>
      (go v7 (
        none)
        fun k8 =>
        ((fX8_append σ2 t k8).bind fun pv9 => gl pv9.1 fun v9 => gl pv9.2 fun σ10 =>
        some (v9, σ10))))
    else
      some ((-1003), σ2))))))
set_option maxHeartbeats 4000000 in
set_option maxRecDepth 100000 in
theorem mX8_add (l : Launch) (X : gX) (σ σ' : gM) (t : Nat) (r : Int32) (ok : gok8 X t) (h : fX8_add σ t = some (r, σ')) : Met l yX8_add (Cond.code yX8_add cX8_add 1 (some .int) :: gBig) ({ frames := 6, cells := 0, slots := 0, locals := 171 }) (gPc X σ [.ref (xN X + t)]) (gQi X σ' r) 0 0 (xA X) := by
  refine g_meti (cc := cX8_add) (maxL := 1) (own := RX8) (by decide) rfl rfl (Nat.le_of_ble_eq_true rfl) ?_
  intro p ev s m args below meth c Q C G ret ls hl
  obtain ⟨⟨hx, hb, hml, hown, hts⟩, hK⟩ := id C
  have hl : lv_has ls 1 [(0, .ref (xN X + t))] := hl
  unfold fX8_add at h
  refine lv_aload_n hx hb dX8_add_0 rfl (lv_at hl 0 rfl) ?_
  refine gg8_4 C G ok.1 ok.2.1.2.2.2.2.1 u_fl_RX8_36 dX8_add_1 ?_
  obtain ⟨σ2, e_σ2, h⟩ := g_bind h
  refine g_callv (g_runV (n := 0) (As := []) (rest := []) C G (mX7_read l X σ σ2 (t + 111) ok.2.2.2.2.2.2.1 e_σ2) ok.2.2.2.2.2.2.1.1.2 (gE_7 ok.2.2.2.2.2.2.1.1.1) rfl (g_goodV u_ml_RX8_94 u_im_yX7_read u_se_yX7_read u_in_RX7 u_co_yX7_read) rfl rfl rfl (by decide +kernel) ⟨Nat.le_of_ble_eq_true rfl, Nat.le_of_ble_eq_true rfl⟩ rfl hl.1 rfl (Nat.le_of_ble_eq_true rfl) dX8_add_4 ⟨Nat.zero_le _, Nat.zero_le _⟩) G (fun H locs G => ?_)
  refine lv_aload_n hx hb dX8_add_7 rfl (lv_at hl 0 rfl) ?_
  refine gg8_4 C G ok.1 ok.2.1.2.2.2.2.1 u_fl_RX8_36 dX8_add_8 ?_
  obtain ⟨v3, e_v3, h⟩ := g_bind h
  refine g_calli (g_runV (n := 0) (As := []) (rest := []) C G (mX7_isSound l X σ2 (t + 111) v3 ok.2.2.2.2.2.2.1 e_v3) ok.2.2.2.2.2.2.1.1.2 (gE_7 ok.2.2.2.2.2.2.1.1.1) rfl (g_goodV u_ml_RX8_97 u_im_yX7_isSound u_se_yX7_isSound u_in_RX7 u_co_yX7_isSound) rfl rfl rfl (by decide +kernel) ⟨Nat.le_of_ble_eq_true rfl, Nat.le_of_ble_eq_true rfl⟩ rfl hl.1 rfl (Nat.le_of_ble_eq_true rfl) dX8_add_11 ⟨Nat.zero_le _, Nat.zero_le _⟩) G (fun H locs G => ?_)
  refine lv_if_ne (tgt := 21) hx hb dX8_add_14 (by decide) (fun c4 => ?_) (fun c4 => ?_)
  · have h := g_if h c4
    refine lv_aload_n hx hb dX8_add_21 rfl (lv_at hl 0 rfl) ?_
    refine gg8_0 C G ok.1 ok.2.1.1 u_fl_RX8_10 dX8_add_22 ?_
    refine gn0_0 C G ok.2.2.1.1 ok.2.2.1.2.1.1 (List.mem_of_getElem? (i := 1) rfl) dX8_add_25 ?_
    obtain ⟨v5, e_v5, h⟩ := g_bind h
    refine g_calli (g_runV (n := 0) (As := []) (rest := []) C G (mX6_size l X σ2 ((t + 1) + 1) v5 ok.2.2.1.2.2.1 e_v5) ok.2.2.1.2.2.1.1.2 (gE_6 ok.2.2.1.2.2.1.1.1) rfl (g_goodV u_ml_RX8_77 u_im_yX6_size u_se_yX6_size u_in_RX6 u_co_yX6_size) rfl rfl rfl (by decide +kernel) ⟨Nat.le_of_ble_eq_true rfl, Nat.le_of_ble_eq_true rfl⟩ rfl hl.1 rfl (Nat.le_of_ble_eq_true rfl) dX8_add_28 ⟨Nat.zero_le _, Nat.zero_le _⟩) G (fun H locs G => ?_)
    refine lv_bipush (v := 12) hx hb dX8_add_31 (by decide) ?_
    refine lv_icmp_lt (tgt := 40) hx hb dX8_add_33 (by decide) (fun c6 => ?_) (fun c6 => ?_)
    · have h := g_it h c6
      refine lv_aload_n hx hb dX8_add_40 rfl (lv_at hl 0 rfl) ?_
      refine lv_aload_n hx hb dX8_add_41 rfl (lv_at hl 0 rfl) ?_
      refine gg8_4 C G ok.1 ok.2.1.2.2.2.2.1 u_fl_RX8_36 dX8_add_42 ?_
      obtain ⟨v7, e_v7, h⟩ := g_bind h
      refine g_callr (g_runV (n := 0) (As := []) (rest := [.ref (xN X + t)]) C G (mX7_draft l X σ2 (t + 111) v7 ok.2.2.2.2.2.2.1 e_v7) ok.2.2.2.2.2.2.1.1.2 (gE_7 ok.2.2.2.2.2.2.1.1.1) rfl (g_goodV u_ml_RX8_101 u_im_yX7_draft u_se_yX7_draft u_in_RX7 u_co_yX7_draft) rfl rfl rfl (by decide +kernel) ⟨Nat.le_of_ble_eq_true rfl, Nat.le_of_ble_eq_true rfl⟩ rfl hl.1 rfl (Nat.le_of_ble_eq_true rfl) dX8_add_45 ⟨Nat.zero_le _, Nat.zero_le _⟩) G (fun H locs G => ?_)
      cases v7 with
      | none =>
        have h := g_gon h
        cases h
      | some k8 =>
        have h := g_gos h
        have okk8 := okX7_draft ok.2.2.2.2.2.2.1 e_v7
        obtain ⟨⟨v9, σ10⟩, e_v9, h⟩ := g_bind h
        have h := g_let2 (v := v9) rfl h
        have h := g_let2 (v := σ10) rfl h
        refine g_calli (g_runV (n := 1) (As := [.ref (xN X + k8)]) (rest := []) C G (mX8_append l X σ2 σ10 t k8 v9 ok okk8 e_v9) ok.1.2 (gE_8 ok.1.1) rfl (g_goodV u_ml_RX8_90 u_im_yX8_append u_se_yX8_append u_in_RX8 u_co_yX8_append) rfl rfl rfl (by decide +kernel) ⟨Nat.le_of_ble_eq_true rfl, Nat.le_of_ble_eq_true rfl⟩ rfl hl.1 rfl (Nat.le_of_ble_eq_true rfl) dX8_add_48 ⟨Nat.zero_le _, Nat.zero_le _⟩) G (fun H locs G => ?_)
        exact ret dX8_add_51 rfl G (Prod.mk.inj (Option.some.inj h))
    · have h := g_if h c6
      refine lv_sipush (v := (-1003)) hx hb dX8_add_36 (by decide) ?_
      exact ret dX8_add_39 rfl G (Prod.mk.inj (Option.some.inj h))
  · have h := g_it h c4
    refine lv_sipush (v := (-1002)) hx hb dX8_add_17 (by decide) ?_
    exact ret dX8_add_20 rfl G (Prod.mk.inj (Option.some.inj h))

def fX8_isScrap (σ : gM) (t : Nat) (a1 : Int32) : Option (Int32) :=
  ((fX6_size σ ((t + 1) + 1)).bind fun v1 =>
  ((fX8_isWithin σ a1 0 (v1 - 1)).bind fun v2 =>
  (if v2 = 0 ∨ v2 = 1 then
  some v2
  else none)))
set_option maxHeartbeats 4000000 in
set_option maxRecDepth 100000 in
theorem mX8_isScrap (l : Launch) (X : gX) (σ : gM) (t : Nat) (a1 : Int32) (r : Int32) (ok : gok8 X t) (h : fX8_isScrap σ t a1 = some r) : Met l yX8_isScrap (Cond.code yX8_isScrap cX8_isScrap 2 (some .boolean) :: gBig) ({ frames := 1, cells := 0, slots := 0, locals := 22 }) (gPc X σ [.ref (xN X + t), .int a1]) (gQi X σ r) 0 0 (xA X) := by
  refine g_meti (cc := cX8_isScrap) (maxL := 2) (own := RX8) (by decide) rfl rfl (Nat.le_of_ble_eq_true rfl) ?_
  intro p ev s m args below meth c Q C G ret ls hl
  obtain ⟨⟨hx, hb, hml, hown, hts⟩, hK⟩ := id C
  have hl : lv_has ls 2 [(0, .ref (xN X + t)), (1, .int a1)] := hl
  unfold fX8_isScrap at h
  refine lv_iload_n hx hb dX8_isScrap_0 rfl (lv_at hl 1 rfl) ?_
  refine lv_iconst (v := 0) hx hb dX8_isScrap_1 (by decide) ?_
  refine lv_aload_n hx hb dX8_isScrap_2 rfl (lv_at hl 0 rfl) ?_
  refine gg8_0 C G ok.1 ok.2.1.1 u_fl_RX8_10 dX8_isScrap_3 ?_
  refine gn0_0 C G ok.2.2.1.1 ok.2.2.1.2.1.1 (List.mem_of_getElem? (i := 1) rfl) dX8_isScrap_6 ?_
  obtain ⟨v1, e_v1, h⟩ := g_bind h
  refine g_calli (g_runV (n := 0) (As := []) (rest := [.int 0, .int a1]) C G (mX6_size l X σ ((t + 1) + 1) v1 ok.2.2.1.2.2.1 e_v1) ok.2.2.1.2.2.1.1.2 (gE_6 ok.2.2.1.2.2.1.1.1) rfl (g_goodV u_ml_RX8_77 u_im_yX6_size u_se_yX6_size u_in_RX6 u_co_yX6_size) rfl rfl rfl (by decide +kernel) ⟨Nat.le_of_ble_eq_true rfl, Nat.le_of_ble_eq_true rfl⟩ rfl hl.1 rfl (Nat.le_of_ble_eq_true rfl) dX8_isScrap_9 ⟨Nat.zero_le _, Nat.zero_le _⟩) G (fun H locs G => ?_)
  refine lv_iconst (v := 1) hx hb dX8_isScrap_12 (by decide) ?_
  refine lv_isub hx hb dX8_isScrap_13 ?_
  obtain ⟨v2, e_v2, h⟩ := g_bind h
  refine g_calli (g_runS (n := 3) (As := [.int a1, .int 0, .int (v1 - 1)]) (rest := []) C G (mX8_isWithin l X σ a1 0 (v1 - 1) v2 e_v2) (g_goodS u_ml_RX8_47 u_st_yX8_isWithin u_in_RX8 u_co_yX8_isWithin) rfl rfl rfl (by decide +kernel) ⟨Nat.le_of_ble_eq_true rfl, Nat.le_of_ble_eq_true rfl⟩ rfl hl.1 rfl (Nat.le_of_ble_eq_true rfl) dX8_isScrap_14 ⟨Nat.zero_le _, Nat.zero_le _⟩) G (fun H locs G => ?_)
  obtain ⟨c3, h⟩ := g_chk h
  exact ret dX8_isScrap_17 (g_z c3) G ⟨Option.some.inj h, rfl⟩

def fX5_cut (σ : gM) (t : Nat) (a1 : Int32) (a2 : Int32) : Option (gM) :=
  (gl (((nI (gln (t + 1))) - a2) - a1) fun w1 =>
  (if a1 < 0 then
    some σ
  else
    (if a2 < 0 then
      some σ
    else
      (if w1 < 0 then
        some σ
      else
        (if ¬ (a1 + a2) < 0 ∧ ¬ a1 < 0 ∧ ¬ w1 < 0 ∧ (a1 + a2).toNatClampNeg + w1.toNatClampNeg ≤ gln (t + 1) ∧ a1.toNatClampNeg + w1.toNatClampNeg ≤ gln (t + 1) then
        (gl (gset σ (t + 1) (va_cpy (σ (t + 1)) (σ (t + 1)) (a1 + a2).toNatClampNeg a1.toNatClampNeg w1.toNatClampNeg)) fun σ6 =>
        some σ6)
        else none)))))
set_option maxHeartbeats 4000000 in
set_option maxRecDepth 100000 in
theorem mX5_cut (l : Launch) (X : gX) (σ σ' : gM) (t : Nat) (a1 : Int32) (a2 : Int32) (ok : gok5 X t) (h : fX5_cut σ t a1 a2 = some σ') : Met l yX5_cut (Cond.code yX5_cut cX5_cut 4 none :: gBig) ({ frames := 1, cells := 0, slots := 0, locals := 64 }) (gPc X σ [.ref (xN X + t), .int a1, .int a2]) (gQv X σ') 0 0 (xA X) := by
  refine g_metv (cc := cX5_cut) (maxL := 4) (own := RX5) (by decide) rfl rfl (Nat.le_of_ble_eq_true rfl) ?_
  intro p ev s m args below meth c Q C G ret ls hl
  obtain ⟨⟨hx, hb, hml, hown, hts⟩, hK⟩ := id C
  have hl : lv_has ls 4 [(0, .ref (xN X + t)), (1, .int a1), (2, .int a2)] := hl
  unfold fX5_cut at h
  refine lv_aload_n hx hb dX5_cut_0 rfl (lv_at hl 0 rfl) ?_
  refine gg5_0 C G ok.1 ok.2.1 u_fl_RX5_15 dX5_cut_1 ?_
  refine g_alen C G ok.2.2 dX5_cut_4 ?_
  refine lv_iload_n hx hb dX5_cut_5 rfl (lv_at hl 2 rfl) ?_
  refine lv_isub hx hb dX5_cut_6 ?_
  refine lv_iload_n hx hb dX5_cut_7 rfl (lv_at hl 1 rfl) ?_
  refine lv_isub hx hb dX5_cut_8 ?_
  refine lv_topi (fun w1 e_w1 => ?_)
  have h := g_let2 e_w1 h
  refine lv_istore_n (lv' := [(3, .int w1), (0, .ref (xN X + t)), (1, .int a1), (2, .int a2)]) hx hb dX5_cut_9 rfl hl (by decide) rfl (fun ls hl => ?_)
  refine lv_iload_n hx hb dX5_cut_10 rfl (lv_at hl 2 rfl) ?_
  refine lv_if_lt (tgt := 38) hx hb dX5_cut_11 (by decide) (fun c2 => ?_) (fun c2 => ?_)
  · have h := g_it h c2
    exact ret dX5_cut_38 G (Option.some.inj h)
  · have h := g_if h c2
    refine lv_iload_n hx hb dX5_cut_14 rfl (lv_at hl 3 rfl) ?_
    refine lv_if_lt (tgt := 38) hx hb dX5_cut_15 (by decide) (fun c3 => ?_) (fun c3 => ?_)
    · have h := g_it h c3
      exact ret dX5_cut_38 G (Option.some.inj h)
    · have h := g_if h c3
      refine lv_iload_n hx hb dX5_cut_18 rfl (lv_at hl 0 rfl) ?_
      refine lv_if_lt (tgt := 38) hx hb dX5_cut_19 (by decide) (fun c4 => ?_) (fun c4 => ?_)
      · have h := g_it h c4
        exact ret dX5_cut_38 G (Option.some.inj h)
      · have h := g_if h c4
        refine lv_aload_n hx hb dX5_cut_22 rfl (lv_at hl 1 rfl) ?_
        refine gg5_0 C G ok.1 ok.2.1 u_fl_RX5_15 dX5_cut_23 ?_
        refine lv_iload_n hx hb dX5_cut_26 rfl (lv_at hl 2 rfl) ?_
        refine lv_iload_n hx hb dX5_cut_27 rfl (lv_at hl 3 rfl) ?_
        refine lv_iadd hx hb dX5_cut_28 ?_
        refine lv_aload_n hx hb dX5_cut_29 rfl (lv_at hl 1 rfl) ?_
        refine gg5_0 C G ok.1 ok.2.1 u_fl_RX5_15 dX5_cut_30 ?_
        refine lv_iload_n hx hb dX5_cut_33 rfl (lv_at hl 2 rfl) ?_
        refine lv_iload_n hx hb dX5_cut_34 rfl (lv_at hl 0 rfl) ?_
        obtain ⟨c5, h⟩ := g_chk h
        obtain ⟨σ6, e_σ6, h⟩ := g_let h
        refine g_copy C G ok.2.2 ok.2.2 hl.1 u_ml_RX5_30 u_na_arraycopyName u_st_arraycopyName u_in_java_lang_System c5 (Nat.le_of_ble_eq_true rfl) (Nat.le_of_ble_eq_true rfl) dX5_cut_35 (fun H locs G => ?_)
        rw [e_σ6] at G
        exact ret dX5_cut_38 G (Option.some.inj h)

def fX6_remove (σ : gM) (t : Nat) (a1 : Int32) : Option (gM) :=
  (if a1 < 0 then
    some σ
  else
    (if a1 < (σ t 3) then
      ((fX5_cut σ (t + 1) a1 1).bind fun σ4 =>
      ((fX5_cut σ4 (t + 3) (a1 * 32) 32).bind fun σ6 =>
      ((fX5_cut σ6 (t + 5) (a1 * 32) 32).bind fun σ8 =>
      (gl (gset σ8 t (upd (σ8 t) 3 ((σ8 t 3) - 1))) fun σ9 =>
      some σ9))))
    else
      some σ))
set_option maxHeartbeats 4000000 in
set_option maxRecDepth 100000 in
theorem mX6_remove (l : Launch) (X : gX) (σ σ' : gM) (t : Nat) (a1 : Int32) (ok : gok6 X t) (h : fX6_remove σ t a1 = some σ') : Met l yX6_remove (Cond.code yX6_remove cX6_remove 2 none :: gBig) ({ frames := 2, cells := 0, slots := 0, locals := 87 }) (gPc X σ [.ref (xN X + t), .int a1]) (gQv X σ') 0 0 (xA X) := by
  refine g_metv (cc := cX6_remove) (maxL := 2) (own := RX6) (by decide) rfl rfl (Nat.le_of_ble_eq_true rfl) ?_
  intro p ev s m args below meth c Q C G ret ls hl
  obtain ⟨⟨hx, hb, hml, hown, hts⟩, hK⟩ := id C
  have hl : lv_has ls 2 [(0, .ref (xN X + t)), (1, .int a1)] := hl
  unfold fX6_remove at h
  refine lv_iload_n hx hb dX6_remove_0 rfl (lv_at hl 1 rfl) ?_
  refine lv_if_lt (tgt := 12) hx hb dX6_remove_1 (by decide) (fun c1 => ?_) (fun c1 => ?_)
  · have h := g_it h c1
    exact ret dX6_remove_12 G (Option.some.inj h)
  · have h := g_if h c1
    refine lv_iload_n hx hb dX6_remove_4 rfl (lv_at hl 1 rfl) ?_
    refine lv_aload_n hx hb dX6_remove_5 rfl (lv_at hl 0 rfl) ?_
    refine gg6_3 C G ok.1 u_fl_RX6_26 dX6_remove_6 ?_
    refine lv_icmp_lt (tgt := 13) hx hb dX6_remove_9 (by decide) (fun c2 => ?_) (fun c2 => ?_)
    · have h := g_it h c2
      refine lv_aload_n hx hb dX6_remove_13 rfl (lv_at hl 0 rfl) ?_
      refine gg6_0 C G ok.1 ok.2.1.1 u_fl_RX6_14 dX6_remove_14 ?_
      refine lv_iload_n hx hb dX6_remove_17 rfl (lv_at hl 1 rfl) ?_
      refine lv_iconst (v := 1) hx hb dX6_remove_18 (by decide) ?_
      obtain ⟨σ4, e_σ4, h⟩ := g_bind h
      refine g_callv (g_runV (n := 2) (As := [.int a1, .int 1]) (rest := []) C G (mX5_cut l X σ σ4 (t + 1) a1 1 ok.2.2.1 e_σ4) ok.2.2.1.1.2 (gE_5 ok.2.2.1.1.1) rfl (g_goodV u_ml_RX6_51 u_im_yX5_cut u_se_yX5_cut u_in_RX5 u_co_yX5_cut) rfl rfl rfl (by decide +kernel) ⟨Nat.le_of_ble_eq_true rfl, Nat.le_of_ble_eq_true rfl⟩ rfl hl.1 rfl (Nat.le_of_ble_eq_true rfl) dX6_remove_19 ⟨Nat.zero_le _, Nat.zero_le _⟩) G (fun H locs G => ?_)
      refine lv_aload_n hx hb dX6_remove_22 rfl (lv_at hl 0 rfl) ?_
      refine gg6_1 C G ok.1 ok.2.1.2.1 u_fl_RX6_20 dX6_remove_23 ?_
      refine lv_iload_n hx hb dX6_remove_26 rfl (lv_at hl 1 rfl) ?_
      refine lv_bipush (v := 32) hx hb dX6_remove_27 (by decide) ?_
      refine lv_imul hx hb dX6_remove_29 ?_
      refine lv_bipush (v := 32) hx hb dX6_remove_30 (by decide) ?_
      obtain ⟨σ6, e_σ6, h⟩ := g_bind h
      refine g_callv (g_runV (n := 2) (As := [.int (a1 * 32), .int 32]) (rest := []) C G (mX5_cut l X σ4 σ6 (t + 3) (a1 * 32) 32 ok.2.2.2.1 e_σ6) ok.2.2.2.1.1.2 (gE_5 ok.2.2.2.1.1.1) rfl (g_goodV u_ml_RX6_51 u_im_yX5_cut u_se_yX5_cut u_in_RX5 u_co_yX5_cut) rfl rfl rfl (by decide +kernel) ⟨Nat.le_of_ble_eq_true rfl, Nat.le_of_ble_eq_true rfl⟩ rfl hl.1 rfl (Nat.le_of_ble_eq_true rfl) dX6_remove_32 ⟨Nat.zero_le _, Nat.zero_le _⟩) G (fun H locs G => ?_)
      refine lv_aload_n hx hb dX6_remove_35 rfl (lv_at hl 0 rfl) ?_
      refine gg6_2 C G ok.1 ok.2.1.2.2 u_fl_RX6_23 dX6_remove_36 ?_
      refine lv_iload_n hx hb dX6_remove_39 rfl (lv_at hl 1 rfl) ?_
      refine lv_bipush (v := 32) hx hb dX6_remove_40 (by decide) ?_
      refine lv_imul hx hb dX6_remove_42 ?_
      refine lv_bipush (v := 32) hx hb dX6_remove_43 (by decide) ?_
      obtain ⟨σ8, e_σ8, h⟩ := g_bind h
      refine g_callv (g_runV (n := 2) (As := [.int (a1 * 32), .int 32]) (rest := []) C G (mX5_cut l X σ6 σ8 (t + 5) (a1 * 32) 32 ok.2.2.2.2 e_σ8) ok.2.2.2.2.1.2 (gE_5 ok.2.2.2.2.1.1) rfl (g_goodV u_ml_RX6_51 u_im_yX5_cut u_se_yX5_cut u_in_RX5 u_co_yX5_cut) rfl rfl rfl (by decide +kernel) ⟨Nat.le_of_ble_eq_true rfl, Nat.le_of_ble_eq_true rfl⟩ rfl hl.1 rfl (Nat.le_of_ble_eq_true rfl) dX6_remove_45 ⟨Nat.zero_le _, Nat.zero_le _⟩) G (fun H locs G => ?_)
      refine lv_aload_n hx hb dX6_remove_48 rfl (lv_at hl 0 rfl) ?_
      refine lv_dup hx hb dX6_remove_49 rfl ?_
      refine gg6_3 C G ok.1 u_fl_RX6_26 dX6_remove_50 ?_
      refine lv_iconst (v := 1) hx hb dX6_remove_53 (by decide) ?_
      refine lv_isub hx hb dX6_remove_54 ?_
      obtain ⟨σ9, e_σ9, h⟩ := g_let h
      refine gp6_3 C G ok.1 u_fl_RX6_26 dX6_remove_55 (fun H locs G => ?_)
      rw [e_σ9] at G
      exact ret dX6_remove_58 G (Option.some.inj h)
    · have h := g_if h c2
      exact ret dX6_remove_12 G (Option.some.inj h)

def fX4_remove_48 (t : Nat) (a1 : Int32) : Nat → gM → Int32 → Option (gM)
  | 0, _, _ => none
  | n + 1, σ, x2 =>
    (if 12 ≤ x2 then
      some σ
    else
      ((fX5_get σ (t + 1) x2).bind fun v12 =>
      ((fX5_set σ (t + 5) v12 x2).bind fun σ14 =>
      (gl (x2 + 1) fun w15 =>
      fX4_remove_48 t a1 n σ14 w15))))

def fX4_remove (σ : gM) (t : Nat) (a1 : Int32) : Option (gM) :=
  ((fX5_cut σ (t + 1) a1 1).bind fun σ2 =>
  ((fX5_set σ2 (t + 1) 11 (-1)).bind fun σ4 =>
  ((fX5_cut σ4 (t + 3) a1 1).bind fun σ6 =>
  ((fX5_set σ6 (t + 3) 11 0).bind fun σ8 =>
  ((fX5_setAll σ8 (t + 5) (-1)).bind fun σ10 =>
  fX4_remove_48 t a1 gF σ10 0)))))
set_option maxHeartbeats 4000000 in
set_option maxRecDepth 100000 in
theorem mX4_remove (l : Launch) (X : gX) (σ σ' : gM) (t : Nat) (a1 : Int32) (ok : gok4 X t) (h : fX4_remove σ t a1 = some σ') : Met l yX4_remove (Cond.code yX4_remove cX4_remove 3 none :: gBig) ({ frames := 2, cells := 0, slots := 0, locals := 87 }) (gPc X σ [.ref (xN X + t), .int a1]) (gQv X σ') 0 0 (xA X) := by
  refine g_metv (cc := cX4_remove) (maxL := 3) (own := RX4) (by decide) rfl rfl (Nat.le_of_ble_eq_true rfl) ?_
  intro p ev s m args below meth c Q C G ret ls hl
  obtain ⟨⟨hx, hb, hml, hown, hts⟩, hK⟩ := id C
  have hl : lv_has ls 3 [(0, .ref (xN X + t)), (1, .int a1)] := hl
  have L48 : ∀ (n : Nat) (H : Heap) (locs : List Loc) (ls : Array Slot) (σ : gM) (x2 : Int32), gG X σ s H locs → lv_has ls 3 [(0, .ref (xN X + t)), (2, .int x2)] → fX4_remove_48 t a1 n σ x2 = some σ' → W p l ev ({ frames := 2, cells := 0, slots := 0, locals := 87 }) s m args below meth c H locs 0 0 Q (F0 m 48 ls []) := by
    intro n
    induction n with
    | zero =>
      intro H locs ls σ x2 G hl h
      rw [fX4_remove_48] at h
      cases h
    | succ n ih =>
      intro H locs ls σ x2 G hl h
      rw [fX4_remove_48] at h
      refine lv_iload_n hx hb dX4_remove_48 rfl (lv_at hl 1 rfl) ?_
      refine lv_bipush (v := 12) hx hb dX4_remove_49 (by decide) ?_
      refine lv_icmp_ge (tgt := 76) hx hb dX4_remove_51 (by decide) (fun c11 => ?_) (fun c11 => ?_)
      · have h := g_it h c11
        exact ret dX4_remove_76 G (Option.some.inj h)
      · have h := g_if h c11
        refine lv_aload_n hx hb dX4_remove_54 rfl (lv_at hl 0 rfl) ?_
        refine gg4_2 C G ok.1 ok.2.1.2.2 u_fl_RX4_23 dX4_remove_55 ?_
        refine lv_aload_n hx hb dX4_remove_58 rfl (lv_at hl 0 rfl) ?_
        refine gg4_0 C G ok.1 ok.2.1.1 u_fl_RX4_14 dX4_remove_59 ?_
        refine lv_iload_n hx hb dX4_remove_62 rfl (lv_at hl 1 rfl) ?_
        obtain ⟨v12, e_v12, h⟩ := g_bind h
        refine g_calli (g_runV (n := 1) (As := [.int x2]) (rest := [.ref (xN X + (t + 5))]) C G (mX5_get l X σ (t + 1) x2 v12 ok.2.2.1 e_v12) ok.2.2.1.1.2 (gE_5 ok.2.2.1.1.1) rfl (g_goodV u_ml_RX4_37 u_im_yX5_get u_se_yX5_get u_in_RX5 u_co_yX5_get) rfl rfl rfl (by decide +kernel) ⟨Nat.le_of_ble_eq_true rfl, Nat.le_of_ble_eq_true rfl⟩ rfl hl.1 rfl (Nat.le_of_ble_eq_true rfl) dX4_remove_63 ⟨Nat.zero_le _, Nat.zero_le _⟩) G (fun H locs G => ?_)
        refine lv_iload_n hx hb dX4_remove_66 rfl (lv_at hl 1 rfl) ?_
        obtain ⟨σ14, e_σ14, h⟩ := g_bind h
        refine g_callv (g_runV (n := 2) (As := [.int v12, .int x2]) (rest := []) C G (mX5_set l X σ σ14 (t + 5) v12 x2 ok.2.2.2.2 e_σ14) ok.2.2.2.2.1.2 (gE_5 ok.2.2.2.2.1.1) rfl (g_goodV u_ml_RX4_44 u_im_yX5_set u_se_yX5_set u_in_RX5 u_co_yX5_set) rfl rfl rfl (by decide +kernel) ⟨Nat.le_of_ble_eq_true rfl, Nat.le_of_ble_eq_true rfl⟩ rfl hl.1 rfl (Nat.le_of_ble_eq_true rfl) dX4_remove_67 ⟨Nat.zero_le _, Nat.zero_le _⟩) G (fun H locs G => ?_)
        obtain ⟨w15, e_w15⟩ : ∃ y : Int32, y = x2 + 1 := ⟨_, rfl⟩
        have h := g_let2 e_w15 h
        refine lv_iinc (v := w15) (lv' := [(2, .int w15), (0, .ref (xN X + t))]) hx hb dX4_remove_70 hl (k := 1) rfl (by rw [e_w15]; rfl) (by decide) rfl (fun ls hl => ?_)
        refine lv_goto (tgt := 48) hx hb dX4_remove_73 (by decide) ?_
        exact ih _ _ _ σ14 w15 G (lv_sub hl [1, 0] rfl) h
  unfold fX4_remove at h
  refine lv_aload_n hx hb dX4_remove_0 rfl (lv_at hl 0 rfl) ?_
  refine gg4_0 C G ok.1 ok.2.1.1 u_fl_RX4_14 dX4_remove_1 ?_
  refine lv_iload_n hx hb dX4_remove_4 rfl (lv_at hl 1 rfl) ?_
  refine lv_iconst (v := 1) hx hb dX4_remove_5 (by decide) ?_
  obtain ⟨σ2, e_σ2, h⟩ := g_bind h
  refine g_callv (g_runV (n := 2) (As := [.int a1, .int 1]) (rest := []) C G (mX5_cut l X σ σ2 (t + 1) a1 1 ok.2.2.1 e_σ2) ok.2.2.1.1.2 (gE_5 ok.2.2.1.1.1) rfl (g_goodV u_ml_RX4_47 u_im_yX5_cut u_se_yX5_cut u_in_RX5 u_co_yX5_cut) rfl rfl rfl (by decide +kernel) ⟨Nat.le_of_ble_eq_true rfl, Nat.le_of_ble_eq_true rfl⟩ rfl hl.1 rfl (Nat.le_of_ble_eq_true rfl) dX4_remove_6 ⟨Nat.zero_le _, Nat.zero_le _⟩) G (fun H locs G => ?_)
  refine lv_aload_n hx hb dX4_remove_9 rfl (lv_at hl 0 rfl) ?_
  refine gg4_0 C G ok.1 ok.2.1.1 u_fl_RX4_14 dX4_remove_10 ?_
  refine lv_bipush (v := 11) hx hb dX4_remove_13 (by decide) ?_
  refine lv_iconst (v := (-1)) hx hb dX4_remove_15 (by decide) ?_
  obtain ⟨σ4, e_σ4, h⟩ := g_bind h
  refine g_callv (g_runV (n := 2) (As := [.int 11, .int (-1)]) (rest := []) C G (mX5_set l X σ2 σ4 (t + 1) 11 (-1) ok.2.2.1 e_σ4) ok.2.2.1.1.2 (gE_5 ok.2.2.1.1.1) rfl (g_goodV u_ml_RX4_44 u_im_yX5_set u_se_yX5_set u_in_RX5 u_co_yX5_set) rfl rfl rfl (by decide +kernel) ⟨Nat.le_of_ble_eq_true rfl, Nat.le_of_ble_eq_true rfl⟩ rfl hl.1 rfl (Nat.le_of_ble_eq_true rfl) dX4_remove_16 ⟨Nat.zero_le _, Nat.zero_le _⟩) G (fun H locs G => ?_)
  refine lv_aload_n hx hb dX4_remove_19 rfl (lv_at hl 0 rfl) ?_
  refine gg4_1 C G ok.1 ok.2.1.2.1 u_fl_RX4_20 dX4_remove_20 ?_
  refine lv_iload_n hx hb dX4_remove_23 rfl (lv_at hl 1 rfl) ?_
  refine lv_iconst (v := 1) hx hb dX4_remove_24 (by decide) ?_
  obtain ⟨σ6, e_σ6, h⟩ := g_bind h
  refine g_callv (g_runV (n := 2) (As := [.int a1, .int 1]) (rest := []) C G (mX5_cut l X σ4 σ6 (t + 3) a1 1 ok.2.2.2.1 e_σ6) ok.2.2.2.1.1.2 (gE_5 ok.2.2.2.1.1.1) rfl (g_goodV u_ml_RX4_47 u_im_yX5_cut u_se_yX5_cut u_in_RX5 u_co_yX5_cut) rfl rfl rfl (by decide +kernel) ⟨Nat.le_of_ble_eq_true rfl, Nat.le_of_ble_eq_true rfl⟩ rfl hl.1 rfl (Nat.le_of_ble_eq_true rfl) dX4_remove_25 ⟨Nat.zero_le _, Nat.zero_le _⟩) G (fun H locs G => ?_)
  refine lv_aload_n hx hb dX4_remove_28 rfl (lv_at hl 0 rfl) ?_
  refine gg4_1 C G ok.1 ok.2.1.2.1 u_fl_RX4_20 dX4_remove_29 ?_
  refine lv_bipush (v := 11) hx hb dX4_remove_32 (by decide) ?_
  refine lv_iconst (v := 0) hx hb dX4_remove_34 (by decide) ?_
  obtain ⟨σ8, e_σ8, h⟩ := g_bind h
  refine g_callv (g_runV (n := 2) (As := [.int 11, .int 0]) (rest := []) C G (mX5_set l X σ6 σ8 (t + 3) 11 0 ok.2.2.2.1 e_σ8) ok.2.2.2.1.1.2 (gE_5 ok.2.2.2.1.1.1) rfl (g_goodV u_ml_RX4_44 u_im_yX5_set u_se_yX5_set u_in_RX5 u_co_yX5_set) rfl rfl rfl (by decide +kernel) ⟨Nat.le_of_ble_eq_true rfl, Nat.le_of_ble_eq_true rfl⟩ rfl hl.1 rfl (Nat.le_of_ble_eq_true rfl) dX4_remove_35 ⟨Nat.zero_le _, Nat.zero_le _⟩) G (fun H locs G => ?_)
  refine lv_aload_n hx hb dX4_remove_38 rfl (lv_at hl 0 rfl) ?_
  refine gg4_2 C G ok.1 ok.2.1.2.2 u_fl_RX4_23 dX4_remove_39 ?_
  refine lv_iconst (v := (-1)) hx hb dX4_remove_42 (by decide) ?_
  obtain ⟨σ10, e_σ10, h⟩ := g_bind h
  refine g_callv (g_runV (n := 1) (As := [.int (-1)]) (rest := []) C G (mX5_setAll l X σ8 σ10 (t + 5) (-1) ok.2.2.2.2 e_σ10) ok.2.2.2.2.1.2 (gE_5 ok.2.2.2.2.1.1) rfl (g_goodV u_ml_RX4_41 u_im_yX5_setAll u_se_yX5_setAll u_in_RX5 u_co_yX5_setAll) rfl rfl rfl (by decide +kernel) ⟨Nat.le_of_ble_eq_true rfl, Nat.le_of_ble_eq_true rfl⟩ rfl hl.1 rfl (Nat.le_of_ble_eq_true rfl) dX4_remove_43 ⟨Nat.zero_le _, Nat.zero_le _⟩) G (fun H locs G => ?_)
  refine lv_iconst (v := 0) hx hb dX4_remove_46 (by decide) ?_
  refine lv_istore_n (lv' := [(2, .int 0), (0, .ref (xN X + t)), (1, .int a1)]) hx hb dX4_remove_47 rfl hl (by decide) rfl (fun ls hl => ?_)
  exact L48  gF _ _ _ σ10 0 G (lv_sub hl [1, 0] rfl) h

def fX0_remove (σ : gM) (t : Nat) (a1 : Int32) : Option (gM) :=
  ((fX6_remove σ (t + 1) a1).bind fun σ2 =>
  ((fX4_remove σ2 (t + 8) a1).bind fun σ4 =>
  some σ4))
set_option maxHeartbeats 4000000 in
set_option maxRecDepth 100000 in
theorem mX0_remove (l : Launch) (X : gX) (σ σ' : gM) (t : Nat) (a1 : Int32) (ok : gok0 X t) (h : fX0_remove σ t a1 = some σ') : Met l yX0_remove (Cond.code yX0_remove cX0_remove 2 none :: gBig) ({ frames := 3, cells := 0, slots := 0, locals := 109 }) (gPc X σ [.ref (xN X + t), .int a1]) (gQv X σ') 0 0 (xA X) := by
  refine g_metv (cc := cX0_remove) (maxL := 2) (own := RX0) (by decide) rfl rfl (Nat.le_of_ble_eq_true rfl) ?_
  intro p ev s m args below meth c Q C G ret ls hl
  obtain ⟨⟨hx, hb, hml, hown, hts⟩, hK⟩ := id C
  have hl : lv_has ls 2 [(0, .ref (xN X + t)), (1, .int a1)] := hl
  unfold fX0_remove at h
  refine lv_aload_n hx hb dX0_remove_0 rfl (lv_at hl 0 rfl) ?_
  refine gg0_0 C G ok.1 ok.2.1.1 u_fl_RX0_12 dX0_remove_1 ?_
  refine lv_iload_n hx hb dX0_remove_4 rfl (lv_at hl 1 rfl) ?_
  obtain ⟨σ2, e_σ2, h⟩ := g_bind h
  refine g_callv (g_runV (n := 1) (As := [.int a1]) (rest := []) C G (mX6_remove l X σ σ2 (t + 1) a1 ok.2.2.1 e_σ2) ok.2.2.1.1.2 (gE_6 ok.2.2.1.1.1) rfl (g_goodV u_ml_RX0_32 u_im_yX6_remove u_se_yX6_remove u_in_RX6 u_co_yX6_remove) rfl rfl rfl (by decide +kernel) ⟨Nat.le_of_ble_eq_true rfl, Nat.le_of_ble_eq_true rfl⟩ rfl hl.1 rfl (Nat.le_of_ble_eq_true rfl) dX0_remove_5 ⟨Nat.zero_le _, Nat.zero_le _⟩) G (fun H locs G => ?_)
  refine lv_aload_n hx hb dX0_remove_8 rfl (lv_at hl 0 rfl) ?_
  refine gg0_1 C G ok.1 ok.2.1.2 u_fl_RX0_21 dX0_remove_9 ?_
  refine lv_iload_n hx hb dX0_remove_12 rfl (lv_at hl 1 rfl) ?_
  obtain ⟨σ4, e_σ4, h⟩ := g_bind h
  refine g_callv (g_runV (n := 1) (As := [.int a1]) (rest := []) C G (mX4_remove l X σ2 σ4 (t + 8) a1 ok.2.2.2 e_σ4) ok.2.2.2.1.2 (gE_4 ok.2.2.2.1.1) rfl (g_goodV u_ml_RX0_36 u_im_yX4_remove u_se_yX4_remove u_in_RX4 u_co_yX4_remove) rfl rfl rfl (by decide +kernel) ⟨Nat.le_of_ble_eq_true rfl, Nat.le_of_ble_eq_true rfl⟩ rfl hl.1 rfl (Nat.le_of_ble_eq_true rfl) dX0_remove_13 ⟨Nat.zero_le _, Nat.zero_le _⟩) G (fun H locs G => ?_)
  exact ret dX0_remove_16 G (Option.some.inj h)

def fX8_removeScrap (σ : gM) (t : Nat) (a1 : Int32) : Option (Int32 × gM) :=
  ((fX8_isScrap σ t a1).bind fun v1 =>
  (if v1 = 0 then
    some ((-1001), σ)
  else
    ((fX3_keep σ (t + 31) (t + 1)).bind fun σ4 =>
    ((fX0_remove σ4 (t + 1) a1).bind fun σ6 =>
    ((fX6_size σ6 ((t + 1) + 1)).bind fun v7 =>
    some (v7, σ6))))))
set_option maxHeartbeats 4000000 in
set_option maxRecDepth 100000 in
theorem mX8_removeScrap (l : Launch) (X : gX) (σ σ' : gM) (t : Nat) (a1 : Int32) (r : Int32) (ok : gok8 X t) (h : fX8_removeScrap σ t a1 = some (r, σ')) : Met l yX8_removeScrap (Cond.code yX8_removeScrap cX8_removeScrap 2 (some .int) :: gBig) ({ frames := 5, cells := 0, slots := 0, locals := 150 }) (gPc X σ [.ref (xN X + t), .int a1]) (gQi X σ' r) 0 0 (xA X) := by
  refine g_meti (cc := cX8_removeScrap) (maxL := 2) (own := RX8) (by decide) rfl rfl (Nat.le_of_ble_eq_true rfl) ?_
  intro p ev s m args below meth c Q C G ret ls hl
  obtain ⟨⟨hx, hb, hml, hown, hts⟩, hK⟩ := id C
  have hl : lv_has ls 2 [(0, .ref (xN X + t)), (1, .int a1)] := hl
  unfold fX8_removeScrap at h
  refine lv_aload_n hx hb dX8_removeScrap_0 rfl (lv_at hl 0 rfl) ?_
  refine lv_iload_n hx hb dX8_removeScrap_1 rfl (lv_at hl 1 rfl) ?_
  obtain ⟨v1, e_v1, h⟩ := g_bind h
  refine g_calli (g_runV (n := 1) (As := [.int a1]) (rest := []) C G (mX8_isScrap l X σ t a1 v1 ok e_v1) ok.1.2 (gE_8 ok.1.1) rfl (g_goodV u_ml_RX8_104 u_im_yX8_isScrap u_se_yX8_isScrap u_in_RX8 u_co_yX8_isScrap) rfl rfl rfl (by decide +kernel) ⟨Nat.le_of_ble_eq_true rfl, Nat.le_of_ble_eq_true rfl⟩ rfl hl.1 rfl (Nat.le_of_ble_eq_true rfl) dX8_removeScrap_2 ⟨Nat.zero_le _, Nat.zero_le _⟩) G (fun H locs G => ?_)
  refine lv_if_ne (tgt := 12) hx hb dX8_removeScrap_5 (by decide) (fun c2 => ?_) (fun c2 => ?_)
  · have h := g_if h c2
    refine lv_aload_n hx hb dX8_removeScrap_12 rfl (lv_at hl 0 rfl) ?_
    refine gg8_2 C G ok.1 ok.2.1.2.2.1 u_fl_RX8_22 dX8_removeScrap_13 ?_
    refine lv_aload_n hx hb dX8_removeScrap_16 rfl (lv_at hl 0 rfl) ?_
    refine gg8_0 C G ok.1 ok.2.1.1 u_fl_RX8_10 dX8_removeScrap_17 ?_
    obtain ⟨σ4, e_σ4, h⟩ := g_bind h
    refine g_callv (g_runV (n := 1) (As := [.ref (xN X + (t + 1))]) (rest := []) C G (mX3_keep l X σ σ4 (t + 31) (t + 1) ok.2.2.2.2.1 ok.2.2.1 e_σ4) ok.2.2.2.2.1.1.2 (gE_3 ok.2.2.2.2.1.1.1) rfl (g_goodV u_ml_RX8_55 u_im_yX3_keep u_se_yX3_keep u_in_RX3 u_co_yX3_keep) rfl rfl rfl (by decide +kernel) ⟨Nat.le_of_ble_eq_true rfl, Nat.le_of_ble_eq_true rfl⟩ rfl hl.1 rfl (Nat.le_of_ble_eq_true rfl) dX8_removeScrap_20 ⟨Nat.zero_le _, Nat.zero_le _⟩) G (fun H locs G => ?_)
    refine lv_aload_n hx hb dX8_removeScrap_23 rfl (lv_at hl 0 rfl) ?_
    refine gg8_0 C G ok.1 ok.2.1.1 u_fl_RX8_10 dX8_removeScrap_24 ?_
    refine lv_iload_n hx hb dX8_removeScrap_27 rfl (lv_at hl 1 rfl) ?_
    obtain ⟨σ6, e_σ6, h⟩ := g_bind h
    refine g_callv (g_runV (n := 1) (As := [.int a1]) (rest := []) C G (mX0_remove l X σ4 σ6 (t + 1) a1 ok.2.2.1 e_σ6) ok.2.2.1.1.2 (gE_0 ok.2.2.1.1.1) rfl (g_goodV u_ml_RX8_107 u_im_yX0_remove u_se_yX0_remove u_in_RX0 u_co_yX0_remove) rfl rfl rfl (by decide +kernel) ⟨Nat.le_of_ble_eq_true rfl, Nat.le_of_ble_eq_true rfl⟩ rfl hl.1 rfl (Nat.le_of_ble_eq_true rfl) dX8_removeScrap_28 ⟨Nat.zero_le _, Nat.zero_le _⟩) G (fun H locs G => ?_)
    refine lv_aload_n hx hb dX8_removeScrap_31 rfl (lv_at hl 0 rfl) ?_
    refine gg8_0 C G ok.1 ok.2.1.1 u_fl_RX8_10 dX8_removeScrap_32 ?_
    refine gn0_0 C G ok.2.2.1.1 ok.2.2.1.2.1.1 (List.mem_of_getElem? (i := 1) rfl) dX8_removeScrap_35 ?_
    obtain ⟨v7, e_v7, h⟩ := g_bind h
    refine g_calli (g_runV (n := 0) (As := []) (rest := []) C G (mX6_size l X σ6 ((t + 1) + 1) v7 ok.2.2.1.2.2.1 e_v7) ok.2.2.1.2.2.1.1.2 (gE_6 ok.2.2.1.2.2.1.1.1) rfl (g_goodV u_ml_RX8_77 u_im_yX6_size u_se_yX6_size u_in_RX6 u_co_yX6_size) rfl rfl rfl (by decide +kernel) ⟨Nat.le_of_ble_eq_true rfl, Nat.le_of_ble_eq_true rfl⟩ rfl hl.1 rfl (Nat.le_of_ble_eq_true rfl) dX8_removeScrap_38 ⟨Nat.zero_le _, Nat.zero_le _⟩) G (fun H locs G => ?_)
    exact ret dX8_removeScrap_41 rfl G (Prod.mk.inj (Option.some.inj h))
  · have h := g_it h c2
    refine lv_sipush (v := (-1001)) hx hb dX8_removeScrap_8 (by decide) ?_
    exact ret dX8_removeScrap_11 rfl G (Prod.mk.inj (Option.some.inj h))

def fX6_kind (σ : gM) (t : Nat) (a1 : Int32) : Option (Int32) :=
  ((fX5_get σ (t + 1) a1).bind fun v1 =>
  some v1)
set_option maxHeartbeats 4000000 in
set_option maxRecDepth 100000 in
theorem mX6_kind (l : Launch) (X : gX) (σ : gM) (t : Nat) (a1 : Int32) (r : Int32) (ok : gok6 X t) (h : fX6_kind σ t a1 = some r) : Met l yX6_kind (Cond.code yX6_kind cX6_kind 2 (some .int) :: gBig) ({ frames := 1, cells := 0, slots := 0, locals := 21 }) (gPc X σ [.ref (xN X + t), .int a1]) (gQi X σ r) 0 0 (xA X) := by
  refine g_meti (cc := cX6_kind) (maxL := 2) (own := RX6) (by decide) rfl rfl (Nat.le_of_ble_eq_true rfl) ?_
  intro p ev s m args below meth c Q C G ret ls hl
  obtain ⟨⟨hx, hb, hml, hown, hts⟩, hK⟩ := id C
  have hl : lv_has ls 2 [(0, .ref (xN X + t)), (1, .int a1)] := hl
  unfold fX6_kind at h
  refine lv_aload_n hx hb dX6_kind_0 rfl (lv_at hl 0 rfl) ?_
  refine gg6_0 C G ok.1 ok.2.1.1 u_fl_RX6_14 dX6_kind_1 ?_
  refine lv_iload_n hx hb dX6_kind_4 rfl (lv_at hl 1 rfl) ?_
  obtain ⟨v1, e_v1, h⟩ := g_bind h
  refine g_calli (g_runV (n := 1) (As := [.int a1]) (rest := []) C G (mX5_get l X σ (t + 1) a1 v1 ok.2.2.1 e_v1) ok.2.2.1.1.2 (gE_5 ok.2.2.1.1.1) rfl (g_goodV u_ml_RX6_30 u_im_yX5_get u_se_yX5_get u_in_RX5 u_co_yX5_get) rfl rfl rfl (by decide +kernel) ⟨Nat.le_of_ble_eq_true rfl, Nat.le_of_ble_eq_true rfl⟩ rfl hl.1 rfl (Nat.le_of_ble_eq_true rfl) dX6_kind_5 ⟨Nat.zero_le _, Nat.zero_le _⟩) G (fun H locs G => ?_)
  exact ret dX6_kind_8 rfl G ⟨Option.some.inj h, rfl⟩

def fX4_orientationOf (σ : gM) (t : Nat) (a1 : Int32) : Option (Int32) :=
  ((fX5_get σ (t + 3) a1).bind fun v1 =>
  some v1)
set_option maxHeartbeats 4000000 in
set_option maxRecDepth 100000 in
theorem mX4_orientationOf (l : Launch) (X : gX) (σ : gM) (t : Nat) (a1 : Int32) (r : Int32) (ok : gok4 X t) (h : fX4_orientationOf σ t a1 = some r) : Met l yX4_orientationOf (Cond.code yX4_orientationOf cX4_orientationOf 2 (some .int) :: gBig) ({ frames := 1, cells := 0, slots := 0, locals := 21 }) (gPc X σ [.ref (xN X + t), .int a1]) (gQi X σ r) 0 0 (xA X) := by
  refine g_meti (cc := cX4_orientationOf) (maxL := 2) (own := RX4) (by decide) rfl rfl (Nat.le_of_ble_eq_true rfl) ?_
  intro p ev s m args below meth c Q C G ret ls hl
  obtain ⟨⟨hx, hb, hml, hown, hts⟩, hK⟩ := id C
  have hl : lv_has ls 2 [(0, .ref (xN X + t)), (1, .int a1)] := hl
  unfold fX4_orientationOf at h
  refine lv_aload_n hx hb dX4_orientationOf_0 rfl (lv_at hl 0 rfl) ?_
  refine gg4_1 C G ok.1 ok.2.1.2.1 u_fl_RX4_20 dX4_orientationOf_1 ?_
  refine lv_iload_n hx hb dX4_orientationOf_4 rfl (lv_at hl 1 rfl) ?_
  obtain ⟨v1, e_v1, h⟩ := g_bind h
  refine g_calli (g_runV (n := 1) (As := [.int a1]) (rest := []) C G (mX5_get l X σ (t + 3) a1 v1 ok.2.2.2.1 e_v1) ok.2.2.2.1.1.2 (gE_5 ok.2.2.2.1.1.1) rfl (g_goodV u_ml_RX4_37 u_im_yX5_get u_se_yX5_get u_in_RX5 u_co_yX5_get) rfl rfl rfl (by decide +kernel) ⟨Nat.le_of_ble_eq_true rfl, Nat.le_of_ble_eq_true rfl⟩ rfl hl.1 rfl (Nat.le_of_ble_eq_true rfl) dX4_orientationOf_5 ⟨Nat.zero_le _, Nat.zero_le _⟩) G (fun H locs G => ?_)
  exact ret dX4_orientationOf_8 rfl G ⟨Option.some.inj h, rfl⟩

def fX4_placeOf (σ : gM) (t : Nat) (a1 : Int32) : Option (Int32) :=
  ((fX5_get σ (t + 1) a1).bind fun v1 =>
  some v1)
set_option maxHeartbeats 4000000 in
set_option maxRecDepth 100000 in
theorem mX4_placeOf (l : Launch) (X : gX) (σ : gM) (t : Nat) (a1 : Int32) (r : Int32) (ok : gok4 X t) (h : fX4_placeOf σ t a1 = some r) : Met l yX4_placeOf (Cond.code yX4_placeOf cX4_placeOf 2 (some .int) :: gBig) ({ frames := 1, cells := 0, slots := 0, locals := 21 }) (gPc X σ [.ref (xN X + t), .int a1]) (gQi X σ r) 0 0 (xA X) := by
  refine g_meti (cc := cX4_placeOf) (maxL := 2) (own := RX4) (by decide) rfl rfl (Nat.le_of_ble_eq_true rfl) ?_
  intro p ev s m args below meth c Q C G ret ls hl
  obtain ⟨⟨hx, hb, hml, hown, hts⟩, hK⟩ := id C
  have hl : lv_has ls 2 [(0, .ref (xN X + t)), (1, .int a1)] := hl
  unfold fX4_placeOf at h
  refine lv_aload_n hx hb dX4_placeOf_0 rfl (lv_at hl 0 rfl) ?_
  refine gg4_0 C G ok.1 ok.2.1.1 u_fl_RX4_14 dX4_placeOf_1 ?_
  refine lv_iload_n hx hb dX4_placeOf_4 rfl (lv_at hl 1 rfl) ?_
  obtain ⟨v1, e_v1, h⟩ := g_bind h
  refine g_calli (g_runV (n := 1) (As := [.int a1]) (rest := []) C G (mX5_get l X σ (t + 1) a1 v1 ok.2.2.1 e_v1) ok.2.2.1.1.2 (gE_5 ok.2.2.1.1.1) rfl (g_goodV u_ml_RX4_37 u_im_yX5_get u_se_yX5_get u_in_RX5 u_co_yX5_get) rfl rfl rfl (by decide +kernel) ⟨Nat.le_of_ble_eq_true rfl, Nat.le_of_ble_eq_true rfl⟩ rfl hl.1 rfl (Nat.le_of_ble_eq_true rfl) dX4_placeOf_5 ⟨Nat.zero_le _, Nat.zero_le _⟩) G (fun H locs G => ?_)
  exact ret dX4_placeOf_8 rfl G ⟨Option.some.inj h, rfl⟩

def fX4_places (σ : gM) (t : Nat) : Option (Int32) :=
  some ((σ t 3) * (σ t 4))
set_option maxHeartbeats 4000000 in
set_option maxRecDepth 100000 in
theorem mX4_places (l : Launch) (X : gX) (σ : gM) (t : Nat) (r : Int32) (ok : gok4 X t) (h : fX4_places σ t = some r) : Met l yX4_places (Cond.code yX4_places cX4_places 1 (some .int) :: gBig) ({ frames := 0, cells := 0, slots := 0, locals := 0 }) (gPc X σ [.ref (xN X + t)]) (gQi X σ r) 0 0 (xA X) := by
  refine g_meti (cc := cX4_places) (maxL := 1) (own := RX4) (by decide) rfl rfl (Nat.le_of_ble_eq_true rfl) ?_
  intro p ev s m args below meth c Q C G ret ls hl
  obtain ⟨⟨hx, hb, hml, hown, hts⟩, hK⟩ := id C
  have hl : lv_has ls 1 [(0, .ref (xN X + t))] := hl
  unfold fX4_places at h
  refine lv_aload_n hx hb dX4_places_0 rfl (lv_at hl 0 rfl) ?_
  refine gg4_3 C G ok.1 u_fl_RX4_30 dX4_places_1 ?_
  refine lv_aload_n hx hb dX4_places_4 rfl (lv_at hl 0 rfl) ?_
  refine gg4_4 C G ok.1 u_fl_RX4_34 dX4_places_5 ?_
  refine lv_imul hx hb dX4_places_8 ?_
  exact ret dX4_places_9 rfl G ⟨Option.some.inj h, rfl⟩

def fX4_behind (σ : gM) (t : Nat) (a1 : Int32) (a2 : Int32) : Option (Int32) :=
  (if (σ t 3) ≤ 0 then
    (if a2 = 0 then
      (if a1 < (σ t 3) then
        some (-1)
      else
        some (a1 - (σ t 3)))
    else if a2 = 1 then
      (if (σ t 3) ≤ (0 + 1) then
        some (-1)
      else
        some (a1 + 1))
    else if a2 = 2 then
      ((fX4_places σ t).bind fun v7 =>
      (if v7 ≤ (a1 + (σ t 3)) then
        some (-1)
      else
        some (a1 + (σ t 3))))
    else 
      some (-1))
  else
    (if ¬ (σ t 3) = 0 then
    (gl (a1 - a1 / (σ t 3) * (σ t 3)) fun w11 =>
    (if a2 = 0 then
      (if a1 < (σ t 3) then
        some (-1)
      else
        some (a1 - (σ t 3)))
    else if a2 = 1 then
      (if (σ t 3) ≤ (w11 + 1) then
        some (-1)
      else
        some (a1 + 1))
    else if a2 = 2 then
      ((fX4_places σ t).bind fun v17 =>
      (if v17 ≤ (a1 + (σ t 3)) then
        some (-1)
      else
        some (a1 + (σ t 3))))
    else 
      (if w11 ≤ 0 then
        some (-1)
      else
        some (a1 - 1))))
    else none))
set_option maxHeartbeats 4000000 in
set_option maxRecDepth 100000 in
theorem mX4_behind (l : Launch) (X : gX) (σ : gM) (t : Nat) (a1 : Int32) (a2 : Int32) (r : Int32) (ok : gok4 X t) (h : fX4_behind σ t a1 a2 = some r) : Met l yX4_behind (Cond.code yX4_behind cX4_behind 4 (some .int) :: gBig) ({ frames := 1, cells := 0, slots := 0, locals := 20 }) (gPc X σ [.ref (xN X + t), .int a1, .int a2]) (gQi X σ r) 0 0 (xA X) := by
  refine g_meti (cc := cX4_behind) (maxL := 4) (own := RX4) (by decide) rfl rfl (Nat.le_of_ble_eq_true rfl) ?_
  intro p ev s m args below meth c Q C G ret ls hl
  obtain ⟨⟨hx, hb, hml, hown, hts⟩, hK⟩ := id C
  have hl : lv_has ls 4 [(0, .ref (xN X + t)), (1, .int a1), (2, .int a2)] := hl
  unfold fX4_behind at h
  refine lv_aload_n hx hb dX4_behind_0 rfl (lv_at hl 0 rfl) ?_
  refine gg4_3 C G ok.1 u_fl_RX4_30 dX4_behind_1 ?_
  refine lv_if_le (tgt := 16) hx hb dX4_behind_4 (by decide) (fun c1 => ?_) (fun c1 => ?_)
  · have h := g_it h c1
    refine lv_iconst (v := 0) hx hb dX4_behind_16 (by decide) ?_
    refine lv_istore_n (lv' := [(3, .int 0), (0, .ref (xN X + t)), (1, .int a1), (2, .int a2)]) hx hb dX4_behind_17 rfl hl (by decide) rfl (fun ls hl => ?_)
    refine lv_iload_n hx hb dX4_behind_18 rfl (lv_at hl 3 rfl) ?_
    by_cases c2 : a2 = 0
    · have h := g_it h c2
      refine lv_tableIn (off := 25) (tgt := 44) hx hb dX4_behind_19 (by rw [c2]; decide) (by rw [c2]; decide) (by rw [c2]; rfl) (by decide) ?_
      refine lv_iload_n hx hb dX4_behind_44 rfl (lv_at hl 2 rfl) ?_
      refine lv_aload_n hx hb dX4_behind_45 rfl (lv_at hl 1 rfl) ?_
      refine gg4_3 C G ok.1 u_fl_RX4_30 dX4_behind_46 ?_
      refine lv_icmp_lt (tgt := 61) hx hb dX4_behind_49 (by decide) (fun c3 => ?_) (fun c3 => ?_)
      · have h := g_it h c3
        refine lv_iconst (v := (-1)) hx hb dX4_behind_61 (by decide) ?_
        exact ret dX4_behind_62 rfl G ⟨Option.some.inj h, rfl⟩
      · have h := g_if h c3
        refine lv_iload_n hx hb dX4_behind_52 rfl (lv_at hl 2 rfl) ?_
        refine lv_aload_n hx hb dX4_behind_53 rfl (lv_at hl 1 rfl) ?_
        refine gg4_3 C G ok.1 u_fl_RX4_30 dX4_behind_54 ?_
        refine lv_isub hx hb dX4_behind_57 ?_
        refine lv_goto (tgt := 62) hx hb dX4_behind_58 (by decide) ?_
        exact ret dX4_behind_62 rfl G ⟨Option.some.inj h, rfl⟩
    have h := g_if h c2
    by_cases c4 : a2 = 1
    · have h := g_it h c4
      refine lv_tableIn (off := 44) (tgt := 63) hx hb dX4_behind_19 (by rw [c4]; decide) (by rw [c4]; decide) (by rw [c4]; rfl) (by decide) ?_
      refine lv_iload_n hx hb dX4_behind_63 rfl (lv_at hl 0 rfl) ?_
      refine lv_iconst (v := 1) hx hb dX4_behind_64 (by decide) ?_
      refine lv_iadd hx hb dX4_behind_65 ?_
      refine lv_aload_n hx hb dX4_behind_66 rfl (lv_at hl 1 rfl) ?_
      refine gg4_3 C G ok.1 u_fl_RX4_30 dX4_behind_67 ?_
      refine lv_icmp_ge (tgt := 79) hx hb dX4_behind_70 (by decide) (fun c5 => ?_) (fun c5 => ?_)
      · have h := g_it h c5
        refine lv_iconst (v := (-1)) hx hb dX4_behind_79 (by decide) ?_
        exact ret dX4_behind_80 rfl G ⟨Option.some.inj h, rfl⟩
      · have h := g_if h c5
        refine lv_iload_n hx hb dX4_behind_73 rfl (lv_at hl 2 rfl) ?_
        refine lv_iconst (v := 1) hx hb dX4_behind_74 (by decide) ?_
        refine lv_iadd hx hb dX4_behind_75 ?_
        refine lv_goto (tgt := 80) hx hb dX4_behind_76 (by decide) ?_
        exact ret dX4_behind_80 rfl G ⟨Option.some.inj h, rfl⟩
    have h := g_if h c4
    by_cases c6 : a2 = 2
    · have h := g_it h c6
      refine lv_tableIn (off := 62) (tgt := 81) hx hb dX4_behind_19 (by rw [c6]; decide) (by rw [c6]; decide) (by rw [c6]; rfl) (by decide) ?_
      refine lv_iload_n hx hb dX4_behind_81 rfl (lv_at hl 2 rfl) ?_
      refine lv_aload_n hx hb dX4_behind_82 rfl (lv_at hl 1 rfl) ?_
      refine gg4_3 C G ok.1 u_fl_RX4_30 dX4_behind_83 ?_
      refine lv_iadd hx hb dX4_behind_86 ?_
      refine lv_aload_n hx hb dX4_behind_87 rfl (lv_at hl 1 rfl) ?_
      obtain ⟨v7, e_v7, h⟩ := g_bind h
      refine g_calli (g_runV (n := 0) (As := []) (rest := [.int (a1 + (σ t 3))]) C G (mX4_places l X σ t v7 ok e_v7) ok.1.2 (gE_4 ok.1.1) rfl (g_goodV u_ml_RX4_54 u_im_yX4_places u_se_yX4_places u_in_RX4 u_co_yX4_places) rfl rfl rfl (by decide +kernel) ⟨Nat.le_of_ble_eq_true rfl, Nat.le_of_ble_eq_true rfl⟩ rfl hl.1 rfl (Nat.le_of_ble_eq_true rfl) dX4_behind_88 ⟨Nat.zero_le _, Nat.zero_le _⟩) G (fun H locs G => ?_)
      refine lv_icmp_ge (tgt := 103) hx hb dX4_behind_91 (by decide) (fun c8 => ?_) (fun c8 => ?_)
      · have h := g_it h c8
        refine lv_iconst (v := (-1)) hx hb dX4_behind_103 (by decide) ?_
        exact ret dX4_behind_104 rfl G ⟨Option.some.inj h, rfl⟩
      · have h := g_if h c8
        refine lv_iload_n hx hb dX4_behind_94 rfl (lv_at hl 2 rfl) ?_
        refine lv_aload_n hx hb dX4_behind_95 rfl (lv_at hl 1 rfl) ?_
        refine gg4_3 C G ok.1 u_fl_RX4_30 dX4_behind_96 ?_
        refine lv_iadd hx hb dX4_behind_99 ?_
        refine lv_goto (tgt := 104) hx hb dX4_behind_100 (by decide) ?_
        exact ret dX4_behind_104 rfl G ⟨Option.some.inj h, rfl⟩
    have h := g_if h c6
    refine lv_tableOut (tgt := 105) hx hb dX4_behind_19 (by have q0 := lv_neT c2 (a := 0) (by decide); have q1 := lv_neT c4 (a := 1) (by decide); have q2 := lv_neT c6 (a := 2) (by decide); omega) (by decide) ?_
    refine lv_iload_n hx hb dX4_behind_105 rfl (lv_at hl 0 rfl) ?_
    refine lv_if_le (tgt := 115) hx hb dX4_behind_106 (by decide) (fun _ => ?_) (fun c9 => absurd c9 (by decide))
    refine lv_iconst (v := (-1)) hx hb dX4_behind_115 (by decide) ?_
    exact ret dX4_behind_116 rfl G ⟨Option.some.inj h, rfl⟩
  · have h := g_if h c1
    refine lv_iload_n hx hb dX4_behind_7 rfl (lv_at hl 1 rfl) ?_
    refine lv_aload_n hx hb dX4_behind_8 rfl (lv_at hl 0 rfl) ?_
    refine gg4_3 C G ok.1 u_fl_RX4_30 dX4_behind_9 ?_
    obtain ⟨c10, h⟩ := g_chk h
    refine lv_irem hx hb dX4_behind_12 c10 ?_
    refine lv_goto (tgt := 17) hx hb dX4_behind_13 (by decide) ?_
    refine lv_topi (fun w11 e_w11 => ?_)
    have h := g_let2 e_w11 h
    refine lv_istore_n (lv' := [(3, .int w11), (0, .ref (xN X + t)), (1, .int a1), (2, .int a2)]) hx hb dX4_behind_17 rfl hl (by decide) rfl (fun ls hl => ?_)
    refine lv_iload_n hx hb dX4_behind_18 rfl (lv_at hl 3 rfl) ?_
    by_cases c12 : a2 = 0
    · have h := g_it h c12
      refine lv_tableIn (off := 25) (tgt := 44) hx hb dX4_behind_19 (by rw [c12]; decide) (by rw [c12]; decide) (by rw [c12]; rfl) (by decide) ?_
      refine lv_iload_n hx hb dX4_behind_44 rfl (lv_at hl 2 rfl) ?_
      refine lv_aload_n hx hb dX4_behind_45 rfl (lv_at hl 1 rfl) ?_
      refine gg4_3 C G ok.1 u_fl_RX4_30 dX4_behind_46 ?_
      refine lv_icmp_lt (tgt := 61) hx hb dX4_behind_49 (by decide) (fun c13 => ?_) (fun c13 => ?_)
      · have h := g_it h c13
        refine lv_iconst (v := (-1)) hx hb dX4_behind_61 (by decide) ?_
        exact ret dX4_behind_62 rfl G ⟨Option.some.inj h, rfl⟩
      · have h := g_if h c13
        refine lv_iload_n hx hb dX4_behind_52 rfl (lv_at hl 2 rfl) ?_
        refine lv_aload_n hx hb dX4_behind_53 rfl (lv_at hl 1 rfl) ?_
        refine gg4_3 C G ok.1 u_fl_RX4_30 dX4_behind_54 ?_
        refine lv_isub hx hb dX4_behind_57 ?_
        refine lv_goto (tgt := 62) hx hb dX4_behind_58 (by decide) ?_
        exact ret dX4_behind_62 rfl G ⟨Option.some.inj h, rfl⟩
    have h := g_if h c12
    by_cases c14 : a2 = 1
    · have h := g_it h c14
      refine lv_tableIn (off := 44) (tgt := 63) hx hb dX4_behind_19 (by rw [c14]; decide) (by rw [c14]; decide) (by rw [c14]; rfl) (by decide) ?_
      refine lv_iload_n hx hb dX4_behind_63 rfl (lv_at hl 0 rfl) ?_
      refine lv_iconst (v := 1) hx hb dX4_behind_64 (by decide) ?_
      refine lv_iadd hx hb dX4_behind_65 ?_
      refine lv_aload_n hx hb dX4_behind_66 rfl (lv_at hl 1 rfl) ?_
      refine gg4_3 C G ok.1 u_fl_RX4_30 dX4_behind_67 ?_
      refine lv_icmp_ge (tgt := 79) hx hb dX4_behind_70 (by decide) (fun c15 => ?_) (fun c15 => ?_)
      · have h := g_it h c15
        refine lv_iconst (v := (-1)) hx hb dX4_behind_79 (by decide) ?_
        exact ret dX4_behind_80 rfl G ⟨Option.some.inj h, rfl⟩
      · have h := g_if h c15
        refine lv_iload_n hx hb dX4_behind_73 rfl (lv_at hl 2 rfl) ?_
        refine lv_iconst (v := 1) hx hb dX4_behind_74 (by decide) ?_
        refine lv_iadd hx hb dX4_behind_75 ?_
        refine lv_goto (tgt := 80) hx hb dX4_behind_76 (by decide) ?_
        exact ret dX4_behind_80 rfl G ⟨Option.some.inj h, rfl⟩
    have h := g_if h c14
    by_cases c16 : a2 = 2
    · have h := g_it h c16
      refine lv_tableIn (off := 62) (tgt := 81) hx hb dX4_behind_19 (by rw [c16]; decide) (by rw [c16]; decide) (by rw [c16]; rfl) (by decide) ?_
      refine lv_iload_n hx hb dX4_behind_81 rfl (lv_at hl 2 rfl) ?_
      refine lv_aload_n hx hb dX4_behind_82 rfl (lv_at hl 1 rfl) ?_
      refine gg4_3 C G ok.1 u_fl_RX4_30 dX4_behind_83 ?_
      refine lv_iadd hx hb dX4_behind_86 ?_
      refine lv_aload_n hx hb dX4_behind_87 rfl (lv_at hl 1 rfl) ?_
      obtain ⟨v17, e_v17, h⟩ := g_bind h
      refine g_calli (g_runV (n := 0) (As := []) (rest := [.int (a1 + (σ t 3))]) C G (mX4_places l X σ t v17 ok e_v17) ok.1.2 (gE_4 ok.1.1) rfl (g_goodV u_ml_RX4_54 u_im_yX4_places u_se_yX4_places u_in_RX4 u_co_yX4_places) rfl rfl rfl (by decide +kernel) ⟨Nat.le_of_ble_eq_true rfl, Nat.le_of_ble_eq_true rfl⟩ rfl hl.1 rfl (Nat.le_of_ble_eq_true rfl) dX4_behind_88 ⟨Nat.zero_le _, Nat.zero_le _⟩) G (fun H locs G => ?_)
      refine lv_icmp_ge (tgt := 103) hx hb dX4_behind_91 (by decide) (fun c18 => ?_) (fun c18 => ?_)
      · have h := g_it h c18
        refine lv_iconst (v := (-1)) hx hb dX4_behind_103 (by decide) ?_
        exact ret dX4_behind_104 rfl G ⟨Option.some.inj h, rfl⟩
      · have h := g_if h c18
        refine lv_iload_n hx hb dX4_behind_94 rfl (lv_at hl 2 rfl) ?_
        refine lv_aload_n hx hb dX4_behind_95 rfl (lv_at hl 1 rfl) ?_
        refine gg4_3 C G ok.1 u_fl_RX4_30 dX4_behind_96 ?_
        refine lv_iadd hx hb dX4_behind_99 ?_
        refine lv_goto (tgt := 104) hx hb dX4_behind_100 (by decide) ?_
        exact ret dX4_behind_104 rfl G ⟨Option.some.inj h, rfl⟩
    have h := g_if h c16
    refine lv_tableOut (tgt := 105) hx hb dX4_behind_19 (by have q0 := lv_neT c12 (a := 0) (by decide); have q1 := lv_neT c14 (a := 1) (by decide); have q2 := lv_neT c16 (a := 2) (by decide); omega) (by decide) ?_
    refine lv_iload_n hx hb dX4_behind_105 rfl (lv_at hl 0 rfl) ?_
    refine lv_if_le (tgt := 115) hx hb dX4_behind_106 (by decide) (fun c19 => ?_) (fun c19 => ?_)
    · have h := g_it h c19
      refine lv_iconst (v := (-1)) hx hb dX4_behind_115 (by decide) ?_
      exact ret dX4_behind_116 rfl G ⟨Option.some.inj h, rfl⟩
    · have h := g_if h c19
      refine lv_iload_n hx hb dX4_behind_109 rfl (lv_at hl 2 rfl) ?_
      refine lv_iconst (v := 1) hx hb dX4_behind_110 (by decide) ?_
      refine lv_isub hx hb dX4_behind_111 ?_
      refine lv_goto (tgt := 116) hx hb dX4_behind_112 (by decide) ?_
      exact ret dX4_behind_116 rfl G ⟨Option.some.inj h, rfl⟩

def fX6_profile (σ : gM) (t : Nat) (a1 : Int32) (a2 : Int32) (a3 : Int32) : Option (Int32) :=
  ((fX5_get σ (t + 3) (((a1 * 32) + (a2 * 4)) + a3)).bind fun v1 =>
  some v1)
set_option maxHeartbeats 4000000 in
set_option maxRecDepth 100000 in
theorem mX6_profile (l : Launch) (X : gX) (σ : gM) (t : Nat) (a1 : Int32) (a2 : Int32) (a3 : Int32) (r : Int32) (ok : gok6 X t) (h : fX6_profile σ t a1 a2 a3 = some r) : Met l yX6_profile (Cond.code yX6_profile cX6_profile 4 (some .int) :: gBig) ({ frames := 1, cells := 0, slots := 0, locals := 21 }) (gPc X σ [.ref (xN X + t), .int a1, .int a2, .int a3]) (gQi X σ r) 0 0 (xA X) := by
  refine g_meti (cc := cX6_profile) (maxL := 4) (own := RX6) (by decide) rfl rfl (Nat.le_of_ble_eq_true rfl) ?_
  intro p ev s m args below meth c Q C G ret ls hl
  obtain ⟨⟨hx, hb, hml, hown, hts⟩, hK⟩ := id C
  have hl : lv_has ls 4 [(0, .ref (xN X + t)), (1, .int a1), (2, .int a2), (3, .int a3)] := hl
  unfold fX6_profile at h
  refine lv_aload_n hx hb dX6_profile_0 rfl (lv_at hl 0 rfl) ?_
  refine gg6_1 C G ok.1 ok.2.1.2.1 u_fl_RX6_20 dX6_profile_1 ?_
  refine lv_iload_n hx hb dX6_profile_4 rfl (lv_at hl 1 rfl) ?_
  refine lv_bipush (v := 32) hx hb dX6_profile_5 (by decide) ?_
  refine lv_imul hx hb dX6_profile_7 ?_
  refine lv_iload_n hx hb dX6_profile_8 rfl (lv_at hl 2 rfl) ?_
  refine lv_iconst (v := 4) hx hb dX6_profile_9 (by decide) ?_
  refine lv_imul hx hb dX6_profile_10 ?_
  refine lv_iadd hx hb dX6_profile_11 ?_
  refine lv_iload_n hx hb dX6_profile_12 rfl (lv_at hl 3 rfl) ?_
  refine lv_iadd hx hb dX6_profile_13 ?_
  obtain ⟨v1, e_v1, h⟩ := g_bind h
  refine g_calli (g_runV (n := 1) (As := [.int (((a1 * 32) + (a2 * 4)) + a3)]) (rest := []) C G (mX5_get l X σ (t + 3) (((a1 * 32) + (a2 * 4)) + a3) v1 ok.2.2.2.1 e_v1) ok.2.2.2.1.1.2 (gE_5 ok.2.2.2.1.1.1) rfl (g_goodV u_ml_RX6_30 u_im_yX5_get u_se_yX5_get u_in_RX5 u_co_yX5_get) rfl rfl rfl (by decide +kernel) ⟨Nat.le_of_ble_eq_true rfl, Nat.le_of_ble_eq_true rfl⟩ rfl hl.1 rfl (Nat.le_of_ble_eq_true rfl) dX6_profile_14 ⟨Nat.zero_le _, Nat.zero_le _⟩) G (fun H locs G => ?_)
  exact ret dX6_profile_17 rfl G ⟨Option.some.inj h, rfl⟩

def fX4_scrapAt (σ : gM) (t : Nat) (a1 : Int32) : Option (Int32) :=
  ((fX5_get σ (t + 5) a1).bind fun v1 =>
  some v1)
set_option maxHeartbeats 4000000 in
set_option maxRecDepth 100000 in
theorem mX4_scrapAt (l : Launch) (X : gX) (σ : gM) (t : Nat) (a1 : Int32) (r : Int32) (ok : gok4 X t) (h : fX4_scrapAt σ t a1 = some r) : Met l yX4_scrapAt (Cond.code yX4_scrapAt cX4_scrapAt 2 (some .int) :: gBig) ({ frames := 1, cells := 0, slots := 0, locals := 21 }) (gPc X σ [.ref (xN X + t), .int a1]) (gQi X σ r) 0 0 (xA X) := by
  refine g_meti (cc := cX4_scrapAt) (maxL := 2) (own := RX4) (by decide) rfl rfl (Nat.le_of_ble_eq_true rfl) ?_
  intro p ev s m args below meth c Q C G ret ls hl
  obtain ⟨⟨hx, hb, hml, hown, hts⟩, hK⟩ := id C
  have hl : lv_has ls 2 [(0, .ref (xN X + t)), (1, .int a1)] := hl
  unfold fX4_scrapAt at h
  refine lv_aload_n hx hb dX4_scrapAt_0 rfl (lv_at hl 0 rfl) ?_
  refine gg4_2 C G ok.1 ok.2.1.2.2 u_fl_RX4_23 dX4_scrapAt_1 ?_
  refine lv_iload_n hx hb dX4_scrapAt_4 rfl (lv_at hl 1 rfl) ?_
  obtain ⟨v1, e_v1, h⟩ := g_bind h
  refine g_calli (g_runV (n := 1) (As := [.int a1]) (rest := []) C G (mX5_get l X σ (t + 5) a1 v1 ok.2.2.2.2 e_v1) ok.2.2.2.2.1.2 (gE_5 ok.2.2.2.2.1.1) rfl (g_goodV u_ml_RX4_37 u_im_yX5_get u_se_yX5_get u_in_RX5 u_co_yX5_get) rfl rfl rfl (by decide +kernel) ⟨Nat.le_of_ble_eq_true rfl, Nat.le_of_ble_eq_true rfl⟩ rfl hl.1 rfl (Nat.le_of_ble_eq_true rfl) dX4_scrapAt_5 ⟨Nat.zero_le _, Nat.zero_le _⟩) G (fun H locs G => ?_)
  exact ret dX4_scrapAt_8 rfl G ⟨Option.some.inj h, rfl⟩

def fX6_line (σ : gM) (t : Nat) (a1 : Int32) (a2 : Int32) (a3 : Int32) : Option (Int32) :=
  ((fX5_get σ (t + 5) (((a1 * 32) + (a2 * 4)) + a3)).bind fun v1 =>
  some v1)
set_option maxHeartbeats 4000000 in
set_option maxRecDepth 100000 in
theorem mX6_line (l : Launch) (X : gX) (σ : gM) (t : Nat) (a1 : Int32) (a2 : Int32) (a3 : Int32) (r : Int32) (ok : gok6 X t) (h : fX6_line σ t a1 a2 a3 = some r) : Met l yX6_line (Cond.code yX6_line cX6_line 4 (some .int) :: gBig) ({ frames := 1, cells := 0, slots := 0, locals := 21 }) (gPc X σ [.ref (xN X + t), .int a1, .int a2, .int a3]) (gQi X σ r) 0 0 (xA X) := by
  refine g_meti (cc := cX6_line) (maxL := 4) (own := RX6) (by decide) rfl rfl (Nat.le_of_ble_eq_true rfl) ?_
  intro p ev s m args below meth c Q C G ret ls hl
  obtain ⟨⟨hx, hb, hml, hown, hts⟩, hK⟩ := id C
  have hl : lv_has ls 4 [(0, .ref (xN X + t)), (1, .int a1), (2, .int a2), (3, .int a3)] := hl
  unfold fX6_line at h
  refine lv_aload_n hx hb dX6_line_0 rfl (lv_at hl 0 rfl) ?_
  refine gg6_2 C G ok.1 ok.2.1.2.2 u_fl_RX6_23 dX6_line_1 ?_
  refine lv_iload_n hx hb dX6_line_4 rfl (lv_at hl 1 rfl) ?_
  refine lv_bipush (v := 32) hx hb dX6_line_5 (by decide) ?_
  refine lv_imul hx hb dX6_line_7 ?_
  refine lv_iload_n hx hb dX6_line_8 rfl (lv_at hl 2 rfl) ?_
  refine lv_iconst (v := 4) hx hb dX6_line_9 (by decide) ?_
  refine lv_imul hx hb dX6_line_10 ?_
  refine lv_iadd hx hb dX6_line_11 ?_
  refine lv_iload_n hx hb dX6_line_12 rfl (lv_at hl 3 rfl) ?_
  refine lv_iadd hx hb dX6_line_13 ?_
  obtain ⟨v1, e_v1, h⟩ := g_bind h
  refine g_calli (g_runV (n := 1) (As := [.int (((a1 * 32) + (a2 * 4)) + a3)]) (rest := []) C G (mX5_get l X σ (t + 5) (((a1 * 32) + (a2 * 4)) + a3) v1 ok.2.2.2.2 e_v1) ok.2.2.2.2.1.2 (gE_5 ok.2.2.2.2.1.1) rfl (g_goodV u_ml_RX6_30 u_im_yX5_get u_se_yX5_get u_in_RX5 u_co_yX5_get) rfl rfl rfl (by decide +kernel) ⟨Nat.le_of_ble_eq_true rfl, Nat.le_of_ble_eq_true rfl⟩ rfl hl.1 rfl (Nat.le_of_ble_eq_true rfl) dX6_line_14 ⟨Nat.zero_le _, Nat.zero_le _⟩) G (fun H locs G => ?_)
  exact ret dX6_line_17 rfl G ⟨Option.some.inj h, rfl⟩
