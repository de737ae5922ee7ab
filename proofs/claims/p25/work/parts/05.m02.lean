def fX8_addScrap (σ : gM) (t : Nat) (a1 : Int32) (a2 : Int32) (a3 : Int32) (a4 : Int32) (a5 : Int32) : Option (Int32 × gM) :=
  ((fX8_isProfile σ a1).bind fun v1 =>
  (if v1 = 0 then
    some ((-1001), σ)
  else
    ((fX8_isProfile σ a2).bind fun v3 =>
    (if v3 = 0 then
      some ((-1001), σ)
    else
      ((fX8_isProfile σ a3).bind fun v5 =>
      (if v5 = 0 then
        some ((-1001), σ)
      else
        ((fX8_isProfile σ a4).bind fun v7 =>
        (if v7 = 0 then
          some ((-1001), σ)
        else
          ((fX8_isWithin σ a5 0 1).bind fun v9 =>
          (if v9 = 0 then
            some ((-1001), σ)
          else
            ((fX6_size σ ((t + 1) + 1)).bind fun v11 =>
            (if v11 < 12 then
              ((fX1_setEdge σ (t + 119) 0 a1 0).bind fun σ14 =>
              ((fX1_setEdge σ14 (t + 119) 1 a2 0).bind fun σ16 =>
              ((fX1_setEdge σ16 (t + 119) 2 a3 0).bind fun σ18 =>
              ((fX1_setEdge σ18 (t + 119) 3 a4 0).bind fun σ20 =>
              ((fX1_setKind σ20 (t + 119) a5).bind fun σ22 =>
              ((fX8_append σ22 t (t + 119)).bind fun pv23 => gl pv23.1 fun v23 => gl pv23.2 fun σ24 =>
              some (v23, σ24)))))))
            else
              some ((-1003), σ)))))))))))))
set_option maxHeartbeats 4000000 in
set_option maxRecDepth 100000 in
theorem mX8_addScrap (l : Launch) (X : gX) (σ σ' : gM) (t : Nat) (a1 : Int32) (a2 : Int32) (a3 : Int32) (a4 : Int32) (a5 : Int32) (r : Int32) (ok : gok8 X t) (h : fX8_addScrap σ t a1 a2 a3 a4 a5 = some (r, σ')) : Met l yX8_addScrap (Cond.code yX8_addScrap cX8_addScrap 6 (some .int) :: gBig) ({ frames := 6, cells := 0, slots := 0, locals := 171 }) (gPc X σ [.ref (xN X + t), .int a1, .int a2, .int a3, .int a4, .int a5]) (gQi X σ' r) 0 0 (xA X) := by
  refine g_meti (cc := cX8_addScrap) (maxL := 6) (own := RX8) (by decide) rfl rfl (Nat.le_of_ble_eq_true rfl) ?_
  intro p ev s m args below meth c Q C G ret ls hl
  obtain ⟨⟨hx, hb, hml, hown, hts⟩, hK⟩ := id C
  have hl : lv_has ls 6 [(0, .ref (xN X + t)), (1, .int a1), (2, .int a2), (3, .int a3), (4, .int a4), (5, .int a5)] := hl
  unfold fX8_addScrap at h
  refine lv_iload_n hx hb dX8_addScrap_0 rfl (lv_at hl 1 rfl) ?_
  obtain ⟨v1, e_v1, h⟩ := g_bind h
  refine g_calli (g_runS (n := 1) (As := [.int a1]) (rest := []) C G (mX8_isProfile l X σ a1 v1 e_v1) (g_goodS u_ml_RX8_69 u_st_yX8_isProfile u_in_RX8 u_co_yX8_isProfile) rfl rfl rfl (by decide +kernel) ⟨Nat.le_of_ble_eq_true rfl, Nat.le_of_ble_eq_true rfl⟩ rfl hl.1 rfl (Nat.le_of_ble_eq_true rfl) dX8_addScrap_1 ⟨Nat.zero_le _, Nat.zero_le _⟩) G (fun H locs G => ?_)
  refine lv_if_eq (tgt := 39) hx hb dX8_addScrap_4 (by decide) (fun c2 => ?_) (fun c2 => ?_)
  · have h := g_it h c2
    refine lv_sipush (v := (-1001)) hx hb dX8_addScrap_39 (by decide) ?_
    exact ret dX8_addScrap_42 rfl G (Prod.mk.inj (Option.some.inj h))
  · have h := g_if h c2
    refine lv_iload_n hx hb dX8_addScrap_7 rfl (lv_at hl 2 rfl) ?_
    obtain ⟨v3, e_v3, h⟩ := g_bind h
    refine g_calli (g_runS (n := 1) (As := [.int a2]) (rest := []) C G (mX8_isProfile l X σ a2 v3 e_v3) (g_goodS u_ml_RX8_69 u_st_yX8_isProfile u_in_RX8 u_co_yX8_isProfile) rfl rfl rfl (by decide +kernel) ⟨Nat.le_of_ble_eq_true rfl, Nat.le_of_ble_eq_true rfl⟩ rfl hl.1 rfl (Nat.le_of_ble_eq_true rfl) dX8_addScrap_8 ⟨Nat.zero_le _, Nat.zero_le _⟩) G (fun H locs G => ?_)
    refine lv_if_eq (tgt := 39) hx hb dX8_addScrap_11 (by decide) (fun c4 => ?_) (fun c4 => ?_)
    · have h := g_it h c4
      refine lv_sipush (v := (-1001)) hx hb dX8_addScrap_39 (by decide) ?_
      exact ret dX8_addScrap_42 rfl G (Prod.mk.inj (Option.some.inj h))
    · have h := g_if h c4
      refine lv_iload_n hx hb dX8_addScrap_14 rfl (lv_at hl 3 rfl) ?_
      obtain ⟨v5, e_v5, h⟩ := g_bind h
      refine g_calli (g_runS (n := 1) (As := [.int a3]) (rest := []) C G (mX8_isProfile l X σ a3 v5 e_v5) (g_goodS u_ml_RX8_69 u_st_yX8_isProfile u_in_RX8 u_co_yX8_isProfile) rfl rfl rfl (by decide +kernel) ⟨Nat.le_of_ble_eq_true rfl, Nat.le_of_ble_eq_true rfl⟩ rfl hl.1 rfl (Nat.le_of_ble_eq_true rfl) dX8_addScrap_15 ⟨Nat.zero_le _, Nat.zero_le _⟩) G (fun H locs G => ?_)
      refine lv_if_eq (tgt := 39) hx hb dX8_addScrap_18 (by decide) (fun c6 => ?_) (fun c6 => ?_)
      · have h := g_it h c6
        refine lv_sipush (v := (-1001)) hx hb dX8_addScrap_39 (by decide) ?_
        exact ret dX8_addScrap_42 rfl G (Prod.mk.inj (Option.some.inj h))
      · have h := g_if h c6
        refine lv_iload hx hb dX8_addScrap_21 (lv_at hl 4 rfl) ?_
        obtain ⟨v7, e_v7, h⟩ := g_bind h
        refine g_calli (g_runS (n := 1) (As := [.int a4]) (rest := []) C G (mX8_isProfile l X σ a4 v7 e_v7) (g_goodS u_ml_RX8_69 u_st_yX8_isProfile u_in_RX8 u_co_yX8_isProfile) rfl rfl rfl (by decide +kernel) ⟨Nat.le_of_ble_eq_true rfl, Nat.le_of_ble_eq_true rfl⟩ rfl hl.1 rfl (Nat.le_of_ble_eq_true rfl) dX8_addScrap_23 ⟨Nat.zero_le _, Nat.zero_le _⟩) G (fun H locs G => ?_)
        refine lv_if_eq (tgt := 39) hx hb dX8_addScrap_26 (by decide) (fun c8 => ?_) (fun c8 => ?_)
        · have h := g_it h c8
          refine lv_sipush (v := (-1001)) hx hb dX8_addScrap_39 (by decide) ?_
          exact ret dX8_addScrap_42 rfl G (Prod.mk.inj (Option.some.inj h))
        · have h := g_if h c8
          refine lv_iload hx hb dX8_addScrap_29 (lv_at hl 5 rfl) ?_
          refine lv_iconst (v := 0) hx hb dX8_addScrap_31 (by decide) ?_
          refine lv_iconst (v := 1) hx hb dX8_addScrap_32 (by decide) ?_
          obtain ⟨v9, e_v9, h⟩ := g_bind h
          refine g_calli (g_runS (n := 3) (As := [.int a5, .int 0, .int 1]) (rest := []) C G (mX8_isWithin l X σ a5 0 1 v9 e_v9) (g_goodS u_ml_RX8_47 u_st_yX8_isWithin u_in_RX8 u_co_yX8_isWithin) rfl rfl rfl (by decide +kernel) ⟨Nat.le_of_ble_eq_true rfl, Nat.le_of_ble_eq_true rfl⟩ rfl hl.1 rfl (Nat.le_of_ble_eq_true rfl) dX8_addScrap_33 ⟨Nat.zero_le _, Nat.zero_le _⟩) G (fun H locs G => ?_)
          refine lv_if_ne (tgt := 43) hx hb dX8_addScrap_36 (by decide) (fun c10 => ?_) (fun c10 => ?_)
          · have h := g_if h c10
            refine lv_aload_n hx hb dX8_addScrap_43 rfl (lv_at hl 0 rfl) ?_
            refine gg8_0 C G ok.1 ok.2.1.1 u_fl_RX8_10 dX8_addScrap_44 ?_
            refine gn0_0 C G ok.2.2.1.1 ok.2.2.1.2.1.1 (List.mem_of_getElem? (i := 1) rfl) dX8_addScrap_47 ?_
            obtain ⟨v11, e_v11, h⟩ := g_bind h
            refine g_calli (g_runV (n := 0) (As := []) (rest := []) C G (mX6_size l X σ ((t + 1) + 1) v11 ok.2.2.1.2.2.1 e_v11) ok.2.2.1.2.2.1.1.2 (gE_6 ok.2.2.1.2.2.1.1.1) rfl (g_goodV u_ml_RX8_77 u_im_yX6_size u_se_yX6_size u_in_RX6 u_co_yX6_size) rfl rfl rfl (by decide +kernel) ⟨Nat.le_of_ble_eq_true rfl, Nat.le_of_ble_eq_true rfl⟩ rfl hl.1 rfl (Nat.le_of_ble_eq_true rfl) dX8_addScrap_50 ⟨Nat.zero_le _, Nat.zero_le _⟩) G (fun H locs G => ?_)
            refine lv_bipush (v := 12) hx hb dX8_addScrap_53 (by decide) ?_
            refine lv_icmp_lt (tgt := 62) hx hb dX8_addScrap_55 (by decide) (fun c12 => ?_) (fun c12 => ?_)
            · have h := g_it h c12
              refine lv_aload_n hx hb dX8_addScrap_62 rfl (lv_at hl 0 rfl) ?_
              refine gg8_5 C G ok.1 ok.2.1.2.2.2.2.2 u_fl_RX8_43 dX8_addScrap_63 ?_
              refine lv_iconst (v := 0) hx hb dX8_addScrap_66 (by decide) ?_
              refine lv_iload_n hx hb dX8_addScrap_67 rfl (lv_at hl 1 rfl) ?_
              refine lv_iconst (v := 0) hx hb dX8_addScrap_68 (by decide) ?_
              obtain ⟨σ14, e_σ14, h⟩ := g_bind h
              refine g_callv (g_runV (n := 3) (As := [.int 0, .int a1, .int 0]) (rest := []) C G (mX1_setEdge l X σ σ14 (t + 119) 0 a1 0 ok.2.2.2.2.2.2.2 e_σ14) ok.2.2.2.2.2.2.2.1.2 (gE_1 ok.2.2.2.2.2.2.2.1.1) rfl (g_goodV u_ml_RX8_82 u_im_yX1_setEdge u_se_yX1_setEdge u_in_RX1 u_co_yX1_setEdge) rfl rfl rfl (by decide +kernel) ⟨Nat.le_of_ble_eq_true rfl, Nat.le_of_ble_eq_true rfl⟩ rfl hl.1 rfl (Nat.le_of_ble_eq_true rfl) dX8_addScrap_69 ⟨Nat.zero_le _, Nat.zero_le _⟩) G (fun H locs G => ?_)
              refine lv_aload_n hx hb dX8_addScrap_72 rfl (lv_at hl 0 rfl) ?_
              refine gg8_5 C G ok.1 ok.2.1.2.2.2.2.2 u_fl_RX8_43 dX8_addScrap_73 ?_
              refine lv_iconst (v := 1) hx hb dX8_addScrap_76 (by decide) ?_
              refine lv_iload_n hx hb dX8_addScrap_77 rfl (lv_at hl 2 rfl) ?_
              refine lv_iconst (v := 0) hx hb dX8_addScrap_78 (by decide) ?_
              obtain ⟨σ16, e_σ16, h⟩ := g_bind h
              refine g_callv (g_runV (n := 3) (As := [.int 1, .int a2, .int 0]) (rest := []) C G (mX1_setEdge l X σ14 σ16 (t + 119) 1 a2 0 ok.2.2.2.2.2.2.2 e_σ16) ok.2.2.2.2.2.2.2.1.2 (gE_1 ok.2.2.2.2.2.2.2.1.1) rfl (g_goodV u_ml_RX8_82 u_im_yX1_setEdge u_se_yX1_setEdge u_in_RX1 u_co_yX1_setEdge) rfl rfl rfl (by decide +kernel) ⟨Nat.le_of_ble_eq_true rfl, Nat.le_of_ble_eq_true rfl⟩ rfl hl.1 rfl (Nat.le_of_ble_eq_true rfl) dX8_addScrap_79 ⟨Nat.zero_le _, Nat.zero_le _⟩) G (fun H locs G => ?_)
              refine lv_aload_n hx hb dX8_addScrap_82 rfl (lv_at hl 0 rfl) ?_
              refine gg8_5 C G ok.1 ok.2.1.2.2.2.2.2 u_fl_RX8_43 dX8_addScrap_83 ?_
              refine lv_iconst (v := 2) hx hb dX8_addScrap_86 (by decide) ?_
              refine lv_iload_n hx hb dX8_addScrap_87 rfl (lv_at hl 3 rfl) ?_
              refine lv_iconst (v := 0) hx hb dX8_addScrap_88 (by decide) ?_
              obtain ⟨σ18, e_σ18, h⟩ := g_bind h
              refine g_callv (g_runV (n := 3) (As := [.int 2, .int a3, .int 0]) (rest := []) C G (mX1_setEdge l X σ16 σ18 (t + 119) 2 a3 0 ok.2.2.2.2.2.2.2 e_σ18) ok.2.2.2.2.2.2.2.1.2 (gE_1 ok.2.2.2.2.2.2.2.1.1) rfl (g_goodV u_ml_RX8_82 u_im_yX1_setEdge u_se_yX1_setEdge u_in_RX1 u_co_yX1_setEdge) rfl rfl rfl (by decide +kernel) ⟨Nat.le_of_ble_eq_true rfl, Nat.le_of_ble_eq_true rfl⟩ rfl hl.1 rfl (Nat.le_of_ble_eq_true rfl) dX8_addScrap_89 ⟨Nat.zero_le _, Nat.zero_le _⟩) G (fun H locs G => ?_)
              refine lv_aload_n hx hb dX8_addScrap_92 rfl (lv_at hl 0 rfl) ?_
              refine gg8_5 C G ok.1 ok.2.1.2.2.2.2.2 u_fl_RX8_43 dX8_addScrap_93 ?_
              refine lv_iconst (v := 3) hx hb dX8_addScrap_96 (by decide) ?_
              refine lv_iload hx hb dX8_addScrap_97 (lv_at hl 4 rfl) ?_
              refine lv_iconst (v := 0) hx hb dX8_addScrap_99 (by decide) ?_
              obtain ⟨σ20, e_σ20, h⟩ := g_bind h
              refine g_callv (g_runV (n := 3) (As := [.int 3, .int a4, .int 0]) (rest := []) C G (mX1_setEdge l X σ18 σ20 (t + 119) 3 a4 0 ok.2.2.2.2.2.2.2 e_σ20) ok.2.2.2.2.2.2.2.1.2 (gE_1 ok.2.2.2.2.2.2.2.1.1) rfl (g_goodV u_ml_RX8_82 u_im_yX1_setEdge u_se_yX1_setEdge u_in_RX1 u_co_yX1_setEdge) rfl rfl rfl (by decide +kernel) ⟨Nat.le_of_ble_eq_true rfl, Nat.le_of_ble_eq_true rfl⟩ rfl hl.1 rfl (Nat.le_of_ble_eq_true rfl) dX8_addScrap_100 ⟨Nat.zero_le _, Nat.zero_le _⟩) G (fun H locs G => ?_)
              refine lv_aload_n hx hb dX8_addScrap_103 rfl (lv_at hl 0 rfl) ?_
              refine gg8_5 C G ok.1 ok.2.1.2.2.2.2.2 u_fl_RX8_43 dX8_addScrap_104 ?_
              refine lv_iload hx hb dX8_addScrap_107 (lv_at hl 5 rfl) ?_
              obtain ⟨σ22, e_σ22, h⟩ := g_bind h
              refine g_callv (g_runV (n := 1) (As := [.int a5]) (rest := []) C G (mX1_setKind l X σ20 σ22 (t + 119) a5 ok.2.2.2.2.2.2.2 e_σ22) ok.2.2.2.2.2.2.2.1.2 (gE_1 ok.2.2.2.2.2.2.2.1.1) rfl (g_goodV u_ml_RX8_86 u_im_yX1_setKind u_se_yX1_setKind u_in_RX1 u_co_yX1_setKind) rfl rfl rfl (by decide +kernel) ⟨Nat.le_of_ble_eq_true rfl, Nat.le_of_ble_eq_true rfl⟩ rfl hl.1 rfl (Nat.le_of_ble_eq_true rfl) dX8_addScrap_109 ⟨Nat.zero_le _, Nat.zero_le _⟩) G (fun H locs G => ?_)
              refine lv_aload_n hx hb dX8_addScrap_112 rfl (lv_at hl 0 rfl) ?_
              refine lv_aload_n hx hb dX8_addScrap_113 rfl (lv_at hl 0 rfl) ?_
              refine gg8_5 C G ok.1 ok.2.1.2.2.2.2.2 u_fl_RX8_43 dX8_addScrap_114 ?_
              obtain ⟨⟨v23, σ24⟩, e_v23, h⟩ := g_bind h
              have h := g_let2 (v := v23) rfl h
              have h := g_let2 (v := σ24) rfl h
              refine g_calli (g_runV (n := 1) (As := [.ref (xN X + (t + 119))]) (rest := []) C G (mX8_append l X σ22 σ24 t (t + 119) v23 ok ok.2.2.2.2.2.2.2 e_v23) ok.1.2 (gE_8 ok.1.1) rfl (g_goodV u_ml_RX8_90 u_im_yX8_append u_se_yX8_append u_in_RX8 u_co_yX8_append) rfl rfl rfl (by decide +kernel) ⟨Nat.le_of_ble_eq_true rfl, Nat.le_of_ble_eq_true rfl⟩ rfl hl.1 rfl (Nat.le_of_ble_eq_true rfl) dX8_addScrap_117 ⟨Nat.zero_le _, Nat.zero_le _⟩) G (fun H locs G => ?_)
              exact ret dX8_addScrap_120 rfl G (Prod.mk.inj (Option.some.inj h))
            · have h := g_if h c12
              refine lv_sipush (v := (-1003)) hx hb dX8_addScrap_58 (by decide) ?_
              exact ret dX8_addScrap_61 rfl G (Prod.mk.inj (Option.some.inj h))
          · have h := g_it h c10
            refine lv_sipush (v := (-1001)) hx hb dX8_addScrap_39 (by decide) ?_
            exact ret dX8_addScrap_42 rfl G (Prod.mk.inj (Option.some.inj h))

def fX8_isScrap (σ : gM) (t : Nat) (a1 : Int32) : Option (Int32) :=
  ((fX6_size σ ((t + 1) + 1)).bind fun v1 =>
  ((fX8_isWithin σ a1 0 (v1 - 1)).bind fun v2 =>
  (if v2 = 0 ∨ v2 = 1 then
  some v2
  else none)))
set_option maxHeartbeats 4000000 in
set_option maxRecDepth 100000 in
theorem mX8_isScrap (l : Launch) (X : gX) (σ : gM) (t : Nat) (a1 : Int32) (r : Int32) (ok : gok8 X t) (h : fX8_isScrap σ t a1 = some r) : Met l yX8_isScrap (Cond.code yX8_isScrap cX8_isScrap 2 (some .boolean) :: gBig) ({ frames := 1, cells := 0, slots := 0, locals := 22 }) (gPc X σ [.ref (xN X + t), .int a1]) (gQi X σ r) 0 0 (xA X) := by
  refine g_meti (cc := cX8_isScrap) (maxL := 2) (own := RX8) (by decide) rfl rfl (Nat.le_of_ble_eq_true rfl) ?_
  intro p ev s m args below meth c Q C G ret ls hl
  obtain ⟨⟨hx, hb, hml, hown, hts⟩, hK⟩ := id C
  have hl : lv_has ls 2 [(0, .ref (xN X + t)), (1, .int a1)] := hl
  unfold fX8_isScrap at h
  refine lv_iload_n hx hb dX8_isScrap_0 rfl (lv_at hl 1 rfl) ?_
  refine lv_iconst (v := 0) hx hb dX8_isScrap_1 (by decide) ?_
  refine lv_aload_n hx hb dX8_isScrap_2 rfl (lv_at hl 0 rfl) ?_
  refine gg8_0 C G ok.1 ok.2.1.1 u_fl_RX8_10 dX8_isScrap_3 ?_
  refine gn0_0 C G ok.2.2.1.1 ok.2.2.1.2.1.1 (List.mem_of_getElem? (i := 1) rfl) dX8_isScrap_6 ?_
  obtain ⟨v1, e_v1, h⟩ := g_bind h
  refine g_calli (g_runV (n := 0) (As := []) (rest := [.int 0, .int a1]) C G (mX6_size l X σ ((t + 1) + 1) v1 ok.2.2.1.2.2.1 e_v1) ok.2.2.1.2.2.1.1.2 (gE_6 ok.2.2.1.2.2.1.1.1) rfl (g_goodV u_ml_RX8_77 u_im_yX6_size u_se_yX6_size u_in_RX6 u_co_yX6_size) rfl rfl rfl (by decide +kernel) ⟨Nat.le_of_ble_eq_true rfl, Nat.le_of_ble_eq_true rfl⟩ rfl hl.1 rfl (Nat.le_of_ble_eq_true rfl) dX8_isScrap_9 ⟨Nat.zero_le _, Nat.zero_le _⟩) G (fun H locs G => ?_)
  refine lv_iconst (v := 1) hx hb dX8_isScrap_12 (by decide) ?_
  refine lv_isub hx hb dX8_isScrap_13 ?_
  obtain ⟨v2, e_v2, h⟩ := g_bind h
  refine g_calli (g_runS (n := 3) (As := [.int a1, .int 0, .int (v1 - 1)]) (rest := []) C G (mX8_isWithin l X σ a1 0 (v1 - 1) v2 e_v2) (g_goodS u_ml_RX8_47 u_st_yX8_isWithin u_in_RX8 u_co_yX8_isWithin) rfl rfl rfl (by decide +kernel) ⟨Nat.le_of_ble_eq_true rfl, Nat.le_of_ble_eq_true rfl⟩ rfl hl.1 rfl (Nat.le_of_ble_eq_true rfl) dX8_isScrap_14 ⟨Nat.zero_le _, Nat.zero_le _⟩) G (fun H locs G => ?_)
  obtain ⟨c3, h⟩ := g_chk h
  exact ret dX8_isScrap_17 (g_z c3) G ⟨Option.some.inj h, rfl⟩

def fX5_cut (σ : gM) (t : Nat) (a1 : Int32) (a2 : Int32) : Option (gM) :=
  (gl (((nI (gln (t + 1))) - a2) - a1) fun w1 =>
  (if a1 < 0 then
    some σ
  else
    (if a2 < 0 then
      some σ
    else
      (if w1 < 0 then
        some σ
      else
        (if ¬ (a1 + a2) < 0 ∧ ¬ a1 < 0 ∧ ¬ w1 < 0 ∧ (a1 + a2).toNatClampNeg + w1.toNatClampNeg ≤ gln (t + 1) ∧ a1.toNatClampNeg + w1.toNatClampNeg ≤ gln (t + 1) then
        (gl (gset σ (t + 1) (va_cpy (σ (t + 1)) (σ (t + 1)) (a1 + a2).toNatClampNeg a1.toNatClampNeg w1.toNatClampNeg)) fun σ6 =>
        some σ6)
        else none)))))
set_option maxHeartbeats 4000000 in
set_option maxRecDepth 100000 in
theorem mX5_cut (l : Launch) (X : gX) (σ σ' : gM) (t : Nat) (a1 : Int32) (a2 : Int32) (ok : gok5 X t) (h : fX5_cut σ t a1 a2 = some σ') : Met l yX5_cut (Cond.code yX5_cut cX5_cut 4 none :: gBig) ({ frames := 1, cells := 0, slots := 0, locals := 64 }) (gPc X σ [.ref (xN X + t), .int a1, .int a2]) (gQv X σ') 0 0 (xA X) := by
  refine g_metv (cc := cX5_cut) (maxL := 4) (own := RX5) (by decide) rfl rfl (Nat.le_of_ble_eq_true rfl) ?_
  intro p ev s m args below meth c Q C G ret ls hl
  obtain ⟨⟨hx, hb, hml, hown, hts⟩, hK⟩ := id C
  have hl : lv_has ls 4 [(0, .ref (xN X + t)), (1, .int a1), (2, .int a2)] := hl
  unfold fX5_cut at h
  refine lv_aload_n hx hb dX5_cut_0 rfl (lv_at hl 0 rfl) ?_
  refine gg5_0 C G ok.1 ok.2.1 u_fl_RX5_15 dX5_cut_1 ?_
  refine g_alen C G ok.2.2 dX5_cut_4 ?_
  refine lv_iload_n hx hb dX5_cut_5 rfl (lv_at hl 2 rfl) ?_
  refine lv_isub hx hb dX5_cut_6 ?_
  refine lv_iload_n hx hb dX5_cut_7 rfl (lv_at hl 1 rfl) ?_
  refine lv_isub hx hb dX5_cut_8 ?_
  refine lv_topi (fun w1 e_w1 => ?_)
  have h := g_let2 e_w1 h
  refine lv_istore_n (lv' := [(3, .int w1), (0, .ref (xN X + t)), (1, .int a1), (2, .int a2)]) hx hb dX5_cut_9 rfl hl (by decide) rfl (fun ls hl => ?_)
  refine lv_iload_n hx hb dX5_cut_10 rfl (lv_at hl 2 rfl) ?_
  refine lv_if_lt (tgt := 38) hx hb dX5_cut_11 (by decide) (fun c2 => ?_) (fun c2 => ?_)
  · have h := g_it h c2
    exact ret dX5_cut_38 G (Option.some.inj h)
  · have h := g_if h c2
    refine lv_iload_n hx hb dX5_cut_14 rfl (lv_at hl 3 rfl) ?_
    refine lv_if_lt (tgt := 38) hx hb dX5_cut_15 (by decide) (fun c3 => ?_) (fun c3 => ?_)
    · have h := g_it h c3
      exact ret dX5_cut_38 G (Option.some.inj h)
    · have h := g_if h c3
      refine lv_iload_n hx hb dX5_cut_18 rfl (lv_at hl 0 rfl) ?_
      refine lv_if_lt (tgt := 38) hx hb dX5_cut_19 (by decide) (fun c4 => ?_) (fun c4 => ?_)
      · have h := g_it h c4
        exact ret dX5_cut_38 G (Option.some.inj h)
      · have h := g_if h c4
        refine lv_aload_n hx hb dX5_cut_22 rfl (lv_at hl 1 rfl) ?_
        refine gg5_0 C G ok.1 ok.2.1 u_fl_RX5_15 dX5_cut_23 ?_
        refine lv_iload_n hx hb dX5_cut_26 rfl (lv_at hl 2 rfl) ?_
        refine lv_iload_n hx hb dX5_cut_27 rfl (lv_at hl 3 rfl) ?_
        refine lv_iadd hx hb dX5_cut_28 ?_
        refine lv_aload_n hx hb dX5_cut_29 rfl (lv_at hl 1 rfl) ?_
        refine gg5_0 C G ok.1 ok.2.1 u_fl_RX5_15 dX5_cut_30 ?_
        refine lv_iload_n hx hb dX5_cut_33 rfl (lv_at hl 2 rfl) ?_
        refine lv_iload_n hx hb dX5_cut_34 rfl (lv_at hl 0 rfl) ?_
        obtain ⟨c5, h⟩ := g_chk h
        obtain ⟨σ6, e_σ6, h⟩ := g_let h
        refine g_copy C G ok.2.2 ok.2.2 hl.1 u_ml_RX5_30 u_na_arraycopyName u_st_arraycopyName u_in_java_lang_System c5 (Nat.le_of_ble_eq_true rfl) (Nat.le_of_ble_eq_true rfl) dX5_cut_35 (fun H locs G => ?_)
        rw [e_σ6] at G
        exact ret dX5_cut_38 G (Option.some.inj h)

def fX6_remove (σ : gM) (t : Nat) (a1 : Int32) : Option (gM) :=
  (if a1 < 0 then
    some σ
  else
    (if a1 < (σ t 3) then
      ((fX5_cut σ (t + 1) a1 1).bind fun σ4 =>
      ((fX5_cut σ4 (t + 3) (a1 * 32) 32).bind fun σ6 =>
      ((fX5_cut σ6 (t + 5) (a1 * 32) 32).bind fun σ8 =>
      (gl (gset σ8 t (upd (σ8 t) 3 ((σ8 t 3) - 1))) fun σ9 =>
      some σ9))))
    else
      some σ))
set_option maxHeartbeats 4000000 in
set_option maxRecDepth 100000 in
theorem mX6_remove (l : Launch) (X : gX) (σ σ' : gM) (t : Nat) (a1 : Int32) (ok : gok6 X t) (h : fX6_remove σ t a1 = some σ') : Met l yX6_remove (Cond.code yX6_remove cX6_remove 2 none :: gBig) ({ frames := 2, cells := 0, slots := 0, locals := 87 }) (gPc X σ [.ref (xN X + t), .int a1]) (gQv X σ') 0 0 (xA X) := by
  refine g_metv (cc := cX6_remove) (maxL := 2) (own := RX6) (by decide) rfl rfl (Nat.le_of_ble_eq_true rfl) ?_
  intro p ev s m args below meth c Q C G ret ls hl
  obtain ⟨⟨hx, hb, hml, hown, hts⟩, hK⟩ := id C
  have hl : lv_has ls 2 [(0, .ref (xN X + t)), (1, .int a1)] := hl
  unfold fX6_remove at h
  refine lv_iload_n hx hb dX6_remove_0 rfl (lv_at hl 1 rfl) ?_
  refine lv_if_lt (tgt := 12) hx hb dX6_remove_1 (by decide) (fun c1 => ?_) (fun c1 => ?_)
  · have h := g_it h c1
    exact ret dX6_remove_12 G (Option.some.inj h)
  · have h := g_if h c1
    refine lv_iload_n hx hb dX6_remove_4 rfl (lv_at hl 1 rfl) ?_
    refine lv_aload_n hx hb dX6_remove_5 rfl (lv_at hl 0 rfl) ?_
    refine gg6_3 C G ok.1 u_fl_RX6_26 dX6_remove_6 ?_
    refine lv_icmp_lt (tgt := 13) hx hb dX6_remove_9 (by decide) (fun c2 => ?_) (fun c2 => ?_)
    · have h := g_it h c2
      refine lv_aload_n hx hb dX6_remove_13 rfl (lv_at hl 0 rfl) ?_
      refine gg6_0 C G ok.1 ok.2.1.1 u_fl_RX6_14 dX6_remove_14 ?_
      refine lv_iload_n hx hb dX6_remove_17 rfl (lv_at hl 1 rfl) ?_
      refine lv_iconst (v := 1) hx hb dX6_remove_18 (by decide) ?_
      obtain ⟨σ4, e_σ4, h⟩ := g_bind h
      refine g_callv (g_runV (n := 2) (As := [.int a1, .int 1]) (rest := []) C G (mX5_cut l X σ σ4 (t + 1) a1 1 ok.2.2.1 e_σ4) ok.2.2.1.1.2 (gE_5 ok.2.2.1.1.1) rfl (g_goodV u_ml_RX6_51 u_im_yX5_cut u_se_yX5_cut u_in_RX5 u_co_yX5_cut) rfl rfl rfl (by decide +kernel) ⟨Nat.le_of_ble_eq_true rfl, Nat.le_of_ble_eq_true rfl⟩ rfl hl.1 rfl (Nat.le_of_ble_eq_true rfl) dX6_remove_19 ⟨Nat.zero_le _, Nat.zero_le _⟩) G (fun H locs G => ?_)
      refine lv_aload_n hx hb dX6_remove_22 rfl (lv_at hl 0 rfl) ?_
      refine gg6_1 C G ok.1 ok.2.1.2.1 u_fl_RX6_20 dX6_remove_23 ?_
      refine lv_iload_n hx hb dX6_remove_26 rfl (lv_at hl 1 rfl) ?_
      refine lv_bipush (v := 32) hx hb dX6_remove_27 (by decide) ?_
      refine lv_imul hx hb dX6_remove_29 ?_
      refine lv_bipush (v := 32) hx hb dX6_remove_30 (by decide) ?_
      obtain ⟨σ6, e_σ6, h⟩ := g_bind h
      refine g_callv (g_runV (n := 2) (As := [.int (a1 * 32), .int 32]) (rest := []) C G (mX5_cut l X σ4 σ6 (t + 3) (a1 * 32) 32 ok.2.2.2.1 e_σ6) ok.2.2.2.1.1.2 (gE_5 ok.2.2.2.1.1.1) rfl (g_goodV u_ml_RX6_51 u_im_yX5_cut u_se_yX5_cut u_in_RX5 u_co_yX5_cut) rfl rfl rfl (by decide +kernel) ⟨Nat.le_of_ble_eq_true rfl, Nat.le_of_ble_eq_true rfl⟩ rfl hl.1 rfl (Nat.le_of_ble_eq_true rfl) dX6_remove_32 ⟨Nat.zero_le _, Nat.zero_le _⟩) G (fun H locs G => ?_)
      refine lv_aload_n hx hb dX6_remove_35 rfl (lv_at hl 0 rfl) ?_
      refine gg6_2 C G ok.1 ok.2.1.2.2 u_fl_RX6_23 dX6_remove_36 ?_
      refine lv_iload_n hx hb dX6_remove_39 rfl (lv_at hl 1 rfl) ?_
      refine lv_bipush (v := 32) hx hb dX6_remove_40 (by decide) ?_
      refine lv_imul hx hb dX6_remove_42 ?_
      refine lv_bipush (v := 32) hx hb dX6_remove_43 (by decide) ?_
      obtain ⟨σ8, e_σ8, h⟩ := g_bind h
      refine g_callv (g_runV (n := 2) (As := [.int (a1 * 32), .int 32]) (rest := []) C G (mX5_cut l X σ6 σ8 (t + 5) (a1 * 32) 32 ok.2.2.2.2 e_σ8) ok.2.2.2.2.1.2 (gE_5 ok.2.2.2.2.1.1) rfl (g_goodV u_ml_RX6_51 u_im_yX5_cut u_se_yX5_cut u_in_RX5 u_co_yX5_cut) rfl rfl rfl (by decide +kernel) ⟨Nat.le_of_ble_eq_true rfl, Nat.le_of_ble_eq_true rfl⟩ rfl hl.1 rfl (Nat.le_of_ble_eq_true rfl) dX6_remove_45 ⟨Nat.zero_le _, Nat.zero_le _⟩) G (fun H locs G => ?_)
      refine lv_aload_n hx hb dX6_remove_48 rfl (lv_at hl 0 rfl) ?_
      refine lv_dup hx hb dX6_remove_49 rfl ?_
      refine gg6_3 C G ok.1 u_fl_RX6_26 dX6_remove_50 ?_
      refine lv_iconst (v := 1) hx hb dX6_remove_53 (by decide) ?_
      refine lv_isub hx hb dX6_remove_54 ?_
      obtain ⟨σ9, e_σ9, h⟩ := g_let h
      refine gp6_3 C G ok.1 u_fl_RX6_26 dX6_remove_55 (fun H locs G => ?_)
      rw [e_σ9] at G
      exact ret dX6_remove_58 G (Option.some.inj h)
    · have h := g_if h c2
      exact ret dX6_remove_12 G (Option.some.inj h)

def fX4_remove_48 (t : Nat) (a1 : Int32) : Nat → gM → Int32 → Option (gM)
  | 0, _, _ => none
  | n + 1, σ, x2 =>
    (if 12 ≤ x2 then
      some σ
    else
      ((fX5_get σ (t + 1) x2).bind fun v12 =>
      ((fX5_set σ (t + 5) v12 x2).bind fun σ14 =>
      (gl (x2 + 1) fun w15 =>
      fX4_remove_48 t a1 n σ14 w15))))

def fX4_remove (σ : gM) (t : Nat) (a1 : Int32) : Option (gM) :=
  ((fX5_cut σ (t + 1) a1 1).bind fun σ2 =>
  ((fX5_set σ2 (t + 1) 11 (-1)).bind fun σ4 =>
  ((fX5_cut σ4 (t + 3) a1 1).bind fun σ6 =>
  ((fX5_set σ6 (t + 3) 11 0).bind fun σ8 =>
  ((fX5_setAll σ8 (t + 5) (-1)).bind fun σ10 =>
  fX4_remove_48 t a1 gF σ10 0)))))
set_option maxHeartbeats 4000000 in
set_option maxRecDepth 100000 in
theorem mX4_remove (l : Launch) (X : gX) (σ σ' : gM) (t : Nat) (a1 : Int32) (ok : gok4 X t) (h : fX4_remove σ t a1 = some σ') : Met l yX4_remove (Cond.code yX4_remove cX4_remove 3 none :: gBig) ({ frames := 2, cells := 0, slots := 0, locals := 87 }) (gPc X σ [.ref (xN X + t), .int a1]) (gQv X σ') 0 0 (xA X) := by
  refine g_metv (cc := cX4_remove) (maxL := 3) (own := RX4) (by decide) rfl rfl (Nat.le_of_ble_eq_true rfl) ?_
  intro p ev s m args below meth c Q C G ret ls hl
  obtain ⟨⟨hx, hb, hml, hown, hts⟩, hK⟩ := id C
  have hl : lv_has ls 3 [(0, .ref (xN X + t)), (1, .int a1)] := hl
  have L48 : ∀ (n : Nat) (H : Heap) (locs : List Loc) (ls : Array Slot) (σ : gM) (x2 : Int32), gG X σ s H locs → lv_has ls 3 [(0, .ref (xN X + t)), (2, .int x2)] → fX4_remove_48 t a1 n σ x2 = some σ' → W p l ev ({ frames := 2, cells := 0, slots := 0, locals := 87 }) s m args below meth c H locs 0 0 Q (F0 m 48 ls []) := by
    intro n
    induction n with
    | zero =>
      intro H locs ls σ x2 G hl h
      rw [fX4_remove_48] at h
      cases h
    | succ n ih =>
      intro H locs ls σ x2 G hl h
      rw [fX4_remove_48] at h
      refine lv_iload_n hx hb dX4_remove_48 rfl (lv_at hl 1 rfl) ?_
      refine lv_bipush (v := 12) hx hb dX4_remove_49 (by decide) ?_
      refine lv_icmp_ge (tgt := 76) hx hb dX4_remove_51 (by decide) (fun c11 => ?_) (fun c11 => ?_)
      · have h := g_it h c11
        exact ret dX4_remove_76 G (Option.some.inj h)
      · have h := g_if h c11
        refine lv_aload_n hx hb dX4_remove_54 rfl (lv_at hl 0 rfl) ?_
        refine gg4_2 C G ok.1 ok.2.1.2.2 u_fl_RX4_23 dX4_remove_55 ?_
        refine lv_aload_n hx hb dX4_remove_58 rfl (lv_at hl 0 rfl) ?_
        refine gg4_0 C G ok.1 ok.2.1.1 u_fl_RX4_14 dX4_remove_59 ?_
        refine lv_iload_n hx hb dX4_remove_62 rfl (lv_at hl 1 rfl) ?_
        obtain ⟨v12, e_v12, h⟩ := g_bind h
        refine g_calli (g_runV (n := 1) (As := [.int x2]) (rest := [.ref (xN X + (t + 5))]) C G (mX5_get l X σ (t + 1) x2 v12 ok.2.2.1 e_v12) ok.2.2.1.1.2 (gE_5 ok.2.2.1.1.1) rfl (g_goodV u_ml_RX4_37 u_im_yX5_get u_se_yX5_get u_in_RX5 u_co_yX5_get) rfl rfl rfl (by decide +kernel) ⟨Nat.le_of_ble_eq_true rfl, Nat.le_of_ble_eq_true rfl⟩ rfl hl.1 rfl (Nat.le_of_ble_eq_true rfl) dX4_remove_63 ⟨Nat.zero_le _, Nat.zero_le _⟩) G (fun H locs G => ?_)
        refine lv_iload_n hx hb dX4_remove_66 rfl (lv_at hl 1 rfl) ?_
        obtain ⟨σ14, e_σ14, h⟩ := g_bind h
        refine g_callv (g_runV (n := 2) (As := [.int v12, .int x2]) (rest := []) C G (mX5_set l X σ σ14 (t + 5) v12 x2 ok.2.2.2.2 e_σ14) ok.2.2.2.2.1.2 (gE_5 ok.2.2.2.2.1.1) rfl (g_goodV u_ml_RX4_44 u_im_yX5_set u_se_yX5_set u_in_RX5 u_co_yX5_set) rfl rfl rfl (by decide +kernel) ⟨Nat.le_of_ble_eq_true rfl, Nat.le_of_ble_eq_true rfl⟩ rfl hl.1 rfl (Nat.le_of_ble_eq_true rfl) dX4_remove_67 ⟨Nat.zero_le _, Nat.zero_le _⟩) G (fun H locs G => ?_)
        obtain ⟨w15, e_w15⟩ : ∃ y : Int32, y = x2 + 1 := ⟨_, rfl⟩
        have h := g_let2 e_w15 h
        refine lv_iinc (v := w15) (lv' := [(2, .int w15), (0, .ref (xN X + t))]) hx hb dX4_remove_70 hl (k := 1) rfl (by rw [e_w15]; rfl) (by decide) rfl (fun ls hl => ?_)
        refine lv_goto (tgt := 48) hx hb dX4_remove_73 (by decide) ?_
        exact ih _ _ _ σ14 w15 G (lv_sub hl [1, 0] rfl) h
  unfold fX4_remove at h
  refine lv_aload_n hx hb dX4_remove_0 rfl (lv_at hl 0 rfl) ?_
  refine gg4_0 C G ok.1 ok.2.1.1 u_fl_RX4_14 dX4_remove_1 ?_
  refine lv_iload_n hx hb dX4_remove_4 rfl (lv_at hl 1 rfl) ?_
  refine lv_iconst (v := 1) hx hb dX4_remove_5 (by decide) ?_
  obtain ⟨σ2, e_σ2, h⟩ := g_bind h
  refine g_callv (g_runV (n := 2) (As := [.int a1, .int 1]) (rest := []) C G (mX5_cut l X σ σ2 (t + 1) a1 1 ok.2.2.1 e_σ2) ok.2.2.1.1.2 (gE_5 ok.2.2.1.1.1) rfl (g_goodV u_ml_RX4_47 u_im_yX5_cut u_se_yX5_cut u_in_RX5 u_co_yX5_cut) rfl rfl rfl (by decide +kernel) ⟨Nat.le_of_ble_eq_true rfl, Nat.le_of_ble_eq_true rfl⟩ rfl hl.1 rfl (Nat.le_of_ble_eq_true rfl) dX4_remove_6 ⟨Nat.zero_le _, Nat.zero_le _⟩) G (fun H locs G => ?_)
  refine lv_aload_n hx hb dX4_remove_9 rfl (lv_at hl 0 rfl) ?_
  refine gg4_0 C G ok.1 ok.2.1.1 u_fl_RX4_14 dX4_remove_10 ?_
  refine lv_bipush (v := 11) hx hb dX4_remove_13 (by decide) ?_
  refine lv_iconst (v := (-1)) hx hb dX4_remove_15 (by decide) ?_
  obtain ⟨σ4, e_σ4, h⟩ := g_bind h
  refine g_callv (g_runV (n := 2) (As := [.int 11, .int (-1)]) (rest := []) C G (mX5_set l X σ2 σ4 (t + 1) 11 (-1) ok.2.2.1 e_σ4) ok.2.2.1.1.2 (gE_5 ok.2.2.1.1.1) rfl (g_goodV u_ml_RX4_44 u_im_yX5_set u_se_yX5_set u_in_RX5 u_co_yX5_set) rfl rfl rfl (by decide +kernel) ⟨Nat.le_of_ble_eq_true rfl, Nat.le_of_ble_eq_true rfl⟩ rfl hl.1 rfl (Nat.le_of_ble_eq_true rfl) dX4_remove_16 ⟨Nat.zero_le _, Nat.zero_le _⟩) G (fun H locs G => ?_)
  refine lv_aload_n hx hb dX4_remove_19 rfl (lv_at hl 0 rfl) ?_
  refine gg4_1 C G ok.1 ok.2.1.2.1 u_fl_RX4_20 dX4_remove_20 ?_
  refine lv_iload_n hx hb dX4_remove_23 rfl (lv_at hl 1 rfl) ?_
  refine lv_iconst (v := 1) hx hb dX4_remove_24 (by decide) ?_
  obtain ⟨σ6, e_σ6, h⟩ := g_bind h
  refine g_callv (g_runV (n := 2) (As := [.int a1, .int 1]) (rest := []) C G (mX5_cut l X σ4 σ6 (t + 3) a1 1 ok.2.2.2.1 e_σ6) ok.2.2.2.1.1.2 (gE_5 ok.2.2.2.1.1.1) rfl (g_goodV u_ml_RX4_47 u_im_yX5_cut u_se_yX5_cut u_in_RX5 u_co_yX5_cut) rfl rfl rfl (by decide +kernel) ⟨Nat.le_of_ble_eq_true rfl, Nat.le_of_ble_eq_true rfl⟩ rfl hl.1 rfl (Nat.le_of_ble_eq_true rfl) dX4_remove_25 ⟨Nat.zero_le _, Nat.zero_le _⟩) G (fun H locs G => ?_)
  refine lv_aload_n hx hb dX4_remove_28 rfl (lv_at hl 0 rfl) ?_
  refine gg4_1 C G ok.1 ok.2.1.2.1 u_fl_RX4_20 dX4_remove_29 ?_
  refine lv_bipush (v := 11) hx hb dX4_remove_32 (by decide) ?_
  refine lv_iconst (v := 0) hx hb dX4_remove_34 (by decide) ?_
  obtain ⟨σ8, e_σ8, h⟩ := g_bind h
  refine g_callv (g_runV (n := 2) (As := [.int 11, .int 0]) (rest := []) C G (mX5_set l X σ6 σ8 (t + 3) 11 0 ok.2.2.2.1 e_σ8) ok.2.2.2.1.1.2 (gE_5 ok.2.2.2.1.1.1) rfl (g_goodV u_ml_RX4_44 u_im_yX5_set u_se_yX5_set u_in_RX5 u_co_yX5_set) rfl rfl rfl (by decide +kernel) ⟨Nat.le_of_ble_eq_true rfl, Nat.le_of_ble_eq_true rfl⟩ rfl hl.1 rfl (Nat.le_of_ble_eq_true rfl) dX4_remove_35 ⟨Nat.zero_le _, Nat.zero_le _⟩) G (fun H locs G => ?_)
  refine lv_aload_n hx hb dX4_remove_38 rfl (lv_at hl 0 rfl) ?_
  refine gg4_2 C G ok.1 ok.2.1.2.2 u_fl_RX4_23 dX4_remove_39 ?_
  refine lv_iconst (v := (-1)) hx hb dX4_remove_42 (by decide) ?_
  obtain ⟨σ10, e_σ10, h⟩ := g_bind h
  refine g_callv (g_runV (n := 1) (As := [.int (-1)]) (rest := []) C G (mX5_setAll l X σ8 σ10 (t + 5) (-1) ok.2.2.2.2 e_σ10) ok.2.2.2.2.1.2 (gE_5 ok.2.2.2.2.1.1) rfl (g_goodV u_ml_RX4_41 u_im_yX5_setAll u_se_yX5_setAll u_in_RX5 u_co_yX5_setAll) rfl rfl rfl (by decide +kernel) ⟨Nat.le_of_ble_eq_true rfl, Nat.le_of_ble_eq_true rfl⟩ rfl hl.1 rfl (Nat.le_of_ble_eq_true rfl) dX4_remove_43 ⟨Nat.zero_le _, Nat.zero_le _⟩) G (fun H locs G => ?_)
  refine lv_iconst (v := 0) hx hb dX4_remove_46 (by decide) ?_
  refine lv_istore_n (lv' := [(2, .int 0), (0, .ref (xN X + t)), (1, .int a1)]) hx hb dX4_remove_47 rfl hl (by decide) rfl (fun ls hl => ?_)
  exact L48  gF _ _ _ σ10 0 G (lv_sub hl [1, 0] rfl) h

def fX0_remove (σ : gM) (t : Nat) (a1 : Int32) : Option (gM) :=
  ((fX6_remove σ (t + 1) a1).bind fun σ2 =>
  ((fX4_remove σ2 (t + 8) a1).bind fun σ4 =>
  some σ4))
set_option maxHeartbeats 4000000 in
set_option maxRecDepth 100000 in
theorem mX0_remove (l : Launch) (X : gX) (σ σ' : gM) (t : Nat) (a1 : Int32) (ok : gok0 X t) (h : fX0_remove σ t a1 = some σ') : Met l yX0_remove (Cond.code yX0_remove cX0_remove 2 none :: gBig) ({ frames := 3, cells := 0, slots := 0, locals := 109 }) (gPc X σ [.ref (xN X + t), .int a1]) (gQv X σ') 0 0 (xA X) := by
  refine g_metv (cc := cX0_remove) (maxL := 2) (own := RX0) (by decide) rfl rfl (Nat.le_of_ble_eq_true rfl) ?_
  intro p ev s m args below meth c Q C G ret ls hl
  obtain ⟨⟨hx, hb, hml, hown, hts⟩, hK⟩ := id C
  have hl : lv_has ls 2 [(0, .ref (xN X + t)), (1, .int a1)] := hl
  unfold fX0_remove at h
  refine lv_aload_n hx hb dX0_remove_0 rfl (lv_at hl 0 rfl) ?_
  refine gg0_0 C G ok.1 ok.2.1.1 u_fl_RX0_12 dX0_remove_1 ?_
  refine lv_iload_n hx hb dX0_remove_4 rfl (lv_at hl 1 rfl) ?_
  obtain ⟨σ2, e_σ2, h⟩ := g_bind h
  refine g_callv (g_runV (n := 1) (As := [.int a1]) (rest := []) C G (mX6_remove l X σ σ2 (t + 1) a1 ok.2.2.1 e_σ2) ok.2.2.1.1.2 (gE_6 ok.2.2.1.1.1) rfl (g_goodV u_ml_RX0_32 u_im_yX6_remove u_se_yX6_remove u_in_RX6 u_co_yX6_remove) rfl rfl rfl (by decide +kernel) ⟨Nat.le_of_ble_eq_true rfl, Nat.le_of_ble_eq_true rfl⟩ rfl hl.1 rfl (Nat.le_of_ble_eq_true rfl) dX0_remove_5 ⟨Nat.zero_le _, Nat.zero_le _⟩) G (fun H locs G => ?_)
  refine lv_aload_n hx hb dX0_remove_8 rfl (lv_at hl 0 rfl) ?_
  refine gg0_1 C G ok.1 ok.2.1.2 u_fl_RX0_21 dX0_remove_9 ?_
  refine lv_iload_n hx hb dX0_remove_12 rfl (lv_at hl 1 rfl) ?_
  obtain ⟨σ4, e_σ4, h⟩ := g_bind h
  refine g_callv (g_runV (n := 1) (As := [.int a1]) (rest := []) C G (mX4_remove l X σ2 σ4 (t + 8) a1 ok.2.2.2 e_σ4) ok.2.2.2.1.2 (gE_4 ok.2.2.2.1.1) rfl (g_goodV u_ml_RX0_36 u_im_yX4_remove u_se_yX4_remove u_in_RX4 u_co_yX4_remove) rfl rfl rfl (by decide +kernel) ⟨Nat.le_of_ble_eq_true rfl, Nat.le_of_ble_eq_true rfl⟩ rfl hl.1 rfl (Nat.le_of_ble_eq_true rfl) dX0_remove_13 ⟨Nat.zero_le _, Nat.zero_le _⟩) G (fun H locs G => ?_)
  exact ret dX0_remove_16 G (Option.some.inj h)

def fX8_removeScrap (σ : gM) (t : Nat) (a1 : Int32) : Option (Int32 × gM) :=
  ((fX8_isScrap σ t a1).bind fun v1 =>
  (if v1 = 0 then
    some ((-1001), σ)
  else
    ((fX3_keep σ (t + 31) (t + 1)).bind fun σ4 =>
    ((fX0_remove σ4 (t + 1) a1).bind fun σ6 =>
    ((fX6_size σ6 ((t + 1) + 1)).bind fun v7 =>
    some (v7, σ6))))))
set_option maxHeartbeats 4000000 in
set_option maxRecDepth 100000 in
theorem mX8_removeScrap (l : Launch) (X : gX) (σ σ' : gM) (t : Nat) (a1 : Int32) (r : Int32) (ok : gok8 X t) (h : fX8_removeScrap σ t a1 = some (r, σ')) : Met l yX8_removeScrap (Cond.code yX8_removeScrap cX8_removeScrap 2 (some .int) :: gBig) ({ frames := 5, cells := 0, slots := 0, locals := 150 }) (gPc X σ [.ref (xN X + t), .int a1]) (gQi X σ' r) 0 0 (xA X) := by
  refine g_meti (cc := cX8_removeScrap) (maxL := 2) (own := RX8) (by decide) rfl rfl (Nat.le_of_ble_eq_true rfl) ?_
  intro p ev s m args below meth c Q C G ret ls hl
  obtain ⟨⟨hx, hb, hml, hown, hts⟩, hK⟩ := id C
  have hl : lv_has ls 2 [(0, .ref (xN X + t)), (1, .int a1)] := hl
  unfold fX8_removeScrap at h
  refine lv_aload_n hx hb dX8_removeScrap_0 rfl (lv_at hl 0 rfl) ?_
  refine lv_iload_n hx hb dX8_removeScrap_1 rfl (lv_at hl 1 rfl) ?_
  obtain ⟨v1, e_v1, h⟩ := g_bind h
  refine g_calli (g_runV (n := 1) (As := [.int a1]) (rest := []) C G (mX8_isScrap l X σ t a1 v1 ok e_v1) ok.1.2 (gE_8 ok.1.1) rfl (g_goodV u_ml_RX8_104 u_im_yX8_isScrap u_se_yX8_isScrap u_in_RX8 u_co_yX8_isScrap) rfl rfl rfl (by decide +kernel) ⟨Nat.le_of_ble_eq_true rfl, Nat.le_of_ble_eq_true rfl⟩ rfl hl.1 rfl (Nat.le_of_ble_eq_true rfl) dX8_removeScrap_2 ⟨Nat.zero_le _, Nat.zero_le _⟩) G (fun H locs G => ?_)
  refine lv_if_ne (tgt := 12) hx hb dX8_removeScrap_5 (by decide) (fun c2 => ?_) (fun c2 => ?_)
  · have h := g_if h c2
    refine lv_aload_n hx hb dX8_removeScrap_12 rfl (lv_at hl 0 rfl) ?_
    refine gg8_2 C G ok.1 ok.2.1.2.2.1 u_fl_RX8_22 dX8_removeScrap_13 ?_
    refine lv_aload_n hx hb dX8_removeScrap_16 rfl (lv_at hl 0 rfl) ?_
    refine gg8_0 C G ok.1 ok.2.1.1 u_fl_RX8_10 dX8_removeScrap_17 ?_
    obtain ⟨σ4, e_σ4, h⟩ := g_bind h
    refine g_callv (g_runV (n := 1) (As := [.ref (xN X + (t + 1))]) (rest := []) C G (mX3_keep l X σ σ4 (t + 31) (t + 1) ok.2.2.2.2.1 ok.2.2.1 e_σ4) ok.2.2.2.2.1.1.2 (gE_3 ok.2.2.2.2.1.1.1) rfl (g_goodV u_ml_RX8_55 u_im_yX3_keep u_se_yX3_keep u_in_RX3 u_co_yX3_keep) rfl rfl rfl (by decide +kernel) ⟨Nat.le_of_ble_eq_true rfl, Nat.le_of_ble_eq_true rfl⟩ rfl hl.1 rfl (Nat.le_of_ble_eq_true rfl) dX8_removeScrap_20 ⟨Nat.zero_le _, Nat.zero_le _⟩) G (fun H locs G => ?_)
    refine lv_aload_n hx hb dX8_removeScrap_23 rfl (lv_at hl 0 rfl) ?_
    refine gg8_0 C G ok.1 ok.2.1.1 u_fl_RX8_10 dX8_removeScrap_24 ?_
    refine lv_iload_n hx hb dX8_removeScrap_27 rfl (lv_at hl 1 rfl) ?_
    obtain ⟨σ6, e_σ6, h⟩ := g_bind h
    refine g_callv (g_runV (n := 1) (As := [.int a1]) (rest := []) C G (mX0_remove l X σ4 σ6 (t + 1) a1 ok.2.2.1 e_σ6) ok.2.2.1.1.2 (gE_0 ok.2.2.1.1.1) rfl (g_goodV u_ml_RX8_107 u_im_yX0_remove u_se_yX0_remove u_in_RX0 u_co_yX0_remove) rfl rfl rfl (by decide +kernel) ⟨Nat.le_of_ble_eq_true rfl, Nat.le_of_ble_eq_true rfl⟩ rfl hl.1 rfl (Nat.le_of_ble_eq_true rfl) dX8_removeScrap_28 ⟨Nat.zero_le _, Nat.zero_le _⟩) G (fun H locs G => ?_)
    refine lv_aload_n hx hb dX8_removeScrap_31 rfl (lv_at hl 0 rfl) ?_
    refine gg8_0 C G ok.1 ok.2.1.1 u_fl_RX8_10 dX8_removeScrap_32 ?_
    refine gn0_0 C G ok.2.2.1.1 ok.2.2.1.2.1.1 (List.mem_of_getElem? (i := 1) rfl) dX8_removeScrap_35 ?_
    obtain ⟨v7, e_v7, h⟩ := g_bind h
    refine g_calli (g_runV (n := 0) (As := []) (rest := []) C G (mX6_size l X σ6 ((t + 1) + 1) v7 ok.2.2.1.2.2.1 e_v7) ok.2.2.1.2.2.1.1.2 (gE_6 ok.2.2.1.2.2.1.1.1) rfl (g_goodV u_ml_RX8_77 u_im_yX6_size u_se_yX6_size u_in_RX6 u_co_yX6_size) rfl rfl rfl (by decide +kernel) ⟨Nat.le_of_ble_eq_true rfl, Nat.le_of_ble_eq_true rfl⟩ rfl hl.1 rfl (Nat.le_of_ble_eq_true rfl) dX8_removeScrap_38 ⟨Nat.zero_le _, Nat.zero_le _⟩) G (fun H locs G => ?_)
    exact ret dX8_removeScrap_41 rfl G (Prod.mk.inj (Option.some.inj h))
  · have h := g_it h c2
    refine lv_sipush (v := (-1001)) hx hb dX8_removeScrap_8 (by decide) ?_
    exact ret dX8_removeScrap_11 rfl G (Prod.mk.inj (Option.some.inj h))

def fX6_kind (σ : gM) (t : Nat) (a1 : Int32) : Option (Int32) :=
  ((fX5_get σ (t + 1) a1).bind fun v1 =>
  some v1)
set_option maxHeartbeats 4000000 in
set_option maxRecDepth 100000 in
theorem mX6_kind (l : Launch) (X : gX) (σ : gM) (t : Nat) (a1 : Int32) (r : Int32) (ok : gok6 X t) (h : fX6_kind σ t a1 = some r) : Met l yX6_kind (Cond.code yX6_kind cX6_kind 2 (some .int) :: gBig) ({ frames := 1, cells := 0, slots := 0, locals := 21 }) (gPc X σ [.ref (xN X + t), .int a1]) (gQi X σ r) 0 0 (xA X) := by
  refine g_meti (cc := cX6_kind) (maxL := 2) (own := RX6) (by decide) rfl rfl (Nat.le_of_ble_eq_true rfl) ?_
  intro p ev s m args below meth c Q C G ret ls hl
  obtain ⟨⟨hx, hb, hml, hown, hts⟩, hK⟩ := id C
  have hl : lv_has ls 2 [(0, .ref (xN X + t)), (1, .int a1)] := hl
  unfold fX6_kind at h
  refine lv_aload_n hx hb dX6_kind_0 rfl (lv_at hl 0 rfl) ?_
  refine gg6_0 C G ok.1 ok.2.1.1 u_fl_RX6_14 dX6_kind_1 ?_
  refine lv_iload_n hx hb dX6_kind_4 rfl (lv_at hl 1 rfl) ?_
  obtain ⟨v1, e_v1, h⟩ := g_bind h
  refine g_calli (g_runV (n := 1) (As := [.int a1]) (rest := []) C G (mX5_get l X σ (t + 1) a1 v1 ok.2.2.1 e_v1) ok.2.2.1.1.2 (gE_5 ok.2.2.1.1.1) rfl (g_goodV u_ml_RX6_30 u_im_yX5_get u_se_yX5_get u_in_RX5 u_co_yX5_get) rfl rfl rfl (by decide +kernel) ⟨Nat.le_of_ble_eq_true rfl, Nat.le_of_ble_eq_true rfl⟩ rfl hl.1 rfl (Nat.le_of_ble_eq_true rfl) dX6_kind_5 ⟨Nat.zero_le _, Nat.zero_le _⟩) G (fun H locs G => ?_)
  exact ret dX6_kind_8 rfl G ⟨Option.some.inj h, rfl⟩

def fX4_orientationOf (σ : gM) (t : Nat) (a1 : Int32) : Option (Int32) :=
  ((fX5_get σ (t + 3) a1).bind fun v1 =>
  some v1)
set_option maxHeartbeats 4000000 in
set_option maxRecDepth 100000 in
theorem mX4_orientationOf (l : Launch) (X : gX) (σ : gM) (t : Nat) (a1 : Int32) (r : Int32) (ok : gok4 X t) (h : fX4_orientationOf σ t a1 = some r) : Met l yX4_orientationOf (Cond.code yX4_orientationOf cX4_orientationOf 2 (some .int) :: gBig) ({ frames := 1, cells := 0, slots := 0, locals := 21 }) (gPc X σ [.ref (xN X + t), .int a1]) (gQi X σ r) 0 0 (xA X) := by
  refine g_meti (cc := cX4_orientationOf) (maxL := 2) (own := RX4) (by decide) rfl rfl (Nat.le_of_ble_eq_true rfl) ?_
  intro p ev s m args below meth c Q C G ret ls hl
  obtain ⟨⟨hx, hb, hml, hown, hts⟩, hK⟩ := id C
  have hl : lv_has ls 2 [(0, .ref (xN X + t)), (1, .int a1)] := hl
  unfold fX4_orientationOf at h
  refine lv_aload_n hx hb dX4_orientationOf_0 rfl (lv_at hl 0 rfl) ?_
  refine gg4_1 C G ok.1 ok.2.1.2.1 u_fl_RX4_20 dX4_orientationOf_1 ?_
  refine lv_iload_n hx hb dX4_orientationOf_4 rfl (lv_at hl 1 rfl) ?_
  obtain ⟨v1, e_v1, h⟩ := g_bind h
  refine g_calli (g_runV (n := 1) (As := [.int a1]) (rest := []) C G (mX5_get l X σ (t + 3) a1 v1 ok.2.2.2.1 e_v1) ok.2.2.2.1.1.2 (gE_5 ok.2.2.2.1.1.1) rfl (g_goodV u_ml_RX4_37 u_im_yX5_get u_se_yX5_get u_in_RX5 u_co_yX5_get) rfl rfl rfl (by decide +kernel) ⟨Nat.le_of_ble_eq_true rfl, Nat.le_of_ble_eq_true rfl⟩ rfl hl.1 rfl (Nat.le_of_ble_eq_true rfl) dX4_orientationOf_5 ⟨Nat.zero_le _, Nat.zero_le _⟩) G (fun H locs G => ?_)
  exact ret dX4_orientationOf_8 rfl G ⟨Option.some.inj h, rfl⟩

def fX4_placeOf (σ : gM) (t : Nat) (a1 : Int32) : Option (Int32) :=
  ((fX5_get σ (t + 1) a1).bind fun v1 =>
  some v1)
set_option maxHeartbeats 4000000 in
set_option maxRecDepth 100000 in
theorem mX4_placeOf (l : Launch) (X : gX) (σ : gM) (t : Nat) (a1 : Int32) (r : Int32) (ok : gok4 X t) (h : fX4_placeOf σ t a1 = some r) : Met l yX4_placeOf (Cond.code yX4_placeOf cX4_placeOf 2 (some .int) :: gBig) ({ frames := 1, cells := 0, slots := 0, locals := 21 }) (gPc X σ [.ref (xN X + t), .int a1]) (gQi X σ r) 0 0 (xA X) := by
  refine g_meti (cc := cX4_placeOf) (maxL := 2) (own := RX4) (by decide) rfl rfl (Nat.le_of_ble_eq_true rfl) ?_
  intro p ev s m args below meth c Q C G ret ls hl
  obtain ⟨⟨hx, hb, hml, hown, hts⟩, hK⟩ := id C
  have hl : lv_has ls 2 [(0, .ref (xN X + t)), (1, .int a1)] := hl
  unfold fX4_placeOf at h
  refine lv_aload_n hx hb dX4_placeOf_0 rfl (lv_at hl 0 rfl) ?_
  refine gg4_0 C G ok.1 ok.2.1.1 u_fl_RX4_14 dX4_placeOf_1 ?_
  refine lv_iload_n hx hb dX4_placeOf_4 rfl (lv_at hl 1 rfl) ?_
  obtain ⟨v1, e_v1, h⟩ := g_bind h
  refine g_calli (g_runV (n := 1) (As := [.int a1]) (rest := []) C G (mX5_get l X σ (t + 1) a1 v1 ok.2.2.1 e_v1) ok.2.2.1.1.2 (gE_5 ok.2.2.1.1.1) rfl (g_goodV u_ml_RX4_37 u_im_yX5_get u_se_yX5_get u_in_RX5 u_co_yX5_get) rfl rfl rfl (by decide +kernel) ⟨Nat.le_of_ble_eq_true rfl, Nat.le_of_ble_eq_true rfl⟩ rfl hl.1 rfl (Nat.le_of_ble_eq_true rfl) dX4_placeOf_5 ⟨Nat.zero_le _, Nat.zero_le _⟩) G (fun H locs G => ?_)
  exact ret dX4_placeOf_8 rfl G ⟨Option.some.inj h, rfl⟩

def fX4_places (σ : gM) (t : Nat) : Option (Int32) :=
  some ((σ t 3) * (σ t 4))
set_option maxHeartbeats 4000000 in
set_option maxRecDepth 100000 in
theorem mX4_places (l : Launch) (X : gX) (σ : gM) (t : Nat) (r : Int32) (ok : gok4 X t) (h : fX4_places σ t = some r) : Met l yX4_places (Cond.code yX4_places cX4_places 1 (some .int) :: gBig) ({ frames := 0, cells := 0, slots := 0, locals := 0 }) (gPc X σ [.ref (xN X + t)]) (gQi X σ r) 0 0 (xA X) := by
  refine g_meti (cc := cX4_places) (maxL := 1) (own := RX4) (by decide) rfl rfl (Nat.le_of_ble_eq_true rfl) ?_
  intro p ev s m args below meth c Q C G ret ls hl
  obtain ⟨⟨hx, hb, hml, hown, hts⟩, hK⟩ := id C
  have hl : lv_has ls 1 [(0, .ref (xN X + t))] := hl
  unfold fX4_places at h
  refine lv_aload_n hx hb dX4_places_0 rfl (lv_at hl 0 rfl) ?_
  refine gg4_3 C G ok.1 u_fl_RX4_30 dX4_places_1 ?_
  refine lv_aload_n hx hb dX4_places_4 rfl (lv_at hl 0 rfl) ?_
  refine gg4_4 C G ok.1 u_fl_RX4_34 dX4_places_5 ?_
  refine lv_imul hx hb dX4_places_8 ?_
  exact ret dX4_places_9 rfl G ⟨Option.some.inj h, rfl⟩

def fX4_behind (σ : gM) (t : Nat) (a1 : Int32) (a2 : Int32) : Option (Int32) :=
  (if (σ t 3) ≤ 0 then
    (if a2 = 0 then
      (if a1 < (σ t 3) then
        some (-1)
      else
        some (a1 - (σ t 3)))
    else if a2 = 1 then
      (if (σ t 3) ≤ (0 + 1) then
        some (-1)
      else
        some (a1 + 1))
    else if a2 = 2 then
      ((fX4_places σ t).bind fun v7 =>
      (if v7 ≤ (a1 + (σ t 3)) then
        some (-1)
      else
        some (a1 + (σ t 3))))
    else 
      some (-1))
  else
    (if ¬ (σ t 3) = 0 then
    (gl (a1 - a1 / (σ t 3) * (σ t 3)) fun w11 =>
    (if a2 = 0 then
      (if a1 < (σ t 3) then
        some (-1)
      else
        some (a1 - (σ t 3)))
    else if a2 = 1 then
      (if (σ t 3) ≤ (w11 + 1) then
        some (-1)
      else
        some (a1 + 1))
    else if a2 = 2 then
      ((fX4_places σ t).bind fun v17 =>
      (if v17 ≤ (a1 + (σ t 3)) then
        some (-1)
      else
        some (a1 + (σ t 3))))
    else 
      (if w11 ≤ 0 then
        some (-1)
      else
        some (a1 - 1))))
    else none))
set_option maxHeartbeats 4000000 in
set_option maxRecDepth 100000 in
theorem mX4_behind (l : Launch) (X : gX) (σ : gM) (t : Nat) (a1 : Int32) (a2 : Int32) (r : Int32) (ok : gok4 X t) (h : fX4_behind σ t a1 a2 = some r) : Met l yX4_behind (Cond.code yX4_behind cX4_behind 4 (some .int) :: gBig) ({ frames := 1, cells := 0, slots := 0, locals := 20 }) (gPc X σ [.ref (xN X + t), .int a1, .int a2]) (gQi X σ r) 0 0 (xA X) := by
  refine g_meti (cc := cX4_behind) (maxL := 4) (own := RX4) (by decide) rfl rfl (Nat.le_of_ble_eq_true rfl) ?_
  intro p ev s m args below meth c Q C G ret ls hl
  obtain ⟨⟨hx, hb, hml, hown, hts⟩, hK⟩ := id C
  have hl : lv_has ls 4 [(0, .ref (xN X + t)), (1, .int a1), (2, .int a2)] := hl
  unfold fX4_behind at h
  refine lv_aload_n hx hb dX4_behind_0 rfl (lv_at hl 0 rfl) ?_
  refine gg4_3 C G ok.1 u_fl_RX4_30 dX4_behind_1 ?_
  refine lv_if_le (tgt := 16) hx hb dX4_behind_4 (by decide) (fun c1 => ?_) (fun c1 => ?_)
  · have h := g_it h c1
    refine lv_iconst (v := 0) hx hb dX4_behind_16 (by decide) ?_
    refine lv_istore_n (lv' := [(3, .int 0), (0, .ref (xN X + t)), (1, .int a1), (2, .int a2)]) hx hb dX4_behind_17 rfl hl (by decide) rfl (fun ls hl => ?_)
    refine lv_iload_n hx hb dX4_behind_18 rfl (lv_at hl 3 rfl) ?_
    by_cases c2 : a2 = 0
    · have h := g_it h c2
      refine lv_tableIn (off := 25) (tgt := 44) hx hb dX4_behind_19 (by rw [c2]; decide) (by rw [c2]; decide) (by rw [c2]; rfl) (by decide) ?_
      refine lv_iload_n hx hb dX4_behind_44 rfl (lv_at hl 2 rfl) ?_
      refine lv_aload_n hx hb dX4_behind_45 rfl (lv_at hl 1 rfl) ?_
      refine gg4_3 C G ok.1 u_fl_RX4_30 dX4_behind_46 ?_
      refine lv_icmp_lt (tgt := 61) hx hb dX4_behind_49 (by decide) (fun c3 => ?_) (fun c3 => ?_)
      · have h := g_it h c3
        refine lv_iconst (v := (-1)) hx hb dX4_behind_61 (by decide) ?_
        exact ret dX4_behind_62 rfl G ⟨Option.some.inj h, rfl⟩
      · have h := g_if h c3
        refine lv_iload_n hx hb dX4_behind_52 rfl (lv_at hl 2 rfl) ?_
        refine lv_aload_n hx hb dX4_behind_53 rfl (lv_at hl 1 rfl) ?_
        refine gg4_3 C G ok.1 u_fl_RX4_30 dX4_behind_54 ?_
        refine lv_isub hx hb dX4_behind_57 ?_
        refine lv_goto (tgt := 62) hx hb dX4_behind_58 (by decide) ?_
        exact ret dX4_behind_62 rfl G ⟨Option.some.inj h, rfl⟩
    have h := g_if h c2
    by_cases c4 : a2 = 1
    · have h := g_it h c4
      refine lv_tableIn (off := 44) (tgt := 63) hx hb dX4_behind_19 (by rw [c4]; decide) (by rw [c4]; decide) (by rw [c4]; rfl) (by decide) ?_
      refine lv_iload_n hx hb dX4_behind_63 rfl (lv_at hl 0 rfl) ?_
      refine lv_iconst (v := 1) hx hb dX4_behind_64 (by decide) ?_
      refine lv_iadd hx hb dX4_behind_65 ?_
      refine lv_aload_n hx hb dX4_behind_66 rfl (lv_at hl 1 rfl) ?_
      refine gg4_3 C G ok.1 u_fl_RX4_30 dX4_behind_67 ?_
      refine lv_icmp_ge (tgt := 79) hx hb dX4_behind_70 (by decide) (fun c5 => ?_) (fun c5 => ?_)
      · have h := g_it h c5
        refine lv_iconst (v := (-1)) hx hb dX4_behind_79 (by decide) ?_
        exact ret dX4_behind_80 rfl G ⟨Option.some.inj h, rfl⟩
      · have h := g_if h c5
        refine lv_iload_n hx hb dX4_behind_73 rfl (lv_at hl 2 rfl) ?_
        refine lv_iconst (v := 1) hx hb dX4_behind_74 (by decide) ?_
        refine lv_iadd hx hb dX4_behind_75 ?_
        refine lv_goto (tgt := 80) hx hb dX4_behind_76 (by decide) ?_
        exact ret dX4_behind_80 rfl G ⟨Option.some.inj h, rfl⟩
    have h := g_if h c4
    by_cases c6 : a2 = 2
    · have h := g_it h c6
      refine lv_tableIn (off := 62) (tgt := 81) hx hb dX4_behind_19 (by rw [c6]; decide) (by rw [c6]; decide) (by rw [c6]; rfl) (by decide) ?_
      refine lv_iload_n hx hb dX4_behind_81 rfl (lv_at hl 2 rfl) ?_
      refine lv_aload_n hx hb dX4_behind_82 rfl (lv_at hl 1 rfl) ?_
      refine gg4_3 C G ok.1 u_fl_RX4_30 dX4_behind_83 ?_
      refine lv_iadd hx hb dX4_behind_86 ?_
      refine lv_aload_n hx hb dX4_behind_87 rfl (lv_at hl 1 rfl) ?_
      obtain ⟨v7, e_v7, h⟩ := g_bind h
      refine g_calli (g_runV (n := 0) (As := []) (rest := [.int (a1 + (σ t 3))]) C G (mX4_places l X σ t v7 ok e_v7) ok.1.2 (gE_4 ok.1.1) rfl (g_goodV u_ml_RX4_54 u_im_yX4_places u_se_yX4_places u_in_RX4 u_co_yX4_places) rfl rfl rfl (by decide +kernel) ⟨Nat.le_of_ble_eq_true rfl, Nat.le_of_ble_eq_true rfl⟩ rfl hl.1 rfl (Nat.le_of_ble_eq_true rfl) dX4_behind_88 ⟨Nat.zero_le _, Nat.zero_le _⟩) G (fun H locs G => ?_)
      refine lv_icmp_ge (tgt := 103) hx hb dX4_behind_91 (by decide) (fun c8 => ?_) (fun c8 => ?_)
      · have h := g_it h c8
        refine lv_iconst (v := (-1)) hx hb dX4_behind_103 (by decide) ?_
        exact ret dX4_behind_104 rfl G ⟨Option.some.inj h, rfl⟩
      · have h := g_if h c8
        refine lv_iload_n hx hb dX4_behind_94 rfl (lv_at hl 2 rfl) ?_
        refine lv_aload_n hx hb dX4_behind_95 rfl (lv_at hl 1 rfl) ?_
        refine gg4_3 C G ok.1 u_fl_RX4_30 dX4_behind_96 ?_
        refine lv_iadd hx hb dX4_behind_99 ?_
        refine lv_goto (tgt := 104) hx hb dX4_behind_100 (by decide) ?_
        exact ret dX4_behind_104 rfl G ⟨Option.some.inj h, rfl⟩
    have h := g_if h c6
    refine lv_tableOut (tgt := 105) hx hb dX4_behind_19 (by have q0 := lv_neT c2 (a := 0) (by decide); have q1 := lv_neT c4 (a := 1) (by decide); have q2 := lv_neT c6 (a := 2) (by decide); omega) (by decide) ?_
    refine lv_iload_n hx hb dX4_behind_105 rfl (lv_at hl 0 rfl) ?_
    refine lv_if_le (tgt := 115) hx hb dX4_behind_106 (by decide) (fun _ => ?_) (fun c9 => absurd c9 (by decide))
    refine lv_iconst (v := (-1)) hx hb dX4_behind_115 (by decide) ?_
    exact ret dX4_behind_116 rfl G ⟨Option.some.inj h, rfl⟩
  · have h := g_if h c1
    refine lv_iload_n hx hb dX4_behind_7 rfl (lv_at hl 1 rfl) ?_
    refine lv_aload_n hx hb dX4_behind_8 rfl (lv_at hl 0 rfl) ?_
    refine gg4_3 C G ok.1 u_fl_RX4_30 dX4_behind_9 ?_
    obtain ⟨c10, h⟩ := g_chk h
    refine lv_irem hx hb dX4_behind_12 c10 ?_
    refine lv_goto (tgt := 17) hx hb dX4_behind_13 (by decide) ?_
    refine lv_topi (fun w11 e_w11 => ?_)
    have h := g_let2 e_w11 h
    refine lv_istore_n (lv' := [(3, .int w11), (0, .ref (xN X + t)), (1, .int a1), (2, .int a2)]) hx hb dX4_behind_17 rfl hl (by decide) rfl (fun ls hl => ?_)
    refine lv_iload_n hx hb dX4_behind_18 rfl (lv_at hl 3 rfl) ?_
    by_cases c12 : a2 = 0
    · have h := g_it h c12
      refine lv_tableIn (off := 25) (tgt := 44) hx hb dX4_behind_19 (by rw [c12]; decide) (by rw [c12]; decide) (by rw [c12]; rfl) (by decide) ?_
      refine lv_iload_n hx hb dX4_behind_44 rfl (lv_at hl 2 rfl) ?_
      refine lv_aload_n hx hb dX4_behind_45 rfl (lv_at hl 1 rfl) ?_
      refine gg4_3 C G ok.1 u_fl_RX4_30 dX4_behind_46 ?_
      refine lv_icmp_lt (tgt := 61) hx hb dX4_behind_49 (by decide) (fun c13 => ?_) (fun c13 => ?_)
      · have h := g_it h c13
        refine lv_iconst (v := (-1)) hx hb dX4_behind_61 (by decide) ?_
        exact ret dX4_behind_62 rfl G ⟨Option.some.inj h, rfl⟩
      · have h := g_if h c13
        refine lv_iload_n hx hb dX4_behind_52 rfl (lv_at hl 2 rfl) ?_
        refine lv_aload_n hx hb dX4_behind_53 rfl (lv_at hl 1 rfl) ?_
        refine gg4_3 C G ok.1 u_fl_RX4_30 dX4_behind_54 ?_
        refine lv_isub hx hb dX4_behind_57 ?_
        refine lv_goto (tgt := 62) hx hb dX4_behind_58 (by decide) ?_
        exact ret dX4_behind_62 rfl G ⟨Option.some.inj h, rfl⟩
    have h := g_if h c12
    by_cases c14 : a2 = 1
    · have h := g_it h c14
      refine lv_tableIn (off := 44) (tgt := 63) hx hb dX4_behind_19 (by rw [c14]; decide) (by rw [c14]; decide) (by rw [c14]; rfl) (by decide) ?_
      refine lv_iload_n hx hb dX4_behind_63 rfl (lv_at hl 0 rfl) ?_
      refine lv_iconst (v := 1) hx hb dX4_behind_64 (by decide) ?_
      refine lv_iadd hx hb dX4_behind_65 ?_
      refine lv_aload_n hx hb dX4_behind_66 rfl (lv_at hl 1 rfl) ?_
      refine gg4_3 C G ok.1 u_fl_RX4_30 dX4_behind_67 ?_
      refine lv_icmp_ge (tgt := 79) hx hb dX4_behind_70 (by decide) (fun c15 => ?_) (fun c15 => ?_)
      · have h := g_it h c15
        refine lv_iconst (v := (-1)) hx hb dX4_behind_79 (by decide) ?_
        exact ret dX4_behind_80 rfl G ⟨Option.some.inj h, rfl⟩
      · have h := g_if h c15
        refine lv_iload_n hx hb dX4_behind_73 rfl (lv_at hl 2 rfl) ?_
        refine lv_iconst (v := 1) hx hb dX4_behind_74 (by decide) ?_
        refine lv_iadd hx hb dX4_behind_75 ?_
        refine lv_goto (tgt := 80) hx hb dX4_behind_76 (by decide) ?_
        exact ret dX4_behind_80 rfl G ⟨Option.some.inj h, rfl⟩
    have h := g_if h c14
    by_cases c16 : a2 = 2
    · have h := g_it h c16
      refine lv_tableIn (off := 62) (tgt := 81) hx hb dX4_behind_19 (by rw [c16]; decide) (by rw [c16]; decide) (by rw [c16]; rfl) (by decide) ?_
      refine lv_iload_n hx hb dX4_behind_81 rfl (lv_at hl 2 rfl) ?_
      refine lv_aload_n hx hb dX4_behind_82 rfl (lv_at hl 1 rfl) ?_
      refine gg4_3 C G ok.1 u_fl_RX4_30 dX4_behind_83 ?_
      refine lv_iadd hx hb dX4_behind_86 ?_
      refine lv_aload_n hx hb dX4_behind_87 rfl (lv_at hl 1 rfl) ?_
      obtain ⟨v17, e_v17, h⟩ := g_bind h
      refine g_calli (g_runV (n := 0) (As := []) (rest := [.int (a1 + (σ t 3))]) C G (mX4_places l X σ t v17 ok e_v17) ok.1.2 (gE_4 ok.1.1) rfl (g_goodV u_ml_RX4_54 u_im_yX4_places u_se_yX4_places u_in_RX4 u_co_yX4_places) rfl rfl rfl (by decide +kernel) ⟨Nat.le_of_ble_eq_true rfl, Nat.le_of_ble_eq_true rfl⟩ rfl hl.1 rfl (Nat.le_of_ble_eq_true rfl) dX4_behind_88 ⟨Nat.zero_le _, Nat.zero_le _⟩) G (fun H locs G => ?_)
      refine lv_icmp_ge (tgt := 103) hx hb dX4_behind_91 (by decide) (fun c18 => ?_) (fun c18 => ?_)
      · have h := g_it h c18
        refine lv_iconst (v := (-1)) hx hb dX4_behind_103 (by decide) ?_
        exact ret dX4_behind_104 rfl G ⟨Option.some.inj h, rfl⟩
      · have h := g_if h c18
        refine lv_iload_n hx hb dX4_behind_94 rfl (lv_at hl 2 rfl) ?_
        refine lv_aload_n hx hb dX4_behind_95 rfl (lv_at hl 1 rfl) ?_
        refine gg4_3 C G ok.1 u_fl_RX4_30 dX4_behind_96 ?_
        refine lv_iadd hx hb dX4_behind_99 ?_
        refine lv_goto (tgt := 104) hx hb dX4_behind_100 (by decide) ?_
        exact ret dX4_behind_104 rfl G ⟨Option.some.inj h, rfl⟩
    have h := g_if h c16
    refine lv_tableOut (tgt := 105) hx hb dX4_behind_19 (by have q0 := lv_neT c12 (a := 0) (by decide); have q1 := lv_neT c14 (a := 1) (by decide); have q2 := lv_neT c16 (a := 2) (by decide); omega) (by decide) ?_
    refine lv_iload_n hx hb dX4_behind_105 rfl (lv_at hl 0 rfl) ?_
    refine lv_if_le (tgt := 115) hx hb dX4_behind_106 (by decide) (fun c19 => ?_) (fun c19 => ?_)
    · have h := g_it h c19
      refine lv_iconst (v := (-1)) hx hb dX4_behind_115 (by decide) ?_
      exact ret dX4_behind_116 rfl G ⟨Option.some.inj h, rfl⟩
    · have h := g_if h c19
      refine lv_iload_n hx hb dX4_behind_109 rfl (lv_at hl 2 rfl) ?_
      refine lv_iconst (v := 1) hx hb dX4_behind_110 (by decide) ?_
      refine lv_isub hx hb dX4_behind_111 ?_
      refine lv_goto (tgt := 116) hx hb dX4_behind_112 (by decide) ?_
      exact ret dX4_behind_116 rfl G ⟨Option.some.inj h, rfl⟩

def fX6_profile (σ : gM) (t : Nat) (a1 : Int32) (a2 : Int32) (a3 : Int32) : Option (Int32) :=
  ((fX5_get σ (t + 3) (((a1 * 32) + (a2 * 4)) + a3)).bind fun v1 =>
  some v1)
set_option maxHeartbeats 4000000 in
set_option maxRecDepth 100000 in
theorem mX6_profile (l : Launch) (X : gX) (σ : gM) (t : Nat) (a1 : Int32) (a2 : Int32) (a3 : Int32) (r : Int32) (ok : gok6 X t) (h : fX6_profile σ t a1 a2 a3 = some r) : Met l yX6_profile (Cond.code yX6_profile cX6_profile 4 (some .int) :: gBig) ({ frames := 1, cells := 0, slots := 0, locals := 21 }) (gPc X σ [.ref (xN X + t), .int a1, .int a2, .int a3]) (gQi X σ r) 0 0 (xA X) := by
  refine g_meti (cc := cX6_profile) (maxL := 4) (own := RX6) (by decide) rfl rfl (Nat.le_of_ble_eq_true rfl) ?_
  intro p ev s m args below meth c Q C G ret ls hl
  obtain ⟨⟨hx, hb, hml, hown, hts⟩, hK⟩ := id C
  have hl : lv_has ls 4 [(0, .ref (xN X + t)), (1, .int a1), (2, .int a2), (3, .int a3)] := hl
  unfold fX6_profile at h
  refine lv_aload_n hx hb dX6_profile_0 rfl (lv_at hl 0 rfl) ?_
  refine gg6_1 C G ok.1 ok.2.1.2.1 u_fl_RX6_20 dX6_profile_1 ?_
  refine lv_iload_n hx hb dX6_profile_4 rfl (lv_at hl 1 rfl) ?_
  refine lv_bipush (v := 32) hx hb dX6_profile_5 (by decide) ?_
  refine lv_imul hx hb dX6_profile_7 ?_
  refine lv_iload_n hx hb dX6_profile_8 rfl (lv_at hl 2 rfl) ?_
  refine lv_iconst (v := 4) hx hb dX6_profile_9 (by decide) ?_
  refine lv_imul hx hb dX6_profile_10 ?_
  refine lv_iadd hx hb dX6_profile_11 ?_
  refine lv_iload_n hx hb dX6_profile_12 rfl (lv_at hl 3 rfl) ?_
  refine lv_iadd hx hb dX6_profile_13 ?_
  obtain ⟨v1, e_v1, h⟩ := g_bind h
  refine g_calli (g_runV (n := 1) (As := [.int (((a1 * 32) + (a2 * 4)) + a3)]) (rest := []) C G (mX5_get l X σ (t + 3) (((a1 * 32) + (a2 * 4)) + a3) v1 ok.2.2.2.1 e_v1) ok.2.2.2.1.1.2 (gE_5 ok.2.2.2.1.1.1) rfl (g_goodV u_ml_RX6_30 u_im_yX5_get u_se_yX5_get u_in_RX5 u_co_yX5_get) rfl rfl rfl (by decide +kernel) ⟨Nat.le_of_ble_eq_true rfl, Nat.le_of_ble_eq_true rfl⟩ rfl hl.1 rfl (Nat.le_of_ble_eq_true rfl) dX6_profile_14 ⟨Nat.zero_le _, Nat.zero_le _⟩) G (fun H locs G => ?_)
  exact ret dX6_profile_17 rfl G ⟨Option.some.inj h, rfl⟩

def fX4_scrapAt (σ : gM) (t : Nat) (a1 : Int32) : Option (Int32) :=
  ((fX5_get σ (t + 5) a1).bind fun v1 =>
  some v1)
set_option maxHeartbeats 4000000 in
set_option maxRecDepth 100000 in
theorem mX4_scrapAt (l : Launch) (X : gX) (σ : gM) (t : Nat) (a1 : Int32) (r : Int32) (ok : gok4 X t) (h : fX4_scrapAt σ t a1 = some r) : Met l yX4_scrapAt (Cond.code yX4_scrapAt cX4_scrapAt 2 (some .int) :: gBig) ({ frames := 1, cells := 0, slots := 0, locals := 21 }) (gPc X σ [.ref (xN X + t), .int a1]) (gQi X σ r) 0 0 (xA X) := by
  refine g_meti (cc := cX4_scrapAt) (maxL := 2) (own := RX4) (by decide) rfl rfl (Nat.le_of_ble_eq_true rfl) ?_
  intro p ev s m args below meth c Q C G ret ls hl
  obtain ⟨⟨hx, hb, hml, hown, hts⟩, hK⟩ := id C
  have hl : lv_has ls 2 [(0, .ref (xN X + t)), (1, .int a1)] := hl
  unfold fX4_scrapAt at h
  refine lv_aload_n hx hb dX4_scrapAt_0 rfl (lv_at hl 0 rfl) ?_
  refine gg4_2 C G ok.1 ok.2.1.2.2 u_fl_RX4_23 dX4_scrapAt_1 ?_
  refine lv_iload_n hx hb dX4_scrapAt_4 rfl (lv_at hl 1 rfl) ?_
  obtain ⟨v1, e_v1, h⟩ := g_bind h
  refine g_calli (g_runV (n := 1) (As := [.int a1]) (rest := []) C G (mX5_get l X σ (t + 5) a1 v1 ok.2.2.2.2 e_v1) ok.2.2.2.2.1.2 (gE_5 ok.2.2.2.2.1.1) rfl (g_goodV u_ml_RX4_37 u_im_yX5_get u_se_yX5_get u_in_RX5 u_co_yX5_get) rfl rfl rfl (by decide +kernel) ⟨Nat.le_of_ble_eq_true rfl, Nat.le_of_ble_eq_true rfl⟩ rfl hl.1 rfl (Nat.le_of_ble_eq_true rfl) dX4_scrapAt_5 ⟨Nat.zero_le _, Nat.zero_le _⟩) G (fun H locs G => ?_)
  exact ret dX4_scrapAt_8 rfl G ⟨Option.some.inj h, rfl⟩

def fX6_line (σ : gM) (t : Nat) (a1 : Int32) (a2 : Int32) (a3 : Int32) : Option (Int32) :=
  ((fX5_get σ (t + 5) (((a1 * 32) + (a2 * 4)) + a3)).bind fun v1 =>
  some v1)
set_option maxHeartbeats 4000000 in
set_option maxRecDepth 100000 in
theorem mX6_line (l : Launch) (X : gX) (σ : gM) (t : Nat) (a1 : Int32) (a2 : Int32) (a3 : Int32) (r : Int32) (ok : gok6 X t) (h : fX6_line σ t a1 a2 a3 = some r) : Met l yX6_line (Cond.code yX6_line cX6_line 4 (some .int) :: gBig) ({ frames := 1, cells := 0, slots := 0, locals := 21 }) (gPc X σ [.ref (xN X + t), .int a1, .int a2, .int a3]) (gQi X σ r) 0 0 (xA X) := by
  refine g_meti (cc := cX6_line) (maxL := 4) (own := RX6) (by decide) rfl rfl (Nat.le_of_ble_eq_true rfl) ?_
  intro p ev s m args below meth c Q C G ret ls hl
  obtain ⟨⟨hx, hb, hml, hown, hts⟩, hK⟩ := id C
  have hl : lv_has ls 4 [(0, .ref (xN X + t)), (1, .int a1), (2, .int a2), (3, .int a3)] := hl
  unfold fX6_line at h
  refine lv_aload_n hx hb dX6_line_0 rfl (lv_at hl 0 rfl) ?_
  refine gg6_2 C G ok.1 ok.2.1.2.2 u_fl_RX6_23 dX6_line_1 ?_
  refine lv_iload_n hx hb dX6_line_4 rfl (lv_at hl 1 rfl) ?_
  refine lv_bipush (v := 32) hx hb dX6_line_5 (by decide) ?_
  refine lv_imul hx hb dX6_line_7 ?_
  refine lv_iload_n hx hb dX6_line_8 rfl (lv_at hl 2 rfl) ?_
  refine lv_iconst (v := 4) hx hb dX6_line_9 (by decide) ?_
  refine lv_imul hx hb dX6_line_10 ?_
  refine lv_iadd hx hb dX6_line_11 ?_
  refine lv_iload_n hx hb dX6_line_12 rfl (lv_at hl 3 rfl) ?_
  refine lv_iadd hx hb dX6_line_13 ?_
  obtain ⟨v1, e_v1, h⟩ := g_bind h
  refine g_calli (g_runV (n := 1) (As := [.int (((a1 * 32) + (a2 * 4)) + a3)]) (rest := []) C G (mX5_get l X σ (t + 5) (((a1 * 32) + (a2 * 4)) + a3) v1 ok.2.2.2.2 e_v1) ok.2.2.2.2.1.2 (gE_5 ok.2.2.2.2.1.1) rfl (g_goodV u_ml_RX6_30 u_im_yX5_get u_se_yX5_get u_in_RX5 u_co_yX5_get) rfl rfl rfl (by decide +kernel) ⟨Nat.le_of_ble_eq_true rfl, Nat.le_of_ble_eq_true rfl⟩ rfl hl.1 rfl (Nat.le_of_ble_eq_true rfl) dX6_line_14 ⟨Nat.zero_le _, Nat.zero_le _⟩) G (fun H locs G => ?_)
  exact ret dX6_line_17 rfl G ⟨Option.some.inj h, rfl⟩

def fX0_verdict (σ : gM) (t : Nat) (a1 : Int32) (a2 : Int32) (a3 : Int32) (a4 : Int32) : Option (Int32) :=
  ((fX6_profile σ (t + 1) a1 a3 a4).bind fun v1 =>
  ((fX4_behind σ (t + 8) a2 a4).bind fun v2 =>
  (if v2 = (-1) then
    (if v1 = (-1) then
      some 0
    else
      some 4)
  else
    ((fX4_scrapAt σ (t + 8) v2).bind fun v5 =>
    (if v5 = (-1) then
      some (-1)
    else
      (if v5 = a1 then
        some (-1)
      else
        ((fX4_orientationOf σ (t + 8) v5).bind fun v8 =>
        (gl ((a4 + 2) &&& 3) fun w9 =>
        ((fX6_profile σ (t + 1) v5 v8 w9).bind fun v10 =>
        (if v1 = (-1) then
          some 1
        else
          (if v10 = (-1) then
            some 1
          else
            (if (v1 + v10) = 999 then
              ((fX6_line σ (t + 1) a1 a3 a4).bind fun v14 =>
              ((fX6_line σ (t + 1) v5 v8 w9).bind fun v15 =>
              (if v14 = v15 then
                some 0
              else
                some 3)))
            else
              some 2))))))))))))
set_option maxHeartbeats 4000000 in
set_option maxRecDepth 100000 in
theorem mX0_verdict (l : Launch) (X : gX) (σ : gM) (t : Nat) (a1 : Int32) (a2 : Int32) (a3 : Int32) (a4 : Int32) (r : Int32) (ok : gok0 X t) (h : fX0_verdict σ t a1 a2 a3 a4 = some r) : Met l yX0_verdict (Cond.code yX0_verdict cX0_verdict 12 (some .int) :: gBig) ({ frames := 2, cells := 0, slots := 0, locals := 44 }) (gPc X σ [.ref (xN X + t), .int a1, .int a2, .int a3, .int a4]) (gQi X σ r) 0 0 (xA X) := by
  refine g_meti (cc := cX0_verdict) (maxL := 12) (own := RX0) (by decide) rfl rfl (Nat.le_of_ble_eq_true rfl) ?_
  intro p ev s m args below meth c Q C G ret ls hl
  obtain ⟨⟨hx, hb, hml, hown, hts⟩, hK⟩ := id C
  have hl : lv_has ls 12 [(0, .ref (xN X + t)), (1, .int a1), (2, .int a2), (3, .int a3), (4, .int a4)] := hl
  unfold fX0_verdict at h
  refine lv_aload_n hx hb dX0_verdict_0 rfl (lv_at hl 0 rfl) ?_
  refine gg0_0 C G ok.1 ok.2.1.1 u_fl_RX0_12 dX0_verdict_1 ?_
  refine lv_iload_n hx hb dX0_verdict_4 rfl (lv_at hl 1 rfl) ?_
  refine lv_iload_n hx hb dX0_verdict_5 rfl (lv_at hl 3 rfl) ?_
  refine lv_iload hx hb dX0_verdict_6 (lv_at hl 4 rfl) ?_
  obtain ⟨v1, e_v1, h⟩ := g_bind h
  refine g_calli (g_runV (n := 3) (As := [.int a1, .int a3, .int a4]) (rest := []) C G (mX6_profile l X σ (t + 1) a1 a3 a4 v1 ok.2.2.1 e_v1) ok.2.2.1.1.2 (gE_6 ok.2.2.1.1.1) rfl (g_goodV u_ml_RX0_53 u_im_yX6_profile u_se_yX6_profile u_in_RX6 u_co_yX6_profile) rfl rfl rfl (by decide +kernel) ⟨Nat.le_of_ble_eq_true rfl, Nat.le_of_ble_eq_true rfl⟩ rfl hl.1 rfl (Nat.le_of_ble_eq_true rfl) dX0_verdict_8 ⟨Nat.zero_le _, Nat.zero_le _⟩) G (fun H locs G => ?_)
  refine lv_istore (lv' := [(5, .int v1), (0, .ref (xN X + t)), (1, .int a1), (2, .int a2), (3, .int a3), (4, .int a4)]) hx hb dX0_verdict_11 hl (by decide) rfl (fun ls hl => ?_)
  refine lv_aload_n hx hb dX0_verdict_13 rfl (lv_at hl 1 rfl) ?_
  refine gg0_1 C G ok.1 ok.2.1.2 u_fl_RX0_21 dX0_verdict_14 ?_
  refine lv_iload_n hx hb dX0_verdict_17 rfl (lv_at hl 3 rfl) ?_
  refine lv_iload hx hb dX0_verdict_18 (lv_at hl 5 rfl) ?_
  obtain ⟨v2, e_v2, h⟩ := g_bind h
  refine g_calli (g_runV (n := 2) (As := [.int a2, .int a4]) (rest := []) C G (mX4_behind l X σ (t + 8) a2 a4 v2 ok.2.2.2 e_v2) ok.2.2.2.1.2 (gE_4 ok.2.2.2.1.1) rfl (g_goodV u_ml_RX0_45 u_im_yX4_behind u_se_yX4_behind u_in_RX4 u_co_yX4_behind) rfl rfl rfl (by decide +kernel) ⟨Nat.le_of_ble_eq_true rfl, Nat.le_of_ble_eq_true rfl⟩ rfl hl.1 rfl (Nat.le_of_ble_eq_true rfl) dX0_verdict_20 ⟨Nat.zero_le _, Nat.zero_le _⟩) G (fun H locs G => ?_)
  refine lv_istore (lv' := [(6, .int v2), (5, .int v1), (0, .ref (xN X + t)), (1, .int a1), (2, .int a2), (3, .int a3), (4, .int a4)]) hx hb dX0_verdict_23 hl (by decide) rfl (fun ls hl => ?_)
  refine lv_iload hx hb dX0_verdict_25 (lv_at hl 0 rfl) ?_
  refine lv_iconst (v := (-1)) hx hb dX0_verdict_27 (by decide) ?_
  refine lv_icmp_ne (tgt := 43) hx hb dX0_verdict_28 (by decide) (fun c3 => ?_) (fun c3 => ?_)
  · have h := g_if h c3
    refine lv_aload_n hx hb dX0_verdict_43 rfl (lv_at hl 2 rfl) ?_
    refine gg0_1 C G ok.1 ok.2.1.2 u_fl_RX0_21 dX0_verdict_44 ?_
    refine lv_iload hx hb dX0_verdict_47 (lv_at hl 0 rfl) ?_
    obtain ⟨v5, e_v5, h⟩ := g_bind h
    refine g_calli (g_runV (n := 1) (As := [.int v2]) (rest := []) C G (mX4_scrapAt l X σ (t + 8) v2 v5 ok.2.2.2 e_v5) ok.2.2.2.1.2 (gE_4 ok.2.2.2.1.1) rfl (g_goodV u_ml_RX0_49 u_im_yX4_scrapAt u_se_yX4_scrapAt u_in_RX4 u_co_yX4_scrapAt) rfl rfl rfl (by decide +kernel) ⟨Nat.le_of_ble_eq_true rfl, Nat.le_of_ble_eq_true rfl⟩ rfl hl.1 rfl (Nat.le_of_ble_eq_true rfl) dX0_verdict_49 ⟨Nat.zero_le _, Nat.zero_le _⟩) G (fun H locs G => ?_)
    refine lv_istore (lv' := [(7, .int v5), (6, .int v2), (5, .int v1), (0, .ref (xN X + t)), (1, .int a1), (2, .int a2), (3, .int a3), (4, .int a4)]) hx hb dX0_verdict_52 hl (by decide) rfl (fun ls hl => ?_)
    refine lv_iload hx hb dX0_verdict_54 (lv_at hl 0 rfl) ?_
    refine lv_iconst (v := (-1)) hx hb dX0_verdict_56 (by decide) ?_
    refine lv_icmp_eq (tgt := 66) hx hb dX0_verdict_57 (by decide) (fun c6 => ?_) (fun c6 => ?_)
    · have h := g_it h c6
      refine lv_iconst (v := (-1)) hx hb dX0_verdict_66 (by decide) ?_
      exact ret dX0_verdict_67 rfl G ⟨Option.some.inj h, rfl⟩
    · have h := g_if h c6
      refine lv_iload hx hb dX0_verdict_60 (lv_at hl 0 rfl) ?_
      refine lv_iload_n hx hb dX0_verdict_62 rfl (lv_at hl 4 rfl) ?_
      refine lv_icmp_ne (tgt := 68) hx hb dX0_verdict_63 (by decide) (fun c7 => ?_) (fun c7 => ?_)
      · have h := g_if h c7
        refine lv_aload_n hx hb dX0_verdict_68 rfl (lv_at hl 3 rfl) ?_
        refine gg0_1 C G ok.1 ok.2.1.2 u_fl_RX0_21 dX0_verdict_69 ?_
        refine lv_iload hx hb dX0_verdict_72 (lv_at hl 0 rfl) ?_
        obtain ⟨v8, e_v8, h⟩ := g_bind h
        refine g_calli (g_runV (n := 1) (As := [.int v5]) (rest := []) C G (mX4_orientationOf l X σ (t + 8) v5 v8 ok.2.2.2 e_v8) ok.2.2.2.1.2 (gE_4 ok.2.2.2.1.1) rfl (g_goodV u_ml_RX0_57 u_im_yX4_orientationOf u_se_yX4_orientationOf u_in_RX4 u_co_yX4_orientationOf) rfl rfl rfl (by decide +kernel) ⟨Nat.le_of_ble_eq_true rfl, Nat.le_of_ble_eq_true rfl⟩ rfl hl.1 rfl (Nat.le_of_ble_eq_true rfl) dX0_verdict_74 ⟨Nat.zero_le _, Nat.zero_le _⟩) G (fun H locs G => ?_)
        refine lv_istore (lv' := [(8, .int v8), (7, .int v5), (6, .int v2), (5, .int v1), (0, .ref (xN X + t)), (1, .int a1), (2, .int a2), (3, .int a3), (4, .int a4)]) hx hb dX0_verdict_77 hl (by decide) rfl (fun ls hl => ?_)
        refine lv_iload hx hb dX0_verdict_79 (lv_at hl 8 rfl) ?_
        refine lv_iconst (v := 2) hx hb dX0_verdict_81 (by decide) ?_
        refine lv_iadd hx hb dX0_verdict_82 ?_
        refine lv_iconst (v := 3) hx hb dX0_verdict_83 (by decide) ?_
        refine lv_iand hx hb dX0_verdict_84 ?_
        refine lv_topi (fun w9 e_w9 => ?_)
        have h := g_let2 e_w9 h
        refine lv_istore (lv' := [(9, .int w9), (8, .int v8), (7, .int v5), (6, .int v2), (5, .int v1), (0, .ref (xN X + t)), (1, .int a1), (2, .int a2), (3, .int a3), (4, .int a4)]) hx hb dX0_verdict_85 hl (by decide) rfl (fun ls hl => ?_)
        refine lv_aload_n hx hb dX0_verdict_87 rfl (lv_at hl 5 rfl) ?_
        refine gg0_0 C G ok.1 ok.2.1.1 u_fl_RX0_12 dX0_verdict_88 ?_
        refine lv_iload hx hb dX0_verdict_91 (lv_at hl 2 rfl) ?_
        refine lv_iload hx hb dX0_verdict_93 (lv_at hl 1 rfl) ?_
        refine lv_iload hx hb dX0_verdict_95 (lv_at hl 0 rfl) ?_
        obtain ⟨v10, e_v10, h⟩ := g_bind h
        refine g_calli (g_runV (n := 3) (As := [.int v5, .int v8, .int w9]) (rest := []) C G (mX6_profile l X σ (t + 1) v5 v8 w9 v10 ok.2.2.1 e_v10) ok.2.2.1.1.2 (gE_6 ok.2.2.1.1.1) rfl (g_goodV u_ml_RX0_53 u_im_yX6_profile u_se_yX6_profile u_in_RX6 u_co_yX6_profile) rfl rfl rfl (by decide +kernel) ⟨Nat.le_of_ble_eq_true rfl, Nat.le_of_ble_eq_true rfl⟩ rfl hl.1 rfl (Nat.le_of_ble_eq_true rfl) dX0_verdict_97 ⟨Nat.zero_le _, Nat.zero_le _⟩) G (fun H locs G => ?_)
        refine lv_istore (lv' := [(10, .int v10), (9, .int w9), (8, .int v8), (7, .int v5), (6, .int v2), (5, .int v1), (0, .ref (xN X + t)), (1, .int a1), (2, .int a2), (3, .int a3), (4, .int a4)]) hx hb dX0_verdict_100 hl (by decide) rfl (fun ls hl => ?_)
        refine lv_iload hx hb dX0_verdict_102 (lv_at hl 5 rfl) ?_
        refine lv_iconst (v := (-1)) hx hb dX0_verdict_104 (by decide) ?_
        refine lv_icmp_eq (tgt := 114) hx hb dX0_verdict_105 (by decide) (fun c11 => ?_) (fun c11 => ?_)
        · have h := g_it h c11
          refine lv_iconst (v := 1) hx hb dX0_verdict_114 (by decide) ?_
          exact ret dX0_verdict_115 rfl G ⟨Option.some.inj h, rfl⟩
        · have h := g_if h c11
          refine lv_iload hx hb dX0_verdict_108 (lv_at hl 0 rfl) ?_
          refine lv_iconst (v := (-1)) hx hb dX0_verdict_110 (by decide) ?_
          refine lv_icmp_ne (tgt := 116) hx hb dX0_verdict_111 (by decide) (fun c12 => ?_) (fun c12 => ?_)
          · have h := g_if h c12
            refine lv_iload hx hb dX0_verdict_116 (lv_at hl 5 rfl) ?_
            refine lv_iload hx hb dX0_verdict_118 (lv_at hl 0 rfl) ?_
            refine lv_iadd hx hb dX0_verdict_120 ?_
            refine lv_sipush (v := 999) hx hb dX0_verdict_121 (by decide) ?_
            refine lv_icmp_eq (tgt := 129) hx hb dX0_verdict_124 (by decide) (fun c13 => ?_) (fun c13 => ?_)
            · have h := g_it h c13
              refine lv_aload_n hx hb dX0_verdict_129 rfl (lv_at hl 6 rfl) ?_
              refine gg0_0 C G ok.1 ok.2.1.1 u_fl_RX0_12 dX0_verdict_130 ?_
              refine lv_iload_n hx hb dX0_verdict_133 rfl (lv_at hl 7 rfl) ?_
              refine lv_iload_n hx hb dX0_verdict_134 rfl (lv_at hl 9 rfl) ?_
              refine lv_iload hx hb dX0_verdict_135 (lv_at hl 10 rfl) ?_
              obtain ⟨v14, e_v14, h⟩ := g_bind h
              refine g_calli (g_runV (n := 3) (As := [.int a1, .int a3, .int a4]) (rest := []) C G (mX6_line l X σ (t + 1) a1 a3 a4 v14 ok.2.2.1 e_v14) ok.2.2.1.1.2 (gE_6 ok.2.2.1.1.1) rfl (g_goodV u_ml_RX0_60 u_im_yX6_line u_se_yX6_line u_in_RX6 u_co_yX6_line) rfl rfl rfl (by decide +kernel) ⟨Nat.le_of_ble_eq_true rfl, Nat.le_of_ble_eq_true rfl⟩ rfl hl.1 rfl (Nat.le_of_ble_eq_true rfl) dX0_verdict_137 ⟨Nat.zero_le _, Nat.zero_le _⟩) G (fun H locs G => ?_)
              refine lv_istore (lv' := [(11, .int v14), (10, .int v10), (9, .int w9), (8, .int v8), (7, .int v5), (6, .int v2), (5, .int v1), (0, .ref (xN X + t)), (1, .int a1), (2, .int a2), (3, .int a3), (4, .int a4)]) hx hb dX0_verdict_140 hl (by decide) rfl (fun ls hl => ?_)
              refine lv_iload hx hb dX0_verdict_142 (lv_at hl 0 rfl) ?_
              refine lv_aload_n hx hb dX0_verdict_144 rfl (lv_at hl 7 rfl) ?_
              refine gg0_0 C G ok.1 ok.2.1.1 u_fl_RX0_12 dX0_verdict_145 ?_
              refine lv_iload hx hb dX0_verdict_148 (lv_at hl 4 rfl) ?_
              refine lv_iload hx hb dX0_verdict_150 (lv_at hl 3 rfl) ?_
              refine lv_iload hx hb dX0_verdict_152 (lv_at hl 2 rfl) ?_
              obtain ⟨v15, e_v15, h⟩ := g_bind h
              refine g_calli (g_runV (n := 3) (As := [.int v5, .int v8, .int w9]) (rest := [.int v14]) C G (mX6_line l X σ (t + 1) v5 v8 w9 v15 ok.2.2.1 e_v15) ok.2.2.1.1.2 (gE_6 ok.2.2.1.1.1) rfl (g_goodV u_ml_RX0_60 u_im_yX6_line u_se_yX6_line u_in_RX6 u_co_yX6_line) rfl rfl rfl (by decide +kernel) ⟨Nat.le_of_ble_eq_true rfl, Nat.le_of_ble_eq_true rfl⟩ rfl hl.1 rfl (Nat.le_of_ble_eq_true rfl) dX0_verdict_154 ⟨Nat.zero_le _, Nat.zero_le _⟩) G (fun H locs G => ?_)
              refine lv_icmp_ne (tgt := 164) hx hb dX0_verdict_157 (by decide) (fun c16 => ?_) (fun c16 => ?_)
              · have h := g_if h c16
                refine lv_iconst (v := 3) hx hb dX0_verdict_164 (by decide) ?_
                exact ret dX0_verdict_165 rfl G ⟨Option.some.inj h, rfl⟩
              · have h := g_it h c16
                refine lv_iconst (v := 0) hx hb dX0_verdict_160 (by decide) ?_
                refine lv_goto (tgt := 165) hx hb dX0_verdict_161 (by decide) ?_
                exact ret dX0_verdict_165 rfl G ⟨Option.some.inj h, rfl⟩
            · have h := g_if h c13
              refine lv_iconst (v := 2) hx hb dX0_verdict_127 (by decide) ?_
              exact ret dX0_verdict_128 rfl G ⟨Option.some.inj h, rfl⟩
          · have h := g_it h c12
            refine lv_iconst (v := 1) hx hb dX0_verdict_114 (by decide) ?_
            exact ret dX0_verdict_115 rfl G ⟨Option.some.inj h, rfl⟩
      · have h := g_it h c7
        refine lv_iconst (v := (-1)) hx hb dX0_verdict_66 (by decide) ?_
        exact ret dX0_verdict_67 rfl G ⟨Option.some.inj h, rfl⟩
  · have h := g_it h c3
    refine lv_iload hx hb dX0_verdict_31 (lv_at hl 1 rfl) ?_
    refine lv_iconst (v := (-1)) hx hb dX0_verdict_33 (by decide) ?_
    refine lv_icmp_ne (tgt := 41) hx hb dX0_verdict_34 (by decide) (fun c4 => ?_) (fun c4 => ?_)
    · have h := g_if h c4
      refine lv_iconst (v := 4) hx hb dX0_verdict_41 (by decide) ?_
      exact ret dX0_verdict_42 rfl G ⟨Option.some.inj h, rfl⟩
    · have h := g_it h c4
      refine lv_iconst (v := 0) hx hb dX0_verdict_37 (by decide) ?_
      refine lv_goto (tgt := 42) hx hb dX0_verdict_38 (by decide) ?_
      exact ret dX0_verdict_42 rfl G ⟨Option.some.inj h, rfl⟩

def fX0_isJoined (σ : gM) (t : Nat) (a1 : Int32) (a2 : Int32) : Option (Int32) :=
  ((fX4_placeOf σ (t + 8) a1).bind fun v1 =>
  (if v1 = (-1) then
    some 0
  else
    ((fX4_behind σ (t + 8) v1 a2).bind fun v3 =>
    (if v3 = (-1) then
      some 0
    else
      ((fX4_orientationOf σ (t + 8) a1).bind fun v5 =>
      ((fX0_verdict σ t a1 v1 v5 a2).bind fun v6 =>
      (if v6 = 0 then
        some 1
      else
        some 0)))))))
set_option maxHeartbeats 4000000 in
set_option maxRecDepth 100000 in
theorem mX0_isJoined (l : Launch) (X : gX) (σ : gM) (t : Nat) (a1 : Int32) (a2 : Int32) (r : Int32) (ok : gok0 X t) (h : fX0_isJoined σ t a1 a2 = some r) : Met l yX0_isJoined (Cond.code yX0_isJoined cX0_isJoined 4 (some .boolean) :: gBig) ({ frames := 3, cells := 0, slots := 0, locals := 75 }) (gPc X σ [.ref (xN X + t), .int a1, .int a2]) (gQi X σ r) 0 0 (xA X) := by
  refine g_meti (cc := cX0_isJoined) (maxL := 4) (own := RX0) (by decide) rfl rfl (Nat.le_of_ble_eq_true rfl) ?_
  intro p ev s m args below meth c Q C G ret ls hl
  obtain ⟨⟨hx, hb, hml, hown, hts⟩, hK⟩ := id C
  have hl : lv_has ls 4 [(0, .ref (xN X + t)), (1, .int a1), (2, .int a2)] := hl
  unfold fX0_isJoined at h
  refine lv_aload_n hx hb dX0_isJoined_0 rfl (lv_at hl 0 rfl) ?_
  refine gg0_1 C G ok.1 ok.2.1.2 u_fl_RX0_21 dX0_isJoined_1 ?_
  refine lv_iload_n hx hb dX0_isJoined_4 rfl (lv_at hl 1 rfl) ?_
  obtain ⟨v1, e_v1, h⟩ := g_bind h
  refine g_calli (g_runV (n := 1) (As := [.int a1]) (rest := []) C G (mX4_placeOf l X σ (t + 8) a1 v1 ok.2.2.2 e_v1) ok.2.2.2.1.2 (gE_4 ok.2.2.2.1.1) rfl (g_goodV u_ml_RX0_77 u_im_yX4_placeOf u_se_yX4_placeOf u_in_RX4 u_co_yX4_placeOf) rfl rfl rfl (by decide +kernel) ⟨Nat.le_of_ble_eq_true rfl, Nat.le_of_ble_eq_true rfl⟩ rfl hl.1 rfl (Nat.le_of_ble_eq_true rfl) dX0_isJoined_5 ⟨Nat.zero_le _, Nat.zero_le _⟩) G (fun H locs G => ?_)
  refine lv_istore_n (lv' := [(3, .int v1), (0, .ref (xN X + t)), (1, .int a1), (2, .int a2)]) hx hb dX0_isJoined_8 rfl hl (by decide) rfl (fun ls hl => ?_)
  refine lv_iload_n hx hb dX0_isJoined_9 rfl (lv_at hl 0 rfl) ?_
  refine lv_iconst (v := (-1)) hx hb dX0_isJoined_10 (by decide) ?_
  refine lv_icmp_eq (tgt := 49) hx hb dX0_isJoined_11 (by decide) (fun c2 => ?_) (fun c2 => ?_)
  · have h := g_it h c2
    refine lv_iconst (v := 0) hx hb dX0_isJoined_49 (by decide) ?_
    exact ret dX0_isJoined_50 rfl G ⟨Option.some.inj h, rfl⟩
  · have h := g_if h c2
    refine lv_aload_n hx hb dX0_isJoined_14 rfl (lv_at hl 1 rfl) ?_
    refine gg0_1 C G ok.1 ok.2.1.2 u_fl_RX0_21 dX0_isJoined_15 ?_
    refine lv_iload_n hx hb dX0_isJoined_18 rfl (lv_at hl 0 rfl) ?_
    refine lv_iload_n hx hb dX0_isJoined_19 rfl (lv_at hl 3 rfl) ?_
    obtain ⟨v3, e_v3, h⟩ := g_bind h
    refine g_calli (g_runV (n := 2) (As := [.int v1, .int a2]) (rest := []) C G (mX4_behind l X σ (t + 8) v1 a2 v3 ok.2.2.2 e_v3) ok.2.2.2.1.2 (gE_4 ok.2.2.2.1.1) rfl (g_goodV u_ml_RX0_45 u_im_yX4_behind u_se_yX4_behind u_in_RX4 u_co_yX4_behind) rfl rfl rfl (by decide +kernel) ⟨Nat.le_of_ble_eq_true rfl, Nat.le_of_ble_eq_true rfl⟩ rfl hl.1 rfl (Nat.le_of_ble_eq_true rfl) dX0_isJoined_20 ⟨Nat.zero_le _, Nat.zero_le _⟩) G (fun H locs G => ?_)
    refine lv_iconst (v := (-1)) hx hb dX0_isJoined_23 (by decide) ?_
    refine lv_icmp_eq (tgt := 49) hx hb dX0_isJoined_24 (by decide) (fun c4 => ?_) (fun c4 => ?_)
    · have h := g_it h c4
      refine lv_iconst (v := 0) hx hb dX0_isJoined_49 (by decide) ?_
      exact ret dX0_isJoined_50 rfl G ⟨Option.some.inj h, rfl⟩
    · have h := g_if h c4
      refine lv_aload_n hx hb dX0_isJoined_27 rfl (lv_at hl 1 rfl) ?_
      refine lv_iload_n hx hb dX0_isJoined_28 rfl (lv_at hl 2 rfl) ?_
      refine lv_iload_n hx hb dX0_isJoined_29 rfl (lv_at hl 0 rfl) ?_
      refine lv_aload_n hx hb dX0_isJoined_30 rfl (lv_at hl 1 rfl) ?_
      refine gg0_1 C G ok.1 ok.2.1.2 u_fl_RX0_21 dX0_isJoined_31 ?_
      refine lv_iload_n hx hb dX0_isJoined_34 rfl (lv_at hl 2 rfl) ?_
      obtain ⟨v5, e_v5, h⟩ := g_bind h
      refine g_calli (g_runV (n := 1) (As := [.int a1]) (rest := [.int v1, .int a1, .ref (xN X + t)]) C G (mX4_orientationOf l X σ (t + 8) a1 v5 ok.2.2.2 e_v5) ok.2.2.2.1.2 (gE_4 ok.2.2.2.1.1) rfl (g_goodV u_ml_RX0_57 u_im_yX4_orientationOf u_se_yX4_orientationOf u_in_RX4 u_co_yX4_orientationOf) rfl rfl rfl (by decide +kernel) ⟨Nat.le_of_ble_eq_true rfl, Nat.le_of_ble_eq_true rfl⟩ rfl hl.1 rfl (Nat.le_of_ble_eq_true rfl) dX0_isJoined_35 ⟨Nat.zero_le _, Nat.zero_le _⟩) G (fun H locs G => ?_)
      refine lv_iload_n hx hb dX0_isJoined_38 rfl (lv_at hl 3 rfl) ?_
      obtain ⟨v6, e_v6, h⟩ := g_bind h
      refine g_calli (g_runV (n := 4) (As := [.int a1, .int v1, .int v5, .int a2]) (rest := []) C G (mX0_verdict l X σ t a1 v1 v5 a2 v6 ok e_v6) ok.1.2 (gE_0 ok.1.1) rfl (g_goodV u_ml_RX0_63 u_im_yX0_verdict u_se_yX0_verdict u_in_RX0 u_co_yX0_verdict) rfl rfl rfl (by decide +kernel) ⟨Nat.le_of_ble_eq_true rfl, Nat.le_of_ble_eq_true rfl⟩ rfl hl.1 rfl (Nat.le_of_ble_eq_true rfl) dX0_isJoined_39 ⟨Nat.zero_le _, Nat.zero_le _⟩) G (fun H locs G => ?_)
      refine lv_if_ne (tgt := 49) hx hb dX0_isJoined_42 (by decide) (fun c7 => ?_) (fun c7 => ?_)
      · have h := g_if h c7
        refine lv_iconst (v := 0) hx hb dX0_isJoined_49 (by decide) ?_
        exact ret dX0_isJoined_50 rfl G ⟨Option.some.inj h, rfl⟩
      · have h := g_it h c7
        refine lv_iconst (v := 1) hx hb dX0_isJoined_45 (by decide) ?_
        refine lv_goto (tgt := 50) hx hb dX0_isJoined_46 (by decide) ?_
        exact ret dX0_isJoined_50 rfl G ⟨Option.some.inj h, rfl⟩

def fX0_neighbour (σ : gM) (t : Nat) (a1 : Int32) (a2 : Int32) (a3 : Int32) : Option (Int32) :=
  ((fX4_behind σ (t + 8) a2 a3).bind fun v1 =>
  ((fX4_scrapAt σ (t + 8) v1).bind fun v2 =>
  (if v2 = a1 then
    some (-1)
  else
    some v2)))
set_option maxHeartbeats 4000000 in
set_option maxRecDepth 100000 in
theorem mX0_neighbour (l : Launch) (X : gX) (σ : gM) (t : Nat) (a1 : Int32) (a2 : Int32) (a3 : Int32) (r : Int32) (ok : gok0 X t) (h : fX0_neighbour σ t a1 a2 a3 = some r) : Met l yX0_neighbour (Cond.code yX0_neighbour cX0_neighbour 5 (some .int) :: gBig) ({ frames := 2, cells := 0, slots := 0, locals := 43 }) (gPc X σ [.ref (xN X + t), .int a1, .int a2, .int a3]) (gQi X σ r) 0 0 (xA X) := by
  refine g_meti (cc := cX0_neighbour) (maxL := 5) (own := RX0) (by decide) rfl rfl (Nat.le_of_ble_eq_true rfl) ?_
  intro p ev s m args below meth c Q C G ret ls hl
  obtain ⟨⟨hx, hb, hml, hown, hts⟩, hK⟩ := id C
  have hl : lv_has ls 5 [(0, .ref (xN X + t)), (1, .int a1), (2, .int a2), (3, .int a3)] := hl
  unfold fX0_neighbour at h
  refine lv_aload_n hx hb dX0_neighbour_0 rfl (lv_at hl 0 rfl) ?_
  refine gg0_1 C G ok.1 ok.2.1.2 u_fl_RX0_21 dX0_neighbour_1 ?_
  refine lv_aload_n hx hb dX0_neighbour_4 rfl (lv_at hl 0 rfl) ?_
  refine gg0_1 C G ok.1 ok.2.1.2 u_fl_RX0_21 dX0_neighbour_5 ?_
  refine lv_iload_n hx hb dX0_neighbour_8 rfl (lv_at hl 2 rfl) ?_
  refine lv_iload_n hx hb dX0_neighbour_9 rfl (lv_at hl 3 rfl) ?_
  obtain ⟨v1, e_v1, h⟩ := g_bind h
  refine g_calli (g_runV (n := 2) (As := [.int a2, .int a3]) (rest := [.ref (xN X + (t + 8))]) C G (mX4_behind l X σ (t + 8) a2 a3 v1 ok.2.2.2 e_v1) ok.2.2.2.1.2 (gE_4 ok.2.2.2.1.1) rfl (g_goodV u_ml_RX0_45 u_im_yX4_behind u_se_yX4_behind u_in_RX4 u_co_yX4_behind) rfl rfl rfl (by decide +kernel) ⟨Nat.le_of_ble_eq_true rfl, Nat.le_of_ble_eq_true rfl⟩ rfl hl.1 rfl (Nat.le_of_ble_eq_true rfl) dX0_neighbour_10 ⟨Nat.zero_le _, Nat.zero_le _⟩) G (fun H locs G => ?_)
  obtain ⟨v2, e_v2, h⟩ := g_bind h
  refine g_calli (g_runV (n := 1) (As := [.int v1]) (rest := []) C G (mX4_scrapAt l X σ (t + 8) v1 v2 ok.2.2.2 e_v2) ok.2.2.2.1.2 (gE_4 ok.2.2.2.1.1) rfl (g_goodV u_ml_RX0_49 u_im_yX4_scrapAt u_se_yX4_scrapAt u_in_RX4 u_co_yX4_scrapAt) rfl rfl rfl (by decide +kernel) ⟨Nat.le_of_ble_eq_true rfl, Nat.le_of_ble_eq_true rfl⟩ rfl hl.1 rfl (Nat.le_of_ble_eq_true rfl) dX0_neighbour_13 ⟨Nat.zero_le _, Nat.zero_le _⟩) G (fun H locs G => ?_)
  refine lv_istore (lv' := [(4, .int v2), (0, .ref (xN X + t)), (1, .int a1), (2, .int a2), (3, .int a3)]) hx hb dX0_neighbour_16 hl (by decide) rfl (fun ls hl => ?_)
  refine lv_iload hx hb dX0_neighbour_18 (lv_at hl 0 rfl) ?_
  refine lv_iload_n hx hb dX0_neighbour_20 rfl (lv_at hl 2 rfl) ?_
  refine lv_icmp_ne (tgt := 28) hx hb dX0_neighbour_21 (by decide) (fun c3 => ?_) (fun c3 => ?_)
  · have h := g_if h c3
    refine lv_iload hx hb dX0_neighbour_28 (lv_at hl 0 rfl) ?_
    exact ret dX0_neighbour_30 rfl G ⟨Option.some.inj h, rfl⟩
  · have h := g_it h c3
    refine lv_iconst (v := (-1)) hx hb dX0_neighbour_24 (by decide) ?_
    refine lv_goto (tgt := 30) hx hb dX0_neighbour_25 (by decide) ?_
    exact ret dX0_neighbour_30 rfl G ⟨Option.some.inj h, rfl⟩

def fX0_neighbourOnPage (σ : gM) (t : Nat) (a1 : Int32) (a2 : Int32) : Option (Int32) :=
  ((fX4_placeOf σ (t + 8) a1).bind fun v1 =>
  (if v1 = (-1) then
    some (-1)
  else
    ((fX0_neighbour σ t a1 v1 a2).bind fun v3 =>
    some v3)))
set_option maxHeartbeats 4000000 in
set_option maxRecDepth 100000 in
theorem mX0_neighbourOnPage (l : Launch) (X : gX) (σ : gM) (t : Nat) (a1 : Int32) (a2 : Int32) (r : Int32) (ok : gok0 X t) (h : fX0_neighbourOnPage σ t a1 a2 = some r) : Met l yX0_neighbourOnPage (Cond.code yX0_neighbourOnPage cX0_neighbourOnPage 4 (some .int) :: gBig) ({ frames := 3, cells := 0, slots := 0, locals := 67 }) (gPc X σ [.ref (xN X + t), .int a1, .int a2]) (gQi X σ r) 0 0 (xA X) := by
  refine g_meti (cc := cX0_neighbourOnPage) (maxL := 4) (own := RX0) (by decide) rfl rfl (Nat.le_of_ble_eq_true rfl) ?_
  intro p ev s m args below meth c Q C G ret ls hl
  obtain ⟨⟨hx, hb, hml, hown, hts⟩, hK⟩ := id C
  have hl : lv_has ls 4 [(0, .ref (xN X + t)), (1, .int a1), (2, .int a2)] := hl
  unfold fX0_neighbourOnPage at h
  refine lv_aload_n hx hb dX0_neighbourOnPage_0 rfl (lv_at hl 0 rfl) ?_
  refine gg0_1 C G ok.1 ok.2.1.2 u_fl_RX0_21 dX0_neighbourOnPage_1 ?_
  refine lv_iload_n hx hb dX0_neighbourOnPage_4 rfl (lv_at hl 1 rfl) ?_
  obtain ⟨v1, e_v1, h⟩ := g_bind h
  refine g_calli (g_runV (n := 1) (As := [.int a1]) (rest := []) C G (mX4_placeOf l X σ (t + 8) a1 v1 ok.2.2.2 e_v1) ok.2.2.2.1.2 (gE_4 ok.2.2.2.1.1) rfl (g_goodV u_ml_RX0_77 u_im_yX4_placeOf u_se_yX4_placeOf u_in_RX4 u_co_yX4_placeOf) rfl rfl rfl (by decide +kernel) ⟨Nat.le_of_ble_eq_true rfl, Nat.le_of_ble_eq_true rfl⟩ rfl hl.1 rfl (Nat.le_of_ble_eq_true rfl) dX0_neighbourOnPage_5 ⟨Nat.zero_le _, Nat.zero_le _⟩) G (fun H locs G => ?_)
  refine lv_istore_n (lv' := [(3, .int v1), (0, .ref (xN X + t)), (1, .int a1), (2, .int a2)]) hx hb dX0_neighbourOnPage_8 rfl hl (by decide) rfl (fun ls hl => ?_)
  refine lv_iload_n hx hb dX0_neighbourOnPage_9 rfl (lv_at hl 0 rfl) ?_
  refine lv_iconst (v := (-1)) hx hb dX0_neighbourOnPage_10 (by decide) ?_
  refine lv_icmp_ne (tgt := 18) hx hb dX0_neighbourOnPage_11 (by decide) (fun c2 => ?_) (fun c2 => ?_)
  · have h := g_if h c2
    refine lv_aload_n hx hb dX0_neighbourOnPage_18 rfl (lv_at hl 1 rfl) ?_
    refine lv_iload_n hx hb dX0_neighbourOnPage_19 rfl (lv_at hl 2 rfl) ?_
    refine lv_iload_n hx hb dX0_neighbourOnPage_20 rfl (lv_at hl 0 rfl) ?_
    refine lv_iload_n hx hb dX0_neighbourOnPage_21 rfl (lv_at hl 3 rfl) ?_
    obtain ⟨v3, e_v3, h⟩ := g_bind h
    refine g_calli (g_runV (n := 3) (As := [.int a1, .int v1, .int a2]) (rest := []) C G (mX0_neighbour l X σ t a1 v1 a2 v3 ok e_v3) ok.1.2 (gE_0 ok.1.1) rfl (g_goodV u_ml_RX0_71 u_im_yX0_neighbour u_se_yX0_neighbour u_in_RX0 u_co_yX0_neighbour) rfl rfl rfl (by decide +kernel) ⟨Nat.le_of_ble_eq_true rfl, Nat.le_of_ble_eq_true rfl⟩ rfl hl.1 rfl (Nat.le_of_ble_eq_true rfl) dX0_neighbourOnPage_22 ⟨Nat.zero_le _, Nat.zero_le _⟩) G (fun H locs G => ?_)
    exact ret dX0_neighbourOnPage_25 rfl G ⟨Option.some.inj h, rfl⟩
  · have h := g_it h c2
    refine lv_iconst (v := (-1)) hx hb dX0_neighbourOnPage_14 (by decide) ?_
    refine lv_goto (tgt := 25) hx hb dX0_neighbourOnPage_15 (by decide) ?_
    exact ret dX0_neighbourOnPage_25 rfl G ⟨Option.some.inj h, rfl⟩

def fX2_join (σ : gM) (t : Nat) (o1 : Nat) (a2 : Int32) (a3 : Int32) : Option (gM) :=
  ((fX0_isJoined σ o1 a2 a3).bind fun v1 =>
  (if v1 = 0 then
    some σ
  else
    ((fX0_neighbourOnPage σ o1 a2 a3).bind fun v3 =>
    ((fX5_get σ (t + 1) a2).bind fun v4 =>
    ((fX5_get σ (t + 1) v3).bind fun v5 =>
    (gl (if v5 < v4 then v5 else v4) fun w6 =>
    ((fX5_set σ (t + 1) a2 w6).bind fun σ8 =>
    ((fX5_set σ8 (t + 1) v3 w6).bind fun σ10 =>
    some σ10))))))))
set_option maxHeartbeats 4000000 in
set_option maxRecDepth 100000 in
theorem mX2_join (l : Launch) (X : gX) (σ σ' : gM) (t : Nat) (o1 : Nat) (a2 : Int32) (a3 : Int32) (ok : gok2 X t) (ok1 : gok0 X o1) (h : fX2_join σ t o1 a2 a3 = some σ') : Met l yX2_join (Cond.code yX2_join cX2_join 6 none :: gBig) ({ frames := 4, cells := 0, slots := 0, locals := 98 }) (gPc X σ [.ref (xN X + t), .ref (xN X + o1), .int a2, .int a3]) (gQv X σ') 0 0 (xA X) := by
  refine g_metv (cc := cX2_join) (maxL := 6) (own := RX2) (by decide) rfl rfl (Nat.le_of_ble_eq_true rfl) ?_
  intro p ev s m args below meth c Q C G ret ls hl
  obtain ⟨⟨hx, hb, hml, hown, hts⟩, hK⟩ := id C
  have hl : lv_has ls 6 [(0, .ref (xN X + t)), (1, .ref (xN X + o1)), (2, .int a2), (3, .int a3)] := hl
  unfold fX2_join at h
  refine lv_aload_n hx hb dX2_join_0 rfl (lv_at hl 1 rfl) ?_
  refine lv_iload_n hx hb dX2_join_1 rfl (lv_at hl 2 rfl) ?_
  refine lv_iload_n hx hb dX2_join_2 rfl (lv_at hl 3 rfl) ?_
  obtain ⟨v1, e_v1, h⟩ := g_bind h
  refine g_calli (g_runV (n := 2) (As := [.int a2, .int a3]) (rest := []) C G (mX0_isJoined l X σ o1 a2 a3 v1 ok1 e_v1) ok1.1.2 (gE_0 ok1.1.1) rfl (g_goodV u_ml_RX2_53 u_im_yX0_isJoined u_se_yX0_isJoined u_in_RX0 u_co_yX0_isJoined) rfl rfl rfl (by decide +kernel) ⟨Nat.le_of_ble_eq_true rfl, Nat.le_of_ble_eq_true rfl⟩ rfl hl.1 rfl (Nat.le_of_ble_eq_true rfl) dX2_join_3 ⟨Nat.zero_le _, Nat.zero_le _⟩) G (fun H locs G => ?_)
  refine lv_if_eq (tgt := 60) hx hb dX2_join_6 (by decide) (fun c2 => ?_) (fun c2 => ?_)
  · have h := g_it h c2
    exact ret dX2_join_60 G (Option.some.inj h)
  · have h := g_if h c2
    refine lv_aload_n hx hb dX2_join_9 rfl (lv_at hl 1 rfl) ?_
    refine lv_iload_n hx hb dX2_join_10 rfl (lv_at hl 2 rfl) ?_
    refine lv_iload_n hx hb dX2_join_11 rfl (lv_at hl 3 rfl) ?_
    obtain ⟨v3, e_v3, h⟩ := g_bind h
    refine g_calli (g_runV (n := 2) (As := [.int a2, .int a3]) (rest := []) C G (mX0_neighbourOnPage l X σ o1 a2 a3 v3 ok1 e_v3) ok1.1.2 (gE_0 ok1.1.1) rfl (g_goodV u_ml_RX2_57 u_im_yX0_neighbourOnPage u_se_yX0_neighbourOnPage u_in_RX0 u_co_yX0_neighbourOnPage) rfl rfl rfl (by decide +kernel) ⟨Nat.le_of_ble_eq_true rfl, Nat.le_of_ble_eq_true rfl⟩ rfl hl.1 rfl (Nat.le_of_ble_eq_true rfl) dX2_join_12 ⟨Nat.zero_le _, Nat.zero_le _⟩) G (fun H locs G => ?_)
    refine lv_istore (lv' := [(4, .int v3), (0, .ref (xN X + t)), (1, .ref (xN X + o1)), (2, .int a2), (3, .int a3)]) hx hb dX2_join_15 hl (by decide) rfl (fun ls hl => ?_)
    refine lv_aload_n hx hb dX2_join_17 rfl (lv_at hl 1 rfl) ?_
    refine gg2_0 C G ok.1 ok.2.1 u_fl_RX2_14 dX2_join_18 ?_
    refine lv_iload_n hx hb dX2_join_21 rfl (lv_at hl 3 rfl) ?_
    obtain ⟨v4, e_v4, h⟩ := g_bind h
    refine g_calli (g_runV (n := 1) (As := [.int a2]) (rest := []) C G (mX5_get l X σ (t + 1) a2 v4 ok.2.2 e_v4) ok.2.2.1.2 (gE_5 ok.2.2.1.1) rfl (g_goodV u_ml_RX2_61 u_im_yX5_get u_se_yX5_get u_in_RX5 u_co_yX5_get) rfl rfl rfl (by decide +kernel) ⟨Nat.le_of_ble_eq_true rfl, Nat.le_of_ble_eq_true rfl⟩ rfl hl.1 rfl (Nat.le_of_ble_eq_true rfl) dX2_join_22 ⟨Nat.zero_le _, Nat.zero_le _⟩) G (fun H locs G => ?_)
    refine lv_aload_n hx hb dX2_join_25 rfl (lv_at hl 1 rfl) ?_
    refine gg2_0 C G ok.1 ok.2.1 u_fl_RX2_14 dX2_join_26 ?_
    refine lv_iload hx hb dX2_join_29 (lv_at hl 0 rfl) ?_
    obtain ⟨v5, e_v5, h⟩ := g_bind h
    refine g_calli (g_runV (n := 1) (As := [.int v3]) (rest := [.int v4]) C G (mX5_get l X σ (t + 1) v3 v5 ok.2.2 e_v5) ok.2.2.1.2 (gE_5 ok.2.2.1.1) rfl (g_goodV u_ml_RX2_61 u_im_yX5_get u_se_yX5_get u_in_RX5 u_co_yX5_get) rfl rfl rfl (by decide +kernel) ⟨Nat.le_of_ble_eq_true rfl, Nat.le_of_ble_eq_true rfl⟩ rfl hl.1 rfl (Nat.le_of_ble_eq_true rfl) dX2_join_31 ⟨Nat.zero_le _, Nat.zero_le _⟩) G (fun H locs G => ?_)
    refine g_min C hl.1 u_ml_RX2_65 u_st_Lib_Math_min_name u_in_java_lang_Math u_co_Lib_Math_min_name (Nat.le_of_ble_eq_true rfl) (Nat.le_of_ble_eq_true rfl) (Nat.zero_le _) (Nat.zero_le _) dX2_join_34 ?_
    refine lv_topi (fun w6 e_w6 => ?_)
    have h := g_let2 e_w6 h
    refine lv_istore (lv' := [(5, .int w6), (4, .int v3), (0, .ref (xN X + t)), (1, .ref (xN X + o1)), (2, .int a2), (3, .int a3)]) hx hb dX2_join_37 hl (by decide) rfl (fun ls hl => ?_)
    refine lv_aload_n hx hb dX2_join_39 rfl (lv_at hl 2 rfl) ?_
    refine gg2_0 C G ok.1 ok.2.1 u_fl_RX2_14 dX2_join_40 ?_
    refine lv_iload_n hx hb dX2_join_43 rfl (lv_at hl 4 rfl) ?_
    refine lv_iload hx hb dX2_join_44 (lv_at hl 0 rfl) ?_
    obtain ⟨σ8, e_σ8, h⟩ := g_bind h
    refine g_callv (g_runV (n := 2) (As := [.int a2, .int w6]) (rest := []) C G (mX5_set l X σ σ8 (t + 1) a2 w6 ok.2.2 e_σ8) ok.2.2.1.2 (gE_5 ok.2.2.1.1) rfl (g_goodV u_ml_RX2_45 u_im_yX5_set u_se_yX5_set u_in_RX5 u_co_yX5_set) rfl rfl rfl (by decide +kernel) ⟨Nat.le_of_ble_eq_true rfl, Nat.le_of_ble_eq_true rfl⟩ rfl hl.1 rfl (Nat.le_of_ble_eq_true rfl) dX2_join_46 ⟨Nat.zero_le _, Nat.zero_le _⟩) G (fun H locs G => ?_)
    refine lv_aload_n hx hb dX2_join_49 rfl (lv_at hl 2 rfl) ?_
    refine gg2_0 C G ok.1 ok.2.1 u_fl_RX2_14 dX2_join_50 ?_
    refine lv_iload hx hb dX2_join_53 (lv_at hl 1 rfl) ?_
    refine lv_iload hx hb dX2_join_55 (lv_at hl 0 rfl) ?_
    obtain ⟨σ10, e_σ10, h⟩ := g_bind h
    refine g_callv (g_runV (n := 2) (As := [.int v3, .int w6]) (rest := []) C G (mX5_set l X σ8 σ10 (t + 1) v3 w6 ok.2.2 e_σ10) ok.2.2.1.2 (gE_5 ok.2.2.1.1) rfl (g_goodV u_ml_RX2_45 u_im_yX5_set u_se_yX5_set u_in_RX5 u_co_yX5_set) rfl rfl rfl (by decide +kernel) ⟨Nat.le_of_ble_eq_true rfl, Nat.le_of_ble_eq_true rfl⟩ rfl hl.1 rfl (Nat.le_of_ble_eq_true rfl) dX2_join_57 ⟨Nat.zero_le _, Nat.zero_le _⟩) G (fun H locs G => ?_)
    exact ret dX2_join_60 G (Option.some.inj h)

def fX2_gather_63 (K53 : gM → Int32 → Option (gM)) (t : Nat) (o1 : Nat) : Nat → gM → Int32 → Int32 → Option (gM)
  | 0, _, _, _ => none
  | n + 1, σ, x2, x3 =>
    (if (σ t 1) ≤ x3 then
      (gl (x2 + 1) fun w6 =>
      K53 σ w6)
    else
      ((fX2_join σ t o1 x3 1).bind fun σ8 =>
      ((fX2_join σ8 t o1 x3 2).bind fun σ10 =>
      (gl (x3 + 1) fun w11 =>
      fX2_gather_63 K53 t o1 n σ10 x2 w11))))

def fX2_gather_53 (t : Nat) (o1 : Nat) : Nat → gM → Int32 → Option (gM)
  | 0, _, _ => none
  | n + 1, σ, x2 =>
    (if (σ t 1) ≤ x2 then
      some σ
    else
      fX2_gather_63 (fun σ2 y2 => fX2_gather_53 t o1 n σ2 y2) t o1 gF σ x2 0)

def fX2_gather_13 (t : Nat) (o1 : Nat) : Nat → gM → Int32 → Option (gM)
  | 0, _, _ => none
  | n + 1, σ, x2 =>
    (if (σ t 1) ≤ x2 then
      fX2_gather_53 t o1 gF σ 0
    else
      ((fX4_lies σ (o1 + 8) x2).bind fun v12 =>
      (if v12 = 0 then
        ((fX5_set σ (t + 1) x2 (-1)).bind fun σ15 =>
        (gl (x2 + 1) fun w16 =>
        fX2_gather_13 t o1 n σ15 w16))
      else
        ((fX5_set σ (t + 1) x2 x2).bind fun σ18 =>
        (gl (x2 + 1) fun w19 =>
        fX2_gather_13 t o1 n σ18 w19)))))

def fX2_gather (σ : gM) (t : Nat) (o1 : Nat) : Option (gM) :=
  ((fX6_size σ (o1 + 1)).bind fun v1 =>
  (gl (gset σ t (upd (σ t) 1 v1)) fun σ2 =>
  fX2_gather_13 t o1 gF σ2 0))
set_option maxHeartbeats 4000000 in
set_option maxRecDepth 100000 in
theorem mX2_gather (l : Launch) (X : gX) (σ σ' : gM) (t : Nat) (o1 : Nat) (ok : gok2 X t) (ok1 : gok0 X o1) (h : fX2_gather σ t o1 = some σ') : Met l yX2_gather (Cond.code yX2_gather cX2_gather 4 none :: gBig) ({ frames := 5, cells := 0, slots := 0, locals := 123 }) (gPc X σ [.ref (xN X + t), .ref (xN X + o1)]) (gQv X σ') 0 0 (xA X) := by
  refine g_metv (cc := cX2_gather) (maxL := 4) (own := RX2) (by decide) rfl rfl (Nat.le_of_ble_eq_true rfl) ?_
  intro p ev s m args below meth c Q C G ret ls hl
  obtain ⟨⟨hx, hb, hml, hown, hts⟩, hK⟩ := id C
  have hl : lv_has ls 4 [(0, .ref (xN X + t)), (1, .ref (xN X + o1))] := hl
  have L63 : ∀ (K53 : gM → Int32 → Option (gM)), (∀ (H : Heap) (locs : List Loc) (ls : Array Slot) (σ : gM) (x2 : Int32), gG X σ s H locs → lv_has ls 4 [(0, .ref (xN X + t)), (1, .ref (xN X + o1)), (2, .int x2)] → K53 σ x2 = some σ' → W p l ev ({ frames := 5, cells := 0, slots := 0, locals := 123 }) s m args below meth c H locs 0 0 Q (F0 m 53 ls [])) → ∀ (n : Nat) (H : Heap) (locs : List Loc) (ls : Array Slot) (σ : gM) (x2 : Int32) (x3 : Int32), gG X σ s H locs → lv_has ls 4 [(0, .ref (xN X + t)), (1, .ref (xN X + o1)), (2, .int x2), (3, .int x3)] → fX2_gather_63 K53 t o1 n σ x2 x3 = some σ' → W p l ev ({ frames := 5, cells := 0, slots := 0, locals := 123 }) s m args below meth c H locs 0 0 Q (F0 m 63 ls []) := by
    intro K53 hK53 n
    induction n with
    | zero =>
      intro H locs ls σ x2 x3 G hl h
      rw [fX2_gather_63] at h
      cases h
    | succ n ih =>
      intro H locs ls σ x2 x3 G hl h
      rw [fX2_gather_63] at h
      refine lv_iload_n hx hb dX2_gather_63 rfl (lv_at hl 3 rfl) ?_
      refine lv_aload_n hx hb dX2_gather_64 rfl (lv_at hl 0 rfl) ?_
      refine gg2_1 C G ok.1 u_fl_RX2_32 dX2_gather_65 ?_
      refine lv_icmp_ge (tgt := 91) hx hb dX2_gather_68 (by decide) (fun c5 => ?_) (fun c5 => ?_)
      · have h := g_it h c5
        obtain ⟨w6, e_w6⟩ : ∃ y : Int32, y = x2 + 1 := ⟨_, rfl⟩
        have h := g_let2 e_w6 h
        refine lv_iinc (v := w6) (lv' := [(2, .int w6), (0, .ref (xN X + t)), (1, .ref (xN X + o1)), (3, .int x3)]) hx hb dX2_gather_91 hl (k := 2) rfl (by rw [e_w6]; rfl) (by decide) rfl (fun ls hl => ?_)
        refine lv_goto (tgt := 53) hx hb dX2_gather_94 (by decide) ?_
        exact hK53 _ _ _ σ w6 G (lv_sub hl [1, 2, 0] rfl) h
      · have h := g_if h c5
        refine lv_aload_n hx hb dX2_gather_71 rfl (lv_at hl 0 rfl) ?_
        refine lv_aload_n hx hb dX2_gather_72 rfl (lv_at hl 1 rfl) ?_
        refine lv_iload_n hx hb dX2_gather_73 rfl (lv_at hl 3 rfl) ?_
        refine lv_iconst (v := 1) hx hb dX2_gather_74 (by decide) ?_
        obtain ⟨σ8, e_σ8, h⟩ := g_bind h
        refine g_callv (g_runV (n := 3) (As := [.ref (xN X + o1), .int x3, .int 1]) (rest := []) C G (mX2_join l X σ σ8 t o1 x3 1 ok ok1 e_σ8) ok.1.2 (gE_2 ok.1.1) rfl (g_goodV u_ml_RX2_49 u_im_yX2_join u_se_yX2_join u_in_RX2 u_co_yX2_join) rfl rfl rfl (by decide +kernel) ⟨Nat.le_of_ble_eq_true rfl, Nat.le_of_ble_eq_true rfl⟩ rfl hl.1 rfl (Nat.le_of_ble_eq_true rfl) dX2_gather_75 ⟨Nat.zero_le _, Nat.zero_le _⟩) G (fun H locs G => ?_)
        refine lv_aload_n hx hb dX2_gather_78 rfl (lv_at hl 0 rfl) ?_
        refine lv_aload_n hx hb dX2_gather_79 rfl (lv_at hl 1 rfl) ?_
        refine lv_iload_n hx hb dX2_gather_80 rfl (lv_at hl 3 rfl) ?_
        refine lv_iconst (v := 2) hx hb dX2_gather_81 (by decide) ?_
        obtain ⟨σ10, e_σ10, h⟩ := g_bind h
        refine g_callv (g_runV (n := 3) (As := [.ref (xN X + o1), .int x3, .int 2]) (rest := []) C G (mX2_join l X σ8 σ10 t o1 x3 2 ok ok1 e_σ10) ok.1.2 (gE_2 ok.1.1) rfl (g_goodV u_ml_RX2_49 u_im_yX2_join u_se_yX2_join u_in_RX2 u_co_yX2_join) rfl rfl rfl (by decide +kernel) ⟨Nat.le_of_ble_eq_true rfl, Nat.le_of_ble_eq_true rfl⟩ rfl hl.1 rfl (Nat.le_of_ble_eq_true rfl) dX2_gather_82 ⟨Nat.zero_le _, Nat.zero_le _⟩) G (fun H locs G => ?_)
        obtain ⟨w11, e_w11⟩ : ∃ y : Int32, y = x3 + 1 := ⟨_, rfl⟩
        have h := g_let2 e_w11 h
        refine lv_iinc (v := w11) (lv' := [(3, .int w11), (0, .ref (xN X + t)), (1, .ref (xN X + o1)), (2, .int x2)]) hx hb dX2_gather_85 hl (k := 3) rfl (by rw [e_w11]; rfl) (by decide) rfl (fun ls hl => ?_)
        refine lv_goto (tgt := 63) hx hb dX2_gather_88 (by decide) ?_
        exact ih _ _ _ σ10 x2 w11 G (lv_sub hl [1, 2, 3, 0] rfl) h
  have L53 : ∀ (n : Nat) (H : Heap) (locs : List Loc) (ls : Array Slot) (σ : gM) (x2 : Int32), gG X σ s H locs → lv_has ls 4 [(0, .ref (xN X + t)), (1, .ref (xN X + o1)), (2, .int x2)] → fX2_gather_53 t o1 n σ x2 = some σ' → W p l ev ({ frames := 5, cells := 0, slots := 0, locals := 123 }) s m args below meth c H locs 0 0 Q (F0 m 53 ls []) := by
    intro n
    induction n with
    | zero =>
      intro H locs ls σ x2 G hl h
      rw [fX2_gather_53] at h
      cases h
    | succ n ih =>
      intro H locs ls σ x2 G hl h
      rw [fX2_gather_53] at h
      refine lv_iload_n hx hb dX2_gather_53 rfl (lv_at hl 2 rfl) ?_
      refine lv_aload_n hx hb dX2_gather_54 rfl (lv_at hl 0 rfl) ?_
      refine gg2_1 C G ok.1 u_fl_RX2_32 dX2_gather_55 ?_
      refine lv_icmp_ge (tgt := 97) hx hb dX2_gather_58 (by decide) (fun c4 => ?_) (fun c4 => ?_)
      · have h := g_it h c4
        exact ret dX2_gather_97 G (Option.some.inj h)
      · have h := g_if h c4
        refine lv_iconst (v := 0) hx hb dX2_gather_61 (by decide) ?_
        refine lv_istore_n (lv' := [(3, .int 0), (0, .ref (xN X + t)), (1, .ref (xN X + o1)), (2, .int x2)]) hx hb dX2_gather_62 rfl hl (by decide) rfl (fun ls hl => ?_)
        exact L63 (fun σ2 y2 => fX2_gather_53 t o1 n σ2 y2) (fun H locs ls σ2 y2 G hl h => ih H locs ls σ2 y2 G hl h) gF _ _ _ σ x2 0 G (lv_sub hl [1, 2, 3, 0] rfl) h
  have L13 : ∀ (n : Nat) (H : Heap) (locs : List Loc) (ls : Array Slot) (σ : gM) (x2 : Int32), gG X σ s H locs → lv_has ls 4 [(0, .ref (xN X + t)), (1, .ref (xN X + o1)), (2, .int x2)] → fX2_gather_13 t o1 n σ x2 = some σ' → W p l ev ({ frames := 5, cells := 0, slots := 0, locals := 123 }) s m args below meth c H locs 0 0 Q (F0 m 13 ls []) := by
    intro n
    induction n with
    | zero =>
      intro H locs ls σ x2 G hl h
      rw [fX2_gather_13] at h
      cases h
    | succ n ih =>
      intro H locs ls σ x2 G hl h
      rw [fX2_gather_13] at h
      refine lv_iload_n hx hb dX2_gather_13 rfl (lv_at hl 2 rfl) ?_
      refine lv_aload_n hx hb dX2_gather_14 rfl (lv_at hl 0 rfl) ?_
      refine gg2_1 C G ok.1 u_fl_RX2_32 dX2_gather_15 ?_
      refine lv_icmp_ge (tgt := 51) hx hb dX2_gather_18 (by decide) (fun c3 => ?_) (fun c3 => ?_)
      · have h := g_it h c3
        refine lv_iconst (v := 0) hx hb dX2_gather_51 (by decide) ?_
        refine lv_istore_n (lv' := [(2, .int 0), (0, .ref (xN X + t)), (1, .ref (xN X + o1))]) hx hb dX2_gather_52 rfl hl (by decide) rfl (fun ls hl => ?_)
        exact L53  gF _ _ _ σ 0 G (lv_sub hl [1, 2, 0] rfl) h
      · have h := g_if h c3
        refine lv_aload_n hx hb dX2_gather_21 rfl (lv_at hl 0 rfl) ?_
        refine gg2_0 C G ok.1 ok.2.1 u_fl_RX2_14 dX2_gather_22 ?_
        refine lv_iload_n hx hb dX2_gather_25 rfl (lv_at hl 2 rfl) ?_
        refine lv_aload_n hx hb dX2_gather_26 rfl (lv_at hl 1 rfl) ?_
        refine gn0_1 C G ok1.1 ok1.2.1.2 (List.mem_of_getElem? (i := 2) rfl) dX2_gather_27 ?_
        refine lv_iload_n hx hb dX2_gather_30 rfl (lv_at hl 2 rfl) ?_
        obtain ⟨v12, e_v12, h⟩ := g_bind h
        refine g_calli (g_runV (n := 1) (As := [.int x2]) (rest := [.int x2, .ref (xN X + (t + 1))]) C G (mX4_lies l X σ (o1 + 8) x2 v12 ok1.2.2.2 e_v12) ok1.2.2.2.1.2 (gE_4 ok1.2.2.2.1.1) rfl (g_goodV u_ml_RX2_39 u_im_yX4_lies u_se_yX4_lies u_in_RX4 u_co_yX4_lies) rfl rfl rfl (by decide +kernel) ⟨Nat.le_of_ble_eq_true rfl, Nat.le_of_ble_eq_true rfl⟩ rfl hl.1 rfl (Nat.le_of_ble_eq_true rfl) dX2_gather_31 ⟨Nat.zero_le _, Nat.zero_le _⟩) G (fun H locs G => ?_)
        refine lv_if_eq (tgt := 41) hx hb dX2_gather_34 (by decide) (fun c13 => ?_) (fun c13 => ?_)
        · have h := g_it h c13
          refine lv_iconst (v := (-1)) hx hb dX2_gather_41 (by decide) ?_
          obtain ⟨σ15, e_σ15, h⟩ := g_bind h
          refine g_callv (g_runV (n := 2) (As := [.int x2, .int (-1)]) (rest := []) C G (mX5_set l X σ σ15 (t + 1) x2 (-1) ok.2.2 e_σ15) ok.2.2.1.2 (gE_5 ok.2.2.1.1) rfl (g_goodV u_ml_RX2_45 u_im_yX5_set u_se_yX5_set u_in_RX5 u_co_yX5_set) rfl rfl rfl (by decide +kernel) ⟨Nat.le_of_ble_eq_true rfl, Nat.le_of_ble_eq_true rfl⟩ rfl hl.1 rfl (Nat.le_of_ble_eq_true rfl) dX2_gather_42 ⟨Nat.zero_le _, Nat.zero_le _⟩) G (fun H locs G => ?_)
          obtain ⟨w16, e_w16⟩ : ∃ y : Int32, y = x2 + 1 := ⟨_, rfl⟩
          have h := g_let2 e_w16 h
          refine lv_iinc (v := w16) (lv' := [(2, .int w16), (0, .ref (xN X + t)), (1, .ref (xN X + o1))]) hx hb dX2_gather_45 hl (k := 2) rfl (by rw [e_w16]; rfl) (by decide) rfl (fun ls hl => ?_)
          refine lv_goto (tgt := 13) hx hb dX2_gather_48 (by decide) ?_
          exact ih _ _ _ σ15 w16 G (lv_sub hl [1, 2, 0] rfl) h
        · have h := g_if h c13
          refine lv_iload_n hx hb dX2_gather_37 rfl (lv_at hl 2 rfl) ?_
          refine lv_goto (tgt := 42) hx hb dX2_gather_38 (by decide) ?_
          obtain ⟨σ18, e_σ18, h⟩ := g_bind h
          refine g_callv (g_runV (n := 2) (As := [.int x2, .int x2]) (rest := []) C G (mX5_set l X σ σ18 (t + 1) x2 x2 ok.2.2 e_σ18) ok.2.2.1.2 (gE_5 ok.2.2.1.1) rfl (g_goodV u_ml_RX2_45 u_im_yX5_set u_se_yX5_set u_in_RX5 u_co_yX5_set) rfl rfl rfl (by decide +kernel) ⟨Nat.le_of_ble_eq_true rfl, Nat.le_of_ble_eq_true rfl⟩ rfl hl.1 rfl (Nat.le_of_ble_eq_true rfl) dX2_gather_42 ⟨Nat.zero_le _, Nat.zero_le _⟩) G (fun H locs G => ?_)
          obtain ⟨w19, e_w19⟩ : ∃ y : Int32, y = x2 + 1 := ⟨_, rfl⟩
          have h := g_let2 e_w19 h
          refine lv_iinc (v := w19) (lv' := [(2, .int w19), (0, .ref (xN X + t)), (1, .ref (xN X + o1))]) hx hb dX2_gather_45 hl (k := 2) rfl (by rw [e_w19]; rfl) (by decide) rfl (fun ls hl => ?_)
          refine lv_goto (tgt := 13) hx hb dX2_gather_48 (by decide) ?_
          exact ih _ _ _ σ18 w19 G (lv_sub hl [1, 2, 0] rfl) h
  unfold fX2_gather at h
  refine lv_aload_n hx hb dX2_gather_0 rfl (lv_at hl 0 rfl) ?_
  refine lv_aload_n hx hb dX2_gather_1 rfl (lv_at hl 1 rfl) ?_
  refine gn0_0 C G ok1.1 ok1.2.1.1 (List.mem_of_getElem? (i := 0) rfl) dX2_gather_2 ?_
  obtain ⟨v1, e_v1, h⟩ := g_bind h
  refine g_calli (g_runV (n := 0) (As := []) (rest := [.ref (xN X + t)]) C G (mX6_size l X σ (o1 + 1) v1 ok1.2.2.1 e_v1) ok1.2.2.1.1.2 (gE_6 ok1.2.2.1.1.1) rfl (g_goodV u_ml_RX2_26 u_im_yX6_size u_se_yX6_size u_in_RX6 u_co_yX6_size) rfl rfl rfl (by decide +kernel) ⟨Nat.le_of_ble_eq_true rfl, Nat.le_of_ble_eq_true rfl⟩ rfl hl.1 rfl (Nat.le_of_ble_eq_true rfl) dX2_gather_5 ⟨Nat.zero_le _, Nat.zero_le _⟩) G (fun H locs G => ?_)
  obtain ⟨σ2, e_σ2, h⟩ := g_let h
  refine gp2_1 C G ok.1 u_fl_RX2_32 dX2_gather_8 (fun H locs G => ?_)
  rw [e_σ2] at G
  refine lv_iconst (v := 0) hx hb dX2_gather_11 (by decide) ?_
  refine lv_istore_n (lv' := [(2, .int 0), (0, .ref (xN X + t)), (1, .ref (xN X + o1))]) hx hb dX2_gather_12 rfl hl (by decide) rfl (fun ls hl => ?_)
  exact L13  gF _ _ _ σ2 0 G (lv_sub hl [1, 2, 0] rfl) h
