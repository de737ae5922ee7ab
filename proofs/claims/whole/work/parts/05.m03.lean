def fX0_verdict (σ : gM) (t : Nat) (a1 : Int32) (a2 : Int32) (a3 : Int32) (a4 : Int32) : Option (Int32) :=
  ((fX6_profile σ (t + 1) a1 a3 a4).bind fun v1 =>
  ((fX4_behind σ (t + 8) a2 a4).bind fun v2 =>
  (if v2 = (-1) then
    (if v1 = (-1) then
      some 0
    else
      some 4)
  else
    ((fX4_scrapAt σ (t + 8) v2).bind fun v5 =>
    (if v5 = (-1) then
      some (-1)
    else
      (if v5 = a1 then
        some (-1)
      else
        ((fX4_orientationOf σ (t + 8) v5).bind fun v8 =>
        (gl ((a4 + 2) &&& 3) fun w9 =>
        ((fX6_profile σ (t + 1) v5 v8 w9).bind fun v10 =>
        (if v1 = (-1) then
          some 1
        else
          (if v10 = (-1) then
            some 1
          else
            (if (v1 + v10) = 999 then
              ((fX6_line σ (t + 1) a1 a3 a4).bind fun v14 =>
              ((fX6_line σ (t + 1) v5 v8 w9).bind fun v15 =>
              (if v14 = v15 then
                some 0
              else
                some 3)))
            else
              some 2))))))))))))
set_option maxHeartbeats 4000000 in
set_option maxRecDepth 100000 in
theorem mX0_verdict (l : Launch) (X : gX) (σ : gM) (t : Nat) (a1 : Int32) (a2 : Int32) (a3 : Int32) (a4 : Int32) (r : Int32) (ok : gok0 X t) (h : fX0_verdict σ t a1 a2 a3 a4 = some r) : Met l yX0_verdict (Cond.code yX0_verdict cX0_verdict 12 (some .int) :: gBig) ({ frames := 2, cells := 0, slots := 0, locals := 44 }) (gPc X σ [.ref (xN X + t), .int a1, .int a2, .int a3, .int a4]) (gQi X σ r) 0 0 (xA X) := by
  refine g_meti (cc := cX0_verdict) (maxL := 12) (own := RX0) (by decide) rfl rfl (Nat.le_of_ble_eq_true rfl) ?_
  intro p ev s m args below meth c Q C G ret ls hl
  obtain ⟨⟨hx, hb, hml, hown, hts⟩, hK⟩ := id C
  have hl : lv_has ls 12 [(0, .ref (xN X + t)), (1, .int a1), (2, .int a2), (3, .int a3), (4, .int a4)] := hl
  unfold fX0_verdict at h
  refine lv_aload_n hx hb dX0_verdict_0 rfl (lv_at hl 0 rfl) ?_
  refine gg0_0 C G ok.1 ok.2.1.1 u_fl_RX0_12 dX0_verdict_1 ?_
  refine lv_iload_n hx hb dX0_verdict_4 rfl (lv_at hl 1 rfl) ?_
  refine lv_iload_n hx hb dX0_verdict_5 rfl (lv_at hl 3 rfl) ?_
  refine lv_iload hx hb dX0_verdict_6 (lv_at hl 4 rfl) ?_
  obtain ⟨v1, e_v1, h⟩ := g_bind h
  refine g_calli (g_runV (n := 3) (As := [.int a1, .int a3, .int a4]) (rest := []) C G (mX6_profile l X σ (t + 1) a1 a3 a4 v1 ok.2.2.1 e_v1) ok.2.2.1.1.2 (gE_6 ok.2.2.1.1.1) rfl (g_goodV u_ml_RX0_53 u_im_yX6_profile u_se_yX6_profile u_in_RX6 u_co_yX6_profile) rfl rfl rfl (by decide +kernel) ⟨Nat.le_of_ble_eq_true rfl, Nat.le_of_ble_eq_true rfl⟩ rfl hl.1 rfl (Nat.le_of_ble_eq_true rfl) dX0_verdict_8 ⟨Nat.zero_le _, Nat.zero_le _⟩) G (fun H locs G => ?_)
  refine lv_istore (lv' := [(5, .int v1), (0, .ref (xN X + t)), (1, .int a1), (2, .int a2), (3, .int a3), (4, .int a4)]) hx hb dX0_verdict_11 hl (by decide) rfl (fun ls hl => ?_)
  refine lv_aload_n hx hb dX0_verdict_13 rfl (lv_at hl 1 rfl) ?_
  refine gg0_1 C G ok.1 ok.2.1.2 u_fl_RX0_21 dX0_verdict_14 ?_
  refine lv_iload_n hx hb dX0_verdict_17 rfl (lv_at hl 3 rfl) ?_
  refine lv_iload hx hb dX0_verdict_18 (lv_at hl 5 rfl) ?_
  obtain ⟨v2, e_v2, h⟩ := g_bind h
  refine g_calli (g_runV (n := 2) (As := [.int a2, .int a4]) (rest := []) C G (mX4_behind l X σ (t + 8) a2 a4 v2 ok.2.2.2 e_v2) ok.2.2.2.1.2 (gE_4 ok.2.2.2.1.1) rfl (g_goodV u_ml_RX0_45 u_im_yX4_behind u_se_yX4_behind u_in_RX4 u_co_yX4_behind) rfl rfl rfl (by decide +kernel) ⟨Nat.le_of_ble_eq_true rfl, Nat.le_of_ble_eq_true rfl⟩ rfl hl.1 rfl (Nat.le_of_ble_eq_true rfl) dX0_verdict_20 ⟨Nat.zero_le _, Nat.zero_le _⟩) G (fun H locs G => ?_)
  refine lv_istore (lv' := [(6, .int v2), (5, .int v1), (0, .ref (xN X + t)), (1, .int a1), (2, .int a2), (3, .int a3), (4, .int a4)]) hx hb dX0_verdict_23 hl (by decide) rfl (fun ls hl => ?_)
  refine lv_iload hx hb dX0_verdict_25 (lv_at hl 0 rfl) ?_
  refine lv_iconst (v := (-1)) hx hb dX0_verdict_27 (by decide) ?_
  refine lv_icmp_ne (tgt := 43) hx hb dX0_verdict_28 (by decide) (fun c3 => ?_) (fun c3 => ?_)
  · have h := g_if h c3
    refine lv_aload_n hx hb dX0_verdict_43 rfl (lv_at hl 2 rfl) ?_
    refine gg0_1 C G ok.1 ok.2.1.2 u_fl_RX0_21 dX0_verdict_44 ?_
    refine lv_iload hx hb dX0_verdict_47 (lv_at hl 0 rfl) ?_
    obtain ⟨v5, e_v5, h⟩ := g_bind h
    refine g_calli (g_runV (n := 1) (As := [.int v2]) (rest := []) C G (mX4_scrapAt l X σ (t + 8) v2 v5 ok.2.2.2 e_v5) ok.2.2.2.1.2 (gE_4 ok.2.2.2.1.1) rfl (g_goodV u_ml_RX0_49 u_im_yX4_scrapAt u_se_yX4_scrapAt u_in_RX4 u_co_yX4_scrapAt) rfl rfl rfl (by decide +kernel) ⟨Nat.le_of_ble_eq_true rfl, Nat.le_of_ble_eq_true rfl⟩ rfl hl.1 rfl (Nat.le_of_ble_eq_true rfl) dX0_verdict_49 ⟨Nat.zero_le _, Nat.zero_le _⟩) G (fun H locs G => ?_)
    refine lv_istore (lv' := [(7, .int v5), (6, .int v2), (5, .int v1), (0, .ref (xN X + t)), (1, .int a1), (2, .int a2), (3, .int a3), (4, .int a4)]) hx hb dX0_verdict_52 hl (by decide) rfl (fun ls hl => ?_)
    refine lv_iload hx hb dX0_verdict_54 (lv_at hl 0 rfl) ?_
    refine lv_iconst (v := (-1)) hx hb dX0_verdict_56 (by decide) ?_
    refine lv_icmp_eq (tgt := 66) hx hb dX0_verdict_57 (by decide) (fun c6 => ?_) (fun c6 => ?_)
    · have h := g_it h c6
      refine lv_iconst (v := (-1)) hx hb dX0_verdict_66 (by decide) ?_
      exact ret dX0_verdict_67 rfl G ⟨Option.some.inj h, rfl⟩
    · have h := g_if h c6
      refine lv_iload hx hb dX0_verdict_60 (lv_at hl 0 rfl) ?_
      refine lv_iload_n hx hb dX0_verdict_62 rfl (lv_at hl 4 rfl) ?_
      refine lv_icmp_ne (tgt := 68) hx hb dX0_verdict_63 (by decide) (fun c7 => ?_) (fun c7 => ?_)
      · have h := g_if h c7
        refine lv_aload_n hx hb dX0_verdict_68 rfl (lv_at hl 3 rfl) ?_
        refine gg0_1 C G ok.1 ok.2.1.2 u_fl_RX0_21 dX0_verdict_69 ?_
        refine lv_iload hx hb dX0_verdict_72 (lv_at hl 0 rfl) ?_
        obtain ⟨v8, e_v8, h⟩ := g_bind h
        refine g_calli (g_runV (n := 1) (As := [.int v5]) (rest := []) C G (mX4_orientationOf l X σ (t + 8) v5 v8 ok.2.2.2 e_v8) ok.2.2.2.1.2 (gE_4 ok.2.2.2.1.1) rfl (g_goodV u_ml_RX0_57 u_im_yX4_orientationOf u_se_yX4_orientationOf u_in_RX4 u_co_yX4_orientationOf) rfl rfl rfl (by decide +kernel) ⟨Nat.le_of_ble_eq_true rfl, Nat.le_of_ble_eq_true rfl⟩ rfl hl.1 rfl (Nat.le_of_ble_eq_true rfl) dX0_verdict_74 ⟨Nat.zero_le _, Nat.zero_le _⟩) G (fun H locs G => ?_)
        refine lv_istore (lv' := [(8, .int v8), (7, .int v5), (6, .int v2), (5, .int v1), (0, .ref (xN X + t)), (1, .int a1), (2, .int a2), (3, .int a3), (4, .int a4)]) hx hb dX0_verdict_77 hl (by decide) rfl (fun ls hl => ?_)
        refine lv_iload hx hb dX0_verdict_79 (lv_at hl 8 rfl) ?_
        refine lv_iconst (v := 2) hx hb dX0_verdict_81 (by decide) ?_
        refine lv_iadd hx hb dX0_verdict_82 ?_
        refine lv_iconst (v := 3) hx hb dX0_verdict_83 (by decide) ?_
        refine lv_iand hx hb dX0_verdict_84 ?_
        refine lv_topi (fun w9 e_w9 => ?_)
        have h := g_let2 e_w9 h
        refine lv_istore (lv' := [(9, .int w9), (8, .int v8), (7, .int v5), (6, .int v2), (5, .int v1), (0, .ref (xN X + t)), (1, .int a1), (2, .int a2), (3, .int a3), (4, .int a4)]) hx hb dX0_verdict_85 hl (by decide) rfl (fun ls hl => ?_)
        refine lv_aload_n hx hb dX0_verdict_87 rfl (lv_at hl 5 rfl) ?_
        refine gg0_0 C G ok.1 ok.2.1.1 u_fl_RX0_12 dX0_verdict_88 ?_
        refine lv_iload hx hb dX0_verdict_91 (lv_at hl 2 rfl) ?_
        refine lv_iload hx hb dX0_verdict_93 (lv_at hl 1 rfl) ?_
        refine lv_iload hx hb dX0_verdict_95 (lv_at hl 0 rfl) ?_
        obtain ⟨v10, e_v10, h⟩ := g_bind h
        refine g_calli (g_runV (n := 3) (As := [.int v5, .int v8, .int w9]) (rest := []) C G (mX6_profile l X σ (t + 1) v5 v8 w9 v10 ok.2.2.1 e_v10) ok.2.2.1.1.2 (gE_6 ok.2.2.1.1.1) rfl (g_goodV u_ml_RX0_53 u_im_yX6_profile u_se_yX6_profile u_in_RX6 u_co_yX6_profile) rfl rfl rfl (by decide +kernel) ⟨Nat.le_of_ble_eq_true rfl, Nat.le_of_ble_eq_true rfl⟩ rfl hl.1 rfl (Nat.le_of_ble_eq_true rfl) dX0_verdict_97 ⟨Nat.zero_le _, Nat.zero_le _⟩) G (fun H locs G => ?_)
        refine lv_istore (lv' := [(10, .int v10), (9, .int w9), (8, .int v8), (7, .int v5), (6, .int v2), (5, .int v1), (0, .ref (xN X + t)), (1, .int a1), (2, .int a2), (3, .int a3), (4, .int a4)]) hx hb dX0_verdict_100 hl (by decide) rfl (fun ls hl => ?_)
        refine lv_iload hx hb dX0_verdict_102 (lv_at hl 5 rfl) ?_
        refine lv_iconst (v := (-1)) hx hb dX0_verdict_104 (by decide) ?_
        refine lv_icmp_eq (tgt := 114) hx hb dX0_verdict_105 (by decide) (fun c11 => ?_) (fun c11 => ?_)
        · have h := g_it h c11
          refine lv_iconst (v := 1) hx hb dX0_verdict_114 (by decide) ?_
          exact ret dX0_verdict_115 rfl G ⟨Option.some.inj h, rfl⟩
        · have h := g_if h c11
          refine lv_iload hx hb dX0_verdict_108 (lv_at hl 0 rfl) ?_
          refine lv_iconst (v := (-1)) hx hb dX0_verdict_110 (by decide) ?_
          refine lv_icmp_ne (tgt := 116) hx hb dX0_verdict_111 (by decide) (fun c12 => ?_) (fun c12 => ?_)
          · have h := g_if h c12
            refine lv_iload hx hb dX0_verdict_116 (lv_at hl 5 rfl) ?_
            refine lv_iload hx hb dX0_verdict_118 (lv_at hl 0 rfl) ?_
            refine lv_iadd hx hb dX0_verdict_120 ?_
            refine lv_sipush (v := 999) hx hb dX0_verdict_121 (by decide) ?_
            refine lv_icmp_eq (tgt := 129) hx hb dX0_verdict_124 (by decide) (fun c13 => ?_) (fun c13 => ?_)
            · have h := g_it h c13
              refine lv_aload_n hx hb dX0_verdict_129 rfl (lv_at hl 6 rfl) ?_
              refine gg0_0 C G ok.1 ok.2.1.1 u_fl_RX0_12 dX0_verdict_130 ?_
              refine lv_iload_n hx hb dX0_verdict_133 rfl (lv_at hl 7 rfl) ?_
              refine lv_iload_n hx hb dX0_verdict_134 rfl (lv_at hl 9 rfl) ?_
              refine lv_iload hx hb dX0_verdict_135 (lv_at hl 10 rfl) ?_
              obtain ⟨v14, e_v14, h⟩ := g_bind h
              refine g_calli (g_runV (n := 3) (As := [.int a1, .int a3, .int a4]) (rest := []) C G (mX6_line l X σ (t + 1) a1 a3 a4 v14 ok.2.2.1 e_v14) ok.2.2.1.1.2 (gE_6 ok.2.2.1.1.1) rfl (g_goodV u_ml_RX0_60 u_im_yX6_line u_se_yX6_line u_in_RX6 u_co_yX6_line) rfl rfl rfl (by decide +kernel) ⟨Nat.le_of_ble_eq_true rfl, Nat.le_of_ble_eq_true rfl⟩ rfl hl.1 rfl (Nat.le_of_ble_eq_true rfl) dX0_verdict_137 ⟨Nat.zero_le _, Nat.zero_le _⟩) G (fun H locs G => ?_)
              refine lv_istore (lv' := [(11, .int v14), (10, .int v10), (9, .int w9), (8, .int v8), (7, .int v5), (6, .int v2), (5, .int v1), (0, .ref (xN X + t)), (1, .int a1), (2, .int a2), (3, .int a3), (4, .int a4)]) hx hb dX0_verdict_140 hl (by decide) rfl (fun ls hl => ?_)
              refine lv_iload hx hb dX0_verdict_142 (lv_at hl 0 rfl) ?_
              refine lv_aload_n hx hb dX0_verdict_144 rfl (lv_at hl 7 rfl) ?_
              refine gg0_0 C G ok.1 ok.2.1.1 u_fl_RX0_12 dX0_verdict_145 ?_
              refine lv_iload hx hb dX0_verdict_148 (lv_at hl 4 rfl) ?_
              refine lv_iload hx hb dX0_verdict_150 (lv_at hl 3 rfl) ?_
              refine lv_iload hx hb dX0_verdict_152 (lv_at hl 2 rfl) ?_
              obtain ⟨v15, e_v15, h⟩ := g_bind h
              refine g_calli (g_runV (n := 3) (As := [.int v5, .int v8, .int w9]) (rest := [.int v14]) C G (mX6_line l X σ (t + 1) v5 v8 w9 v15 ok.2.2.1 e_v15) ok.2.2.1.1.2 (gE_6 ok.2.2.1.1.1) rfl (g_goodV u_ml_RX0_60 u_im_yX6_line u_se_yX6_line u_in_RX6 u_co_yX6_line) rfl rfl rfl (by decide +kernel) ⟨Nat.le_of_ble_eq_true rfl, Nat.le_of_ble_eq_true rfl⟩ rfl hl.1 rfl (Nat.le_of_ble_eq_true rfl) dX0_verdict_154 ⟨Nat.zero_le _, Nat.zero_le _⟩) G (fun H locs G => ?_)
              refine lv_icmp_ne (tgt := 164) hx hb dX0_verdict_157 (by decide) (fun c16 => ?_) (fun c16 => ?_)
              · have h := g_if h c16
                refine lv_iconst (v := 3) hx hb dX0_verdict_164 (by decide) ?_
                exact ret dX0_verdict_165 rfl G ⟨Option.some.inj h, rfl⟩
              · have h := g_it h c16
                refine lv_iconst (v := 0) hx hb dX0_verdict_160 (by decide) ?_
                refine lv_goto (tgt := 165) hx hb dX0_verdict_161 (by decide) ?_
                exact ret dX0_verdict_165 rfl G ⟨Option.some.inj h, rfl⟩
            · have h := g_if h c13
              refine lv_iconst (v := 2) hx hb dX0_verdict_127 (by decide) ?_
              exact ret dX0_verdict_128 rfl G ⟨Option.some.inj h, rfl⟩
          · have h := g_it h c12
            refine lv_iconst (v := 1) hx hb dX0_verdict_114 (by decide) ?_
            exact ret dX0_verdict_115 rfl G ⟨Option.some.inj h, rfl⟩
      · have h := g_it h c7
        refine lv_iconst (v := (-1)) hx hb dX0_verdict_66 (by decide) ?_
        exact ret dX0_verdict_67 rfl G ⟨Option.some.inj h, rfl⟩
  · have h := g_it h c3
    refine lv_iload hx hb dX0_verdict_31 (lv_at hl 1 rfl) ?_
    refine lv_iconst (v := (-1)) hx hb dX0_verdict_33 (by decide) ?_
    refine lv_icmp_ne (tgt := 41) hx hb dX0_verdict_34 (by decide) (fun c4 => ?_) (fun c4 => ?_)
    · have h := g_if h c4
      refine lv_iconst (v := 4) hx hb dX0_verdict_41 (by decide) ?_
      exact ret dX0_verdict_42 rfl G ⟨Option.some.inj h, rfl⟩
    · have h := g_it h c4
      refine lv_iconst (v := 0) hx hb dX0_verdict_37 (by decide) ?_
      refine lv_goto (tgt := 42) hx hb dX0_verdict_38 (by decide) ?_
      exact ret dX0_verdict_42 rfl G ⟨Option.some.inj h, rfl⟩

def fX0_isJoined (σ : gM) (t : Nat) (a1 : Int32) (a2 : Int32) : Option (Int32) :=
  ((fX4_placeOf σ (t + 8) a1).bind fun v1 =>
  (if v1 = (-1) then
    some 0
  else
    ((fX4_behind σ (t + 8) v1 a2).bind fun v3 =>
    (if v3 = (-1) then
      some 0
    else
      ((fX4_orientationOf σ (t + 8) a1).bind fun v5 =>
      ((fX0_verdict σ t a1 v1 v5 a2).bind fun v6 =>
      (if v6 = 0 then
        some 1
      else
        some 0)))))))
set_option maxHeartbeats 4000000 in
set_option maxRecDepth 100000 in
theorem mX0_isJoined (l : Launch) (X : gX) (σ : gM) (t : Nat) (a1 : Int32) (a2 : Int32) (r : Int32) (ok : gok0 X t) (h : fX0_isJoined σ t a1 a2 = some r) : Met l yX0_isJoined (Cond.code yX0_isJoined cX0_isJoined 4 (some .boolean) :: gBig) ({ frames := 3, cells := 0, slots := 0, locals := 75 }) (gPc X σ [.ref (xN X + t), .int a1, .int a2]) (gQi X σ r) 0 0 (xA X) := by
  refine g_meti (cc := cX0_isJoined) (maxL := 4) (own := RX0) (by decide) rfl rfl (Nat.le_of_ble_eq_true rfl) ?_
  intro p ev s m args below meth c Q C G ret ls hl
  obtain ⟨⟨hx, hb, hml, hown, hts⟩, hK⟩ := id C
  have hl : lv_has ls 4 [(0, .ref (xN X + t)), (1, .int a1), (2, .int a2)] := hl
  unfold fX0_isJoined at h
  refine lv_aload_n hx hb dX0_isJoined_0 rfl (lv_at hl 0 rfl) ?_
  refine gg0_1 C G ok.1 ok.2.1.2 u_fl_RX0_21 dX0_isJoined_1 ?_
  refine lv_iload_n hx hb dX0_isJoined_4 rfl (lv_at hl 1 rfl) ?_
  obtain ⟨v1, e_v1, h⟩ := g_bind h
  refine g_calli (g_runV (n := 1) (As := [.int a1]) (rest := []) C G (mX4_placeOf l X σ (t + 8) a1 v1 ok.2.2.2 e_v1) ok.2.2.2.1.2 (gE_4 ok.2.2.2.1.1) rfl (g_goodV u_ml_RX0_77 u_im_yX4_placeOf u_se_yX4_placeOf u_in_RX4 u_co_yX4_placeOf) rfl rfl rfl (by decide +kernel) ⟨Nat.le_of_ble_eq_true rfl, Nat.le_of_ble_eq_true rfl⟩ rfl hl.1 rfl (Nat.le_of_ble_eq_true rfl) dX0_isJoined_5 ⟨Nat.zero_le _, Nat.zero_le _⟩) G (fun H locs G => ?_)
  refine lv_istore_n (lv' := [(3, .int v1), (0, .ref (xN X + t)), (1, .int a1), (2, .int a2)]) hx hb dX0_isJoined_8 rfl hl (by decide) rfl (fun ls hl => ?_)
  refine lv_iload_n hx hb dX0_isJoined_9 rfl (lv_at hl 0 rfl) ?_
  refine lv_iconst (v := (-1)) hx hb dX0_isJoined_10 (by decide) ?_
  refine lv_icmp_eq (tgt := 49) hx hb dX0_isJoined_11 (by decide) (fun c2 => ?_) (fun c2 => ?_)
  · have h := g_it h c2
    refine lv_iconst (v := 0) hx hb dX0_isJoined_49 (by decide) ?_
    exact ret dX0_isJoined_50 rfl G ⟨Option.some.inj h, rfl⟩
  · have h := g_if h c2
    refine lv_aload_n hx hb dX0_isJoined_14 rfl (lv_at hl 1 rfl) ?_
    refine gg0_1 C G ok.1 ok.2.1.2 u_fl_RX0_21 dX0_isJoined_15 ?_
    refine lv_iload_n hx hb dX0_isJoined_18 rfl (lv_at hl 0 rfl) ?_
    refine lv_iload_n hx hb dX0_isJoined_19 rfl (lv_at hl 3 rfl) ?_
    obtain ⟨v3, e_v3, h⟩ := g_bind h
    refine g_calli (g_runV (n := 2) (As := [.int v1, .int a2]) (rest := []) C G (mX4_behind l X σ (t + 8) v1 a2 v3 ok.2.2.2 e_v3) ok.2.2.2.1.2 (gE_4 ok.2.2.2.1.1) rfl (g_goodV u_ml_RX0_45 u_im_yX4_behind u_se_yX4_behind u_in_RX4 u_co_yX4_behind) rfl rfl rfl (by decide +kernel) ⟨Nat.le_of_ble_eq_true rfl, Nat.le_of_ble_eq_true rfl⟩ rfl hl.1 rfl (Nat.le_of_ble_eq_true rfl) dX0_isJoined_20 ⟨Nat.zero_le _, Nat.zero_le _⟩) G (fun H locs G => ?_)
    refine lv_iconst (v := (-1)) hx hb dX0_isJoined_23 (by decide) ?_
    refine lv_icmp_eq (tgt := 49) hx hb dX0_isJoined_24 (by decide) (fun c4 => ?_) (fun c4 => ?_)
    · have h := g_it h c4
      refine lv_iconst (v := 0) hx hb dX0_isJoined_49 (by decide) ?_
      exact ret dX0_isJoined_50 rfl G ⟨Option.some.inj h, rfl⟩
    · have h := g_if h c4
      refine lv_aload_n hx hb dX0_isJoined_27 rfl (lv_at hl 1 rfl) ?_
      refine lv_iload_n hx hb dX0_isJoined_28 rfl (lv_at hl 2 rfl) ?_
      refine lv_iload_n hx hb dX0_isJoined_29 rfl (lv_at hl 0 rfl) ?_
      refine lv_aload_n hx hb dX0_isJoined_30 rfl (lv_at hl 1 rfl) ?_
      refine gg0_1 C G ok.1 ok.2.1.2 u_fl_RX0_21 dX0_isJoined_31 ?_
      refine lv_iload_n hx hb dX0_isJoined_34 rfl (lv_at hl 2 rfl) ?_
      obtain ⟨v5, e_v5, h⟩ := g_bind h
      refine g_calli (g_runV (n := 1) (As := [.int a1]) (rest := [.int v1, .int a1, .ref (xN X + t)]) C G (mX4_orientationOf l X σ (t + 8) a1 v5 ok.2.2.2 e_v5) ok.2.2.2.1.2 (gE_4 ok.2.2.2.1.1) rfl (g_goodV u_ml_RX0_57 u_im_yX4_orientationOf u_se_yX4_orientationOf u_in_RX4 u_co_yX4_orientationOf) rfl rfl rfl (by decide +kernel) ⟨Nat.le_of_ble_eq_true rfl, Nat.le_of_ble_eq_true rfl⟩ rfl hl.1 rfl (Nat.le_of_ble_eq_true rfl) dX0_isJoined_35 ⟨Nat.zero_le _, Nat.zero_le _⟩) G (fun H locs G => ?_)
      refine lv_iload_n hx hb dX0_isJoined_38 rfl (lv_at hl 3 rfl) ?_
      obtain ⟨v6, e_v6, h⟩ := g_bind h
      refine g_calli (g_runV (n := 4) (As := [.int a1, .int v1, .int v5, .int a2]) (rest := []) C G (mX0_verdict l X σ t a1 v1 v5 a2 v6 ok e_v6) ok.1.2 (gE_0 ok.1.1) rfl (g_goodV u_ml_RX0_63 u_im_yX0_verdict u_se_yX0_verdict u_in_RX0 u_co_yX0_verdict) rfl rfl rfl (by decide +kernel) ⟨Nat.le_of_ble_eq_true rfl, Nat.le_of_ble_eq_true rfl⟩ rfl hl.1 rfl (Nat.le_of_ble_eq_true rfl) dX0_isJoined_39 ⟨Nat.zero_le _, Nat.zero_le _⟩) G (fun H locs G => ?_)
      refine lv_if_ne (tgt := 49) hx hb dX0_isJoined_42 (by decide) (fun c7 => ?_) (fun c7 => ?_)
      · have h := g_if h c7
        refine lv_iconst (v := 0) hx hb dX0_isJoined_49 (by decide) ?_
        exact ret dX0_isJoined_50 rfl G ⟨Option.some.inj h, rfl⟩
      · have h := g_it h c7
        refine lv_iconst (v := 1) hx hb dX0_isJoined_45 (by decide) ?_
        refine lv_goto (tgt := 50) hx hb dX0_isJoined_46 (by decide) ?_
        exact ret dX0_isJoined_50 rfl G ⟨Option.some.inj h, rfl⟩

def fX0_neighbour (σ : gM) (t : Nat) (a1 : Int32) (a2 : Int32) (a3 : Int32) : Option (Int32) :=
  ((fX4_behind σ (t + 8) a2 a3).bind fun v1 =>
  ((fX4_scrapAt σ (t + 8) v1).bind fun v2 =>
  (if v2 = a1 then
    some (-1)
  else
    some v2)))
set_option maxHeartbeats 4000000 in
set_option maxRecDepth 100000 in
theorem mX0_neighbour (l : Launch) (X : gX) (σ : gM) (t : Nat) (a1 : Int32) (a2 : Int32) (a3 : Int32) (r : Int32) (ok : gok0 X t) (h : fX0_neighbour σ t a1 a2 a3 = some r) : Met l yX0_neighbour (Cond.code yX0_neighbour cX0_neighbour 5 (some .int) :: gBig) ({ frames := 2, cells := 0, slots := 0, locals := 43 }) (gPc X σ [.ref (xN X + t), .int a1, .int a2, .int a3]) (gQi X σ r) 0 0 (xA X) := by
  refine g_meti (cc := cX0_neighbour) (maxL := 5) (own := RX0) (by decide) rfl rfl (Nat.le_of_ble_eq_true rfl) ?_
  intro p ev s m args below meth c Q C G ret ls hl
  obtain ⟨⟨hx, hb, hml, hown, hts⟩, hK⟩ := id C
  have hl : lv_has ls 5 [(0, .ref (xN X + t)), (1, .int a1), (2, .int a2), (3, .int a3)] := hl
  unfold fX0_neighbour at h
  refine lv_aload_n hx hb dX0_neighbour_0 rfl (lv_at hl 0 rfl) ?_
  refine gg0_1 C G ok.1 ok.2.1.2 u_fl_RX0_21 dX0_neighbour_1 ?_
  refine lv_aload_n hx hb dX0_neighbour_4 rfl (lv_at hl 0 rfl) ?_
  refine gg0_1 C G ok.1 ok.2.1.2 u_fl_RX0_21 dX0_neighbour_5 ?_
  refine lv_iload_n hx hb dX0_neighbour_8 rfl (lv_at hl 2 rfl) ?_
  refine lv_iload_n hx hb dX0_neighbour_9 rfl (lv_at hl 3 rfl) ?_
  obtain ⟨v1, e_v1, h⟩ := g_bind h
  refine g_calli (g_runV (n := 2) (As := [.int a2, .int a3]) (rest := [.ref (xN X + (t + 8))]) C G (mX4_behind l X σ (t + 8) a2 a3 v1 ok.2.2.2 e_v1) ok.2.2.2.1.2 (gE_4 ok.2.2.2.1.1) rfl (g_goodV u_ml_RX0_45 u_im_yX4_behind u_se_yX4_behind u_in_RX4 u_co_yX4_behind) rfl rfl rfl (by decide +kernel) ⟨Nat.le_of_ble_eq_true rfl, Nat.le_of_ble_eq_true rfl⟩ rfl hl.1 rfl (Nat.le_of_ble_eq_true rfl) dX0_neighbour_10 ⟨Nat.zero_le _, Nat.zero_le _⟩) G (fun H locs G => ?_)
  obtain ⟨v2, e_v2, h⟩ := g_bind h
  refine g_calli (g_runV (n := 1) (As := [.int v1]) (rest := []) C G (mX4_scrapAt l X σ (t + 8) v1 v2 ok.2.2.2 e_v2) ok.2.2.2.1.2 (gE_4 ok.2.2.2.1.1) rfl (g_goodV u_ml_RX0_49 u_im_yX4_scrapAt u_se_yX4_scrapAt u_in_RX4 u_co_yX4_scrapAt) rfl rfl rfl (by decide +kernel) ⟨Nat.le_of_ble_eq_true rfl, Nat.le_of_ble_eq_true rfl⟩ rfl hl.1 rfl (Nat.le_of_ble_eq_true rfl) dX0_neighbour_13 ⟨Nat.zero_le _, Nat.zero_le _⟩) G (fun H locs G => ?_)
  refine lv_istore (lv' := [(4, .int v2), (0, .ref (xN X + t)), (1, .int a1), (2, .int a2), (3, .int a3)]) hx hb dX0_neighbour_16 hl (by decide) rfl (fun ls hl => ?_)
  refine lv_iload hx hb dX0_neighbour_18 (lv_at hl 0 rfl) ?_
  refine lv_iload_n hx hb dX0_neighbour_20 rfl (lv_at hl 2 rfl) ?_
  refine lv_icmp_ne (tgt := 28) hx hb dX0_neighbour_21 (by decide) (fun c3 => ?_) (fun c3 => ?_)
  · have h := g_if h c3
    refine lv_iload hx hb dX0_neighbour_28 (lv_at hl 0 rfl) ?_
    exact ret dX0_neighbour_30 rfl G ⟨Option.some.inj h, rfl⟩
  · have h := g_it h c3
    refine lv_iconst (v := (-1)) hx hb dX0_neighbour_24 (by decide) ?_
    refine lv_goto (tgt := 30) hx hb dX0_neighbour_25 (by decide) ?_
    exact ret dX0_neighbour_30 rfl G ⟨Option.some.inj h, rfl⟩

def fX0_neighbourOnPage (σ : gM) (t : Nat) (a1 : Int32) (a2 : Int32) : Option (Int32) :=
  ((fX4_placeOf σ (t + 8) a1).bind fun v1 =>
  (if v1 = (-1) then
    some (-1)
  else
    ((fX0_neighbour σ t a1 v1 a2).bind fun v3 =>
    some v3)))
set_option maxHeartbeats 4000000 in
set_option maxRecDepth 100000 in
theorem mX0_neighbourOnPage (l : Launch) (X : gX) (σ : gM) (t : Nat) (a1 : Int32) (a2 : Int32) (r : Int32) (ok : gok0 X t) (h : fX0_neighbourOnPage σ t a1 a2 = some r) : Met l yX0_neighbourOnPage (Cond.code yX0_neighbourOnPage cX0_neighbourOnPage 4 (some .int) :: gBig) ({ frames := 3, cells := 0, slots := 0, locals := 67 }) (gPc X σ [.ref (xN X + t), .int a1, .int a2]) (gQi X σ r) 0 0 (xA X) := by
  refine g_meti (cc := cX0_neighbourOnPage) (maxL := 4) (own := RX0) (by decide) rfl rfl (Nat.le_of_ble_eq_true rfl) ?_
  intro p ev s m args below meth c Q C G ret ls hl
  obtain ⟨⟨hx, hb, hml, hown, hts⟩, hK⟩ := id C
  have hl : lv_has ls 4 [(0, .ref (xN X + t)), (1, .int a1), (2, .int a2)] := hl
  unfold fX0_neighbourOnPage at h
  refine lv_aload_n hx hb dX0_neighbourOnPage_0 rfl (lv_at hl 0 rfl) ?_
  refine gg0_1 C G ok.1 ok.2.1.2 u_fl_RX0_21 dX0_neighbourOnPage_1 ?_
  refine lv_iload_n hx hb dX0_neighbourOnPage_4 rfl (lv_at hl 1 rfl) ?_
  obtain ⟨v1, e_v1, h⟩ := g_bind h
  refine g_calli (g_runV (n := 1) (As := [.int a1]) (rest := []) C G (mX4_placeOf l X σ (t + 8) a1 v1 ok.2.2.2 e_v1) ok.2.2.2.1.2 (gE_4 ok.2.2.2.1.1) rfl (g_goodV u_ml_RX0_77 u_im_yX4_placeOf u_se_yX4_placeOf u_in_RX4 u_co_yX4_placeOf) rfl rfl rfl (by decide +kernel) ⟨Nat.le_of_ble_eq_true rfl, Nat.le_of_ble_eq_true rfl⟩ rfl hl.1 rfl (Nat.le_of_ble_eq_true rfl) dX0_neighbourOnPage_5 ⟨Nat.zero_le _, Nat.zero_le _⟩) G (fun H locs G => ?_)
  refine lv_istore_n (lv' := [(3, .int v1), (0, .ref (xN X + t)), (1, .int a1), (2, .int a2)]) hx hb dX0_neighbourOnPage_8 rfl hl (by decide) rfl (fun ls hl => ?_)
  refine lv_iload_n hx hb dX0_neighbourOnPage_9 rfl (lv_at hl 0 rfl) ?_
  refine lv_iconst (v := (-1)) hx hb dX0_neighbourOnPage_10 (by decide) ?_
  refine lv_icmp_ne (tgt := 18) hx hb dX0_neighbourOnPage_11 (by decide) (fun c2 => ?_) (fun c2 => ?_)
  · have h := g_if h c2
    refine lv_aload_n hx hb dX0_neighbourOnPage_18 rfl (lv_at hl 1 rfl) ?_
    refine lv_iload_n hx hb dX0_neighbourOnPage_19 rfl (lv_at hl 2 rfl) ?_
    refine lv_iload_n hx hb dX0_neighbourOnPage_20 rfl (lv_at hl 0 rfl) ?_
    refine lv_iload_n hx hb dX0_neighbourOnPage_21 rfl (lv_at hl 3 rfl) ?_
    obtain ⟨v3, e_v3, h⟩ := g_bind h
    refine g_calli (g_runV (n := 3) (As := [.int a1, .int v1, .int a2]) (rest := []) C G (mX0_neighbour l X σ t a1 v1 a2 v3 ok e_v3) ok.1.2 (gE_0 ok.1.1) rfl (g_goodV u_ml_RX0_71 u_im_yX0_neighbour u_se_yX0_neighbour u_in_RX0 u_co_yX0_neighbour) rfl rfl rfl (by decide +kernel) ⟨Nat.le_of_ble_eq_true rfl, Nat.le_of_ble_eq_true rfl⟩ rfl hl.1 rfl (Nat.le_of_ble_eq_true rfl) dX0_neighbourOnPage_22 ⟨Nat.zero_le _, Nat.zero_le _⟩) G (fun H locs G => ?_)
    exact ret dX0_neighbourOnPage_25 rfl G ⟨Option.some.inj h, rfl⟩
  · have h := g_it h c2
    refine lv_iconst (v := (-1)) hx hb dX0_neighbourOnPage_14 (by decide) ?_
    refine lv_goto (tgt := 25) hx hb dX0_neighbourOnPage_15 (by decide) ?_
    exact ret dX0_neighbourOnPage_25 rfl G ⟨Option.some.inj h, rfl⟩

def fX2_join (σ : gM) (t : Nat) (o1 : Nat) (a2 : Int32) (a3 : Int32) : Option (gM) :=
  ((fX0_isJoined σ o1 a2 a3).bind fun v1 =>
  (if v1 = 0 then
    some σ
  else
    ((fX0_neighbourOnPage σ o1 a2 a3).bind fun v3 =>
    ((fX5_get σ (t + 1) a2).bind fun v4 =>
    ((fX5_get σ (t + 1) v3).bind fun v5 =>
    (gl (if v5 < v4 then v5 else v4) fun w6 =>
    ((fX5_set σ (t + 1) a2 w6).bind fun σ8 =>
    ((fX5_set σ8 (t + 1) v3 w6).bind fun σ10 =>
    some σ10))))))))
set_option maxHeartbeats 4000000 in
set_option maxRecDepth 100000 in
theorem mX2_join (l : Launch) (X : gX) (σ σ' : gM) (t : Nat) (o1 : Nat) (a2 : Int32) (a3 : Int32) (ok : gok2 X t) (ok1 : gok0 X o1) (h : fX2_join σ t o1 a2 a3 = some σ') : Met l yX2_join (Cond.code yX2_join cX2_join 6 none :: gBig) ({ frames := 4, cells := 0, slots := 0, locals := 98 }) (gPc X σ [.ref (xN X + t), .ref (xN X + o1), .int a2, .int a3]) (gQv X σ') 0 0 (xA X) := by
  refine g_metv (cc := cX2_join) (maxL := 6) (own := RX2) (by decide) rfl rfl (Nat.le_of_ble_eq_true rfl) ?_
  intro p ev s m args below meth c Q C G ret ls hl
  obtain ⟨⟨hx, hb, hml, hown, hts⟩, hK⟩ := id C
  have hl : lv_has ls 6 [(0, .ref (xN X + t)), (1, .ref (xN X + o1)), (2, .int a2), (3, .int a3)] := hl
  unfold fX2_join at h
  refine lv_aload_n hx hb dX2_join_0 rfl (lv_at hl 1 rfl) ?_
  refine lv_iload_n hx hb dX2_join_1 rfl (lv_at hl 2 rfl) ?_
  refine lv_iload_n hx hb dX2_join_2 rfl (lv_at hl 3 rfl) ?_
  obtain ⟨v1, e_v1, h⟩ := g_bind h
  refine g_calli (g_runV (n := 2) (As := [.int a2, .int a3]) (rest := []) C G (mX0_isJoined l X σ o1 a2 a3 v1 ok1 e_v1) ok1.1.2 (gE_0 ok1.1.1) rfl (g_goodV u_ml_RX2_53 u_im_yX0_isJoined u_se_yX0_isJoined u_in_RX0 u_co_yX0_isJoined) rfl rfl rfl (by decide +kernel) ⟨Nat.le_of_ble_eq_true rfl, Nat.le_of_ble_eq_true rfl⟩ rfl hl.1 rfl (Nat.le_of_ble_eq_true rfl) dX2_join_3 ⟨Nat.zero_le _, Nat.zero_le _⟩) G (fun H locs G => ?_)
  refine lv_if_eq (tgt := 60) hx hb dX2_join_6 (by decide) (fun c2 => ?_) (fun c2 => ?_)
  · have h := g_it h c2
    exact ret dX2_join_60 G (Option.some.inj h)
  · have h := g_if h c2
    refine lv_aload_n hx hb dX2_join_9 rfl (lv_at hl 1 rfl) ?_
    refine lv_iload_n hx hb dX2_join_10 rfl (lv_at hl 2 rfl) ?_
    refine lv_iload_n hx hb dX2_join_11 rfl (lv_at hl 3 rfl) ?_
    obtain ⟨v3, e_v3, h⟩ := g_bind h
    refine g_calli (g_runV (n := 2) (As := [.int a2, .int a3]) (rest := []) C G (mX0_neighbourOnPage l X σ o1 a2 a3 v3 ok1 e_v3) ok1.1.2 (gE_0 ok1.1.1) rfl (g_goodV u_ml_RX2_57 u_im_yX0_neighbourOnPage u_se_yX0_neighbourOnPage u_in_RX0 u_co_yX0_neighbourOnPage) rfl rfl rfl (by decide +kernel) ⟨Nat.le_of_ble_eq_true rfl, Nat.le_of_ble_eq_true rfl⟩ rfl hl.1 rfl (Nat.le_of_ble_eq_true rfl) dX2_join_12 ⟨Nat.zero_le _, Nat.zero_le _⟩) G (fun H locs G => ?_)
    refine lv_istore (lv' := [(4, .int v3), (0, .ref (xN X + t)), (1, .ref (xN X + o1)), (2, .int a2), (3, .int a3)]) hx hb dX2_join_15 hl (by decide) rfl (fun ls hl => ?_)
    refine lv_aload_n hx hb dX2_join_17 rfl (lv_at hl 1 rfl) ?_
    refine gg2_0 C G ok.1 ok.2.1 u_fl_RX2_14 dX2_join_18 ?_
    refine lv_iload_n hx hb dX2_join_21 rfl (lv_at hl 3 rfl) ?_
    obtain ⟨v4, e_v4, h⟩ := g_bind h
    refine g_calli (g_runV (n := 1) (As := [.int a2]) (rest := []) C G (mX5_get l X σ (t + 1) a2 v4 ok.2.2 e_v4) ok.2.2.1.2 (gE_5 ok.2.2.1.1) rfl (g_goodV u_ml_RX2_61 u_im_yX5_get u_se_yX5_get u_in_RX5 u_co_yX5_get) rfl rfl rfl (by decide +kernel) ⟨Nat.le_of_ble_eq_true rfl, Nat.le_of_ble_eq_true rfl⟩ rfl hl.1 rfl (Nat.le_of_ble_eq_true rfl) dX2_join_22 ⟨Nat.zero_le _, Nat.zero_le _⟩) G (fun H locs G => ?_)
    refine lv_aload_n hx hb dX2_join_25 rfl (lv_at hl 1 rfl) ?_
    refine gg2_0 C G ok.1 ok.2.1 u_fl_RX2_14 dX2_join_26 ?_
    refine lv_iload hx hb dX2_join_29 (lv_at hl 0 rfl) ?_
    obtain ⟨v5, e_v5, h⟩ := g_bind h
    refine g_calli (g_runV (n := 1) (As := [.int v3]) (rest := [.int v4]) C G (mX5_get l X σ (t + 1) v3 v5 ok.2.2 e_v5) ok.2.2.1.2 (gE_5 ok.2.2.1.1) rfl (g_goodV u_ml_RX2_61 u_im_yX5_get u_se_yX5_get u_in_RX5 u_co_yX5_get) rfl rfl rfl (by decide +kernel) ⟨Nat.le_of_ble_eq_true rfl, Nat.le_of_ble_eq_true rfl⟩ rfl hl.1 rfl (Nat.le_of_ble_eq_true rfl) dX2_join_31 ⟨Nat.zero_le _, Nat.zero_le _⟩) G (fun H locs G => ?_)
    refine g_min C hl.1 u_ml_RX2_65 u_st_Lib_Math_min_name u_in_java_lang_Math u_co_Lib_Math_min_name (Nat.le_of_ble_eq_true rfl) (Nat.le_of_ble_eq_true rfl) (Nat.zero_le _) (Nat.zero_le _) dX2_join_34 ?_
    refine lv_topi (fun w6 e_w6 => ?_)
    have h := g_let2 e_w6 h
    refine lv_istore (lv' := [(5, .int w6), (4, .int v3), (0, .ref (xN X + t)), (1, .ref (xN X + o1)), (2, .int a2), (3, .int a3)]) hx hb dX2_join_37 hl (by decide) rfl (fun ls hl => ?_)
    refine lv_aload_n hx hb dX2_join_39 rfl (lv_at hl 2 rfl) ?_
    refine gg2_0 C G ok.1 ok.2.1 u_fl_RX2_14 dX2_join_40 ?_
    refine lv_iload_n hx hb dX2_join_43 rfl (lv_at hl 4 rfl) ?_
    refine lv_iload hx hb dX2_join_44 (lv_at hl 0 rfl) ?_
    obtain ⟨σ8, e_σ8, h⟩ := g_bind h
    refine g_callv (g_runV (n := 2) (As := [.int a2, .int w6]) (rest := []) C G (mX5_set l X σ σ8 (t + 1) a2 w6 ok.2.2 e_σ8) ok.2.2.1.2 (gE_5 ok.2.2.1.1) rfl (g_goodV u_ml_RX2_45 u_im_yX5_set u_se_yX5_set u_in_RX5 u_co_yX5_set) rfl rfl rfl (by decide +kernel) ⟨Nat.le_of_ble_eq_true rfl, Nat.le_of_ble_eq_true rfl⟩ rfl hl.1 rfl (Nat.le_of_ble_eq_true rfl) dX2_join_46 ⟨Nat.zero_le _, Nat.zero_le _⟩) G (fun H locs G => ?_)
    refine lv_aload_n hx hb dX2_join_49 rfl (lv_at hl 2 rfl) ?_
    refine gg2_0 C G ok.1 ok.2.1 u_fl_RX2_14 dX2_join_50 ?_
    refine lv_iload hx hb dX2_join_53 (lv_at hl 1 rfl) ?_
    refine lv_iload hx hb dX2_join_55 (lv_at hl 0 rfl) ?_
    obtain ⟨σ10, e_σ10, h⟩ := g_bind h
    refine g_callv (g_runV (n := 2) (As := [.int v3, .int w6]) (rest := []) C G (mX5_set l X σ8 σ10 (t + 1) v3 w6 ok.2.2 e_σ10) ok.2.2.1.2 (gE_5 ok.2.2.1.1) rfl (g_goodV u_ml_RX2_45 u_im_yX5_set u_se_yX5_set u_in_RX5 u_co_yX5_set) rfl rfl rfl (by decide +kernel) ⟨Nat.le_of_ble_eq_true rfl, Nat.le_of_ble_eq_true rfl⟩ rfl hl.1 rfl (Nat.le_of_ble_eq_true rfl) dX2_join_57 ⟨Nat.zero_le _, Nat.zero_le _⟩) G (fun H locs G => ?_)
    exact ret dX2_join_60 G (Option.some.inj h)

def fX2_gather_63 (K53 : gM → Int32 → Option (gM)) (t : Nat) (o1 : Nat) : Nat → gM → Int32 → Int32 → Option (gM)
  | 0, _, _, _ => none
  | n + 1, σ, x2, x3 =>
    (if (σ t 1) ≤ x3 then
      (gl (x2 + 1) fun w6 =>
      K53 σ w6)
    else
      ((fX2_join σ t o1 x3 1).bind fun σ8 =>
      ((fX2_join σ8 t o1 x3 2).bind fun σ10 =>
      (gl (x3 + 1) fun w11 =>
      fX2_gather_63 K53 t o1 n σ10 x2 w11))))

def fX2_gather_53 (t : Nat) (o1 : Nat) : Nat → gM → Int32 → Option (gM)
  | 0, _, _ => none
  | n + 1, σ, x2 =>
    (if (σ t 1) ≤ x2 then
      some σ
    else
      fX2_gather_63 (fun σ2 y2 => fX2_gather_53 t o1 n σ2 y2) t o1 gF σ x2 0)

def fX2_gather_13 (t : Nat) (o1 : Nat) : Nat → gM → Int32 → Option (gM)
  | 0, _, _ => none
  | n + 1, σ, x2 =>
    (if (σ t 1) ≤ x2 then
      fX2_gather_53 t o1 gF σ 0
    else
      ((fX4_lies σ (o1 + 8) x2).bind fun v12 =>
      (if v12 = 0 then
        ((fX5_set σ (t + 1) x2 (-1)).bind fun σ15 =>
        (gl (x2 + 1) fun w16 =>
        fX2_gather_13 t o1 n σ15 w16))
      else
        ((fX5_set σ (t + 1) x2 x2).bind fun σ18 =>
        (gl (x2 + 1) fun w19 =>
        fX2_gather_13 t o1 n σ18 w19)))))

def fX2_gather (σ : gM) (t : Nat) (o1 : Nat) : Option (gM) :=
  ((fX6_size σ (o1 + 1)).bind fun v1 =>
  (gl (gset σ t (upd (σ t) 1 v1)) fun σ2 =>
  fX2_gather_13 t o1 gF σ2 0))
set_option maxHeartbeats 4000000 in
set_option maxRecDepth 100000 in
theorem mX2_gather (l : Launch) (X : gX) (σ σ' : gM) (t : Nat) (o1 : Nat) (ok : gok2 X t) (ok1 : gok0 X o1) (h : fX2_gather σ t o1 = some σ') : Met l yX2_gather (Cond.code yX2_gather cX2_gather 4 none :: gBig) ({ frames := 5, cells := 0, slots := 0, locals := 123 }) (gPc X σ [.ref (xN X + t), .ref (xN X + o1)]) (gQv X σ') 0 0 (xA X) := by
  refine g_metv (cc := cX2_gather) (maxL := 4) (own := RX2) (by decide) rfl rfl (Nat.le_of_ble_eq_true rfl) ?_
  intro p ev s m args below meth c Q C G ret ls hl
  obtain ⟨⟨hx, hb, hml, hown, hts⟩, hK⟩ := id C
  have hl : lv_has ls 4 [(0, .ref (xN X + t)), (1, .ref (xN X + o1))] := hl
  have L63 : ∀ (K53 : gM → Int32 → Option (gM)), (∀ (H : Heap) (locs : List Loc) (ls : Array Slot) (σ : gM) (x2 : Int32), gG X σ s H locs → lv_has ls 4 [(0, .ref (xN X + t)), (1, .ref (xN X + o1)), (2, .int x2)] → K53 σ x2 = some σ' → W p l ev ({ frames := 5, cells := 0, slots := 0, locals := 123 }) s m args below meth c H locs 0 0 Q (F0 m 53 ls [])) → ∀ (n : Nat) (H : Heap) (locs : List Loc) (ls : Array Slot) (σ : gM) (x2 : Int32) (x3 : Int32), gG X σ s H locs → lv_has ls 4 [(0, .ref (xN X + t)), (1, .ref (xN X + o1)), (2, .int x2), (3, .int x3)] → fX2_gather_63 K53 t o1 n σ x2 x3 = some σ' → W p l ev ({ frames := 5, cells := 0, slots := 0, locals := 123 }) s m args below meth c H locs 0 0 Q (F0 m 63 ls []) := by
    intro K53 hK53 n
    induction n with
    | zero =>
      intro H locs ls σ x2 x3 G hl h
      rw [fX2_gather_63] at h
      cases h
    | succ n ih =>
      intro H locs ls σ x2 x3 G hl h
      rw [fX2_gather_63] at h
      refine lv_iload_n hx hb dX2_gather_63 rfl (lv_at hl 3 rfl) ?_
      refine lv_aload_n hx hb dX2_gather_64 rfl (lv_at hl 0 rfl) ?_
      refine gg2_1 C G ok.1 u_fl_RX2_32 dX2_gather_65 ?_
      refine lv_icmp_ge (tgt := 91) hx hb dX2_gather_68 (by decide) (fun c5 => ?_) (fun c5 => ?_)
      · have h := g_it h c5
        obtain ⟨w6, e_w6⟩ : ∃ y : Int32, y = x2 + 1 := ⟨_, rfl⟩
        have h := g_let2 e_w6 h
        refine lv_iinc (v := w6) (lv' := [(2, .int w6), (0, .ref (xN X + t)), (1, .ref (xN X + o1)), (3, .int x3)]) hx hb dX2_gather_91 hl (k := 2) rfl (by rw [e_w6]; rfl) (by decide) rfl (fun ls hl => ?_)
        refine lv_goto (tgt := 53) hx hb dX2_gather_94 (by decide) ?_
        exact hK53 _ _ _ σ w6 G (lv_sub hl [1, 2, 0] rfl) h
      · have h := g_if h c5
        refine lv_aload_n hx hb dX2_gather_71 rfl (lv_at hl 0 rfl) ?_
        refine lv_aload_n hx hb dX2_gather_72 rfl (lv_at hl 1 rfl) ?_
        refine lv_iload_n hx hb dX2_gather_73 rfl (lv_at hl 3 rfl) ?_
        refine lv_iconst (v := 1) hx hb dX2_gather_74 (by decide) ?_
        obtain ⟨σ8, e_σ8, h⟩ := g_bind h
        refine g_callv (g_runV (n := 3) (As := [.ref (xN X + o1), .int x3, .int 1]) (rest := []) C G (mX2_join l X σ σ8 t o1 x3 1 ok ok1 e_σ8) ok.1.2 (gE_2 ok.1.1) rfl (g_goodV u_ml_RX2_49 u_im_yX2_join u_se_yX2_join u_in_RX2 u_co_yX2_join) rfl rfl rfl (by decide +kernel) ⟨Nat.le_of_ble_eq_true rfl, Nat.le_of_ble_eq_true rfl⟩ rfl hl.1 rfl (Nat.le_of_ble_eq_true rfl) dX2_gather_75 ⟨Nat.zero_le _, Nat.zero_le _⟩) G (fun H locs G => ?_)
        refine lv_aload_n hx hb dX2_gather_78 rfl (lv_at hl 0 rfl) ?_
        refine lv_aload_n hx hb dX2_gather_79 rfl (lv_at hl 1 rfl) ?_
        refine lv_iload_n hx hb dX2_gather_80 rfl (lv_at hl 3 rfl) ?_
        refine lv_iconst (v := 2) hx hb dX2_gather_81 (by decide) ?_
        obtain ⟨σ10, e_σ10, h⟩ := g_bind h
        refine g_callv (g_runV (n := 3) (As := [.ref (xN X + o1), .int x3, .int 2]) (rest := []) C G (mX2_join l X σ8 σ10 t o1 x3 2 ok ok1 e_σ10) ok.1.2 (gE_2 ok.1.1) rfl (g_goodV u_ml_RX2_49 u_im_yX2_join u_se_yX2_join u_in_RX2 u_co_yX2_join) rfl rfl rfl (by decide +kernel) ⟨Nat.le_of_ble_eq_true rfl, Nat.le_of_ble_eq_true rfl⟩ rfl hl.1 rfl (Nat.le_of_ble_eq_true rfl) dX2_gather_82 ⟨Nat.zero_le _, Nat.zero_le _⟩) G (fun H locs G => ?_)
        obtain ⟨w11, e_w11⟩ : ∃ y : Int32, y = x3 + 1 := ⟨_, rfl⟩
        have h := g_let2 e_w11 h
        refine lv_iinc (v := w11) (lv' := [(3, .int w11), (0, .ref (xN X + t)), (1, .ref (xN X + o1)), (2, .int x2)]) hx hb dX2_gather_85 hl (k := 3) rfl (by rw [e_w11]; rfl) (by decide) rfl (fun ls hl => ?_)
        refine lv_goto (tgt := 63) hx hb dX2_gather_88 (by decide) ?_
        exact ih _ _ _ σ10 x2 w11 G (lv_sub hl [1, 2, 3, 0] rfl) h
  have L53 : ∀ (n : Nat) (H : Heap) (locs : List Loc) (ls : Array Slot) (σ : gM) (x2 : Int32), gG X σ s H locs → lv_has ls 4 [(0, .ref (xN X + t)), (1, .ref (xN X + o1)), (2, .int x2)] → fX2_gather_53 t o1 n σ x2 = some σ' → W p l ev ({ frames := 5, cells := 0, slots := 0, locals := 123 }) s m args below meth c H locs 0 0 Q (F0 m 53 ls []) := by
    intro n
    induction n with
    | zero =>
      intro H locs ls σ x2 G hl h
      rw [fX2_gather_53] at h
      cases h
    | succ n ih =>
      intro H locs ls σ x2 G hl h
      rw [fX2_gather_53] at h
      refine lv_iload_n hx hb dX2_gather_53 rfl (lv_at hl 2 rfl) ?_
      refine lv_aload_n hx hb dX2_gather_54 rfl (lv_at hl 0 rfl) ?_
      refine gg2_1 C G ok.1 u_fl_RX2_32 dX2_gather_55 ?_
      refine lv_icmp_ge (tgt := 97) hx hb dX2_gather_58 (by decide) (fun c4 => ?_) (fun c4 => ?_)
      · have h := g_it h c4
        exact ret dX2_gather_97 G (Option.some.inj h)
      · have h := g_if h c4
        refine lv_iconst (v := 0) hx hb dX2_gather_61 (by decide) ?_
        refine lv_istore_n (lv' := [(3, .int 0), (0, .ref (xN X + t)), (1, .ref (xN X + o1)), (2, .int x2)]) hx hb dX2_gather_62 rfl hl (by decide) rfl (fun ls hl => ?_)
        exact L63 (fun σ2 y2 => fX2_gather_53 t o1 n σ2 y2) (fun H locs ls σ2 y2 G hl h => ih H locs ls σ2 y2 G hl h) gF _ _ _ σ x2 0 G (lv_sub hl [1, 2, 3, 0] rfl) h
  have L13 : ∀ (n : Nat) (H : Heap) (locs : List Loc) (ls : Array Slot) (σ : gM) (x2 : Int32), gG X σ s H locs → lv_has ls 4 [(0, .ref (xN X + t)), (1, .ref (xN X + o1)), (2, .int x2)] → fX2_gather_13 t o1 n σ x2 = some σ' → W p l ev ({ frames := 5, cells := 0, slots := 0, locals := 123 }) s m args below meth c H locs 0 0 Q (F0 m 13 ls []) := by
    intro n
    induction n with
    | zero =>
      intro H locs ls σ x2 G hl h
      rw [fX2_gather_13] at h
      cases h
    | succ n ih =>
      intro H locs ls σ x2 G hl h
      rw [fX2_gather_13] at h
      refine lv_iload_n hx hb dX2_gather_13 rfl (lv_at hl 2 rfl) ?_
      refine lv_aload_n hx hb dX2_gather_14 rfl (lv_at hl 0 rfl) ?_
      refine gg2_1 C G ok.1 u_fl_RX2_32 dX2_gather_15 ?_
      refine lv_icmp_ge (tgt := 51) hx hb dX2_gather_18 (by decide) (fun c3 => ?_) (fun c3 => ?_)
      · have h := g_it h c3
        refine lv_iconst (v := 0) hx hb dX2_gather_51 (by decide) ?_
        refine lv_istore_n (lv' := [(2, .int 0), (0, .ref (xN X + t)), (1, .ref (xN X + o1))]) hx hb dX2_gather_52 rfl hl (by decide) rfl (fun ls hl => ?_)
        exact L53  gF _ _ _ σ 0 G (lv_sub hl [1, 2, 0] rfl) h
      · have h := g_if h c3
        refine lv_aload_n hx hb dX2_gather_21 rfl (lv_at hl 0 rfl) ?_
        refine gg2_0 C G ok.1 ok.2.1 u_fl_RX2_14 dX2_gather_22 ?_
        refine lv_iload_n hx hb dX2_gather_25 rfl (lv_at hl 2 rfl) ?_
        refine lv_aload_n hx hb dX2_gather_26 rfl (lv_at hl 1 rfl) ?_
        refine gn0_1 C G ok1.1 ok1.2.1.2 (List.mem_of_getElem? (i := 2) rfl) dX2_gather_27 ?_
        refine lv_iload_n hx hb dX2_gather_30 rfl (lv_at hl 2 rfl) ?_
        obtain ⟨v12, e_v12, h⟩ := g_bind h
        refine g_calli (g_runV (n := 1) (As := [.int x2]) (rest := [.int x2, .ref (xN X + (t + 1))]) C G (mX4_lies l X σ (o1 + 8) x2 v12 ok1.2.2.2 e_v12) ok1.2.2.2.1.2 (gE_4 ok1.2.2.2.1.1) rfl (g_goodV u_ml_RX2_39 u_im_yX4_lies u_se_yX4_lies u_in_RX4 u_co_yX4_lies) rfl rfl rfl (by decide +kernel) ⟨Nat.le_of_ble_eq_true rfl, Nat.le_of_ble_eq_true rfl⟩ rfl hl.1 rfl (Nat.le_of_ble_eq_true rfl) dX2_gather_31 ⟨Nat.zero_le _, Nat.zero_le _⟩) G (fun H locs G => ?_)
        refine lv_if_eq (tgt := 41) hx hb dX2_gather_34 (by decide) (fun c13 => ?_) (fun c13 => ?_)
        · have h := g_it h c13
          refine lv_iconst (v := (-1)) hx hb dX2_gather_41 (by decide) ?_
          obtain ⟨σ15, e_σ15, h⟩ := g_bind h
          refine g_callv (g_runV (n := 2) (As := [.int x2, .int (-1)]) (rest := []) C G (mX5_set l X σ σ15 (t + 1) x2 (-1) ok.2.2 e_σ15) ok.2.2.1.2 (gE_5 ok.2.2.1.1) rfl (g_goodV u_ml_RX2_45 u_im_yX5_set u_se_yX5_set u_in_RX5 u_co_yX5_set) rfl rfl rfl (by decide +kernel) ⟨Nat.le_of_ble_eq_true rfl, Nat.le_of_ble_eq_true rfl⟩ rfl hl.1 rfl (Nat.le_of_ble_eq_true rfl) dX2_gather_42 ⟨Nat.zero_le _, Nat.zero_le _⟩) G (fun H locs G => ?_)
          obtain ⟨w16, e_w16⟩ : ∃ y : Int32, y = x2 + 1 := ⟨_, rfl⟩
          have h := g_let2 e_w16 h
          refine lv_iinc (v := w16) (lv' := [(2, .int w16), (0, .ref (xN X + t)), (1, .ref (xN X + o1))]) hx hb dX2_gather_45 hl (k := 2) rfl (by rw [e_w16]; rfl) (by decide) rfl (fun ls hl => ?_)
          refine lv_goto (tgt := 13) hx hb dX2_gather_48 (by decide) ?_
          exact ih _ _ _ σ15 w16 G (lv_sub hl [1, 2, 0] rfl) h
        · have h := g_if h c13
          refine lv_iload_n hx hb dX2_gather_37 rfl (lv_at hl 2 rfl) ?_
          refine lv_goto (tgt := 42) hx hb dX2_gather_38 (by decide) ?_
          obtain ⟨σ18, e_σ18, h⟩ := g_bind h
          refine g_callv (g_runV (n := 2) (As := [.int x2, .int x2]) (rest := []) C G (mX5_set l X σ σ18 (t + 1) x2 x2 ok.2.2 e_σ18) ok.2.2.1.2 (gE_5 ok.2.2.1.1) rfl (g_goodV u_ml_RX2_45 u_im_yX5_set u_se_yX5_set u_in_RX5 u_co_yX5_set) rfl rfl rfl (by decide +kernel) ⟨Nat.le_of_ble_eq_true rfl, Nat.le_of_ble_eq_true rfl⟩ rfl hl.1 rfl (Nat.le_of_ble_eq_true rfl) dX2_gather_42 ⟨Nat.zero_le _, Nat.zero_le _⟩) G (fun H locs G => ?_)
          obtain ⟨w19, e_w19⟩ : ∃ y : Int32, y = x2 + 1 := ⟨_, rfl⟩
          have h := g_let2 e_w19 h
          refine lv_iinc (v := w19) (lv' := [(2, .int w19), (0, .ref (xN X + t)), (1, .ref (xN X + o1))]) hx hb dX2_gather_45 hl (k := 2) rfl (by rw [e_w19]; rfl) (by decide) rfl (fun ls hl => ?_)
          refine lv_goto (tgt := 13) hx hb dX2_gather_48 (by decide) ?_
          exact ih _ _ _ σ18 w19 G (lv_sub hl [1, 2, 0] rfl) h
  unfold fX2_gather at h
  refine lv_aload_n hx hb dX2_gather_0 rfl (lv_at hl 0 rfl) ?_
  refine lv_aload_n hx hb dX2_gather_1 rfl (lv_at hl 1 rfl) ?_
  refine gn0_0 C G ok1.1 ok1.2.1.1 (List.mem_of_getElem? (i := 0) rfl) dX2_gather_2 ?_
  obtain ⟨v1, e_v1, h⟩ := g_bind h
  refine g_calli (g_runV (n := 0) (As := []) (rest := [.ref (xN X + t)]) C G (mX6_size l X σ (o1 + 1) v1 ok1.2.2.1 e_v1) ok1.2.2.1.1.2 (gE_6 ok1.2.2.1.1.1) rfl (g_goodV u_ml_RX2_26 u_im_yX6_size u_se_yX6_size u_in_RX6 u_co_yX6_size) rfl rfl rfl (by decide +kernel) ⟨Nat.le_of_ble_eq_true rfl, Nat.le_of_ble_eq_true rfl⟩ rfl hl.1 rfl (Nat.le_of_ble_eq_true rfl) dX2_gather_5 ⟨Nat.zero_le _, Nat.zero_le _⟩) G (fun H locs G => ?_)
  obtain ⟨σ2, e_σ2, h⟩ := g_let h
  refine gp2_1 C G ok.1 u_fl_RX2_32 dX2_gather_8 (fun H locs G => ?_)
  rw [e_σ2] at G
  refine lv_iconst (v := 0) hx hb dX2_gather_11 (by decide) ?_
  refine lv_istore_n (lv' := [(2, .int 0), (0, .ref (xN X + t)), (1, .ref (xN X + o1))]) hx hb dX2_gather_12 rfl hl (by decide) rfl (fun ls hl => ?_)
  exact L13  gF _ _ _ σ2 0 G (lv_sub hl [1, 2, 0] rfl) h

def fX2_countBelow_4 (σ : gM) (t : Nat) (a1 : Int32) : Nat → Int32 → Int32 → Option (Int32)
  | 0, _, _ => none
  | n + 1, x2, x3 =>
    (if a1 ≤ x3 then
      some x2
    else
      (if (σ t 1) ≤ x3 then
        some x2
      else
        ((fX5_get σ (t + 1) x3).bind fun v3 =>
        (if v3 = x3 then
          (gl (x2 + 1) fun w5 =>
          (gl (x3 + 1) fun w6 =>
          fX2_countBelow_4 σ t a1 n w5 w6))
        else
          (gl (x3 + 1) fun w7 =>
          fX2_countBelow_4 σ t a1 n x2 w7)))))

def fX2_countBelow (σ : gM) (t : Nat) (a1 : Int32) : Option (Int32) :=
  fX2_countBelow_4 σ t a1 gF 0 0
set_option maxHeartbeats 4000000 in
set_option maxRecDepth 100000 in
theorem mX2_countBelow (l : Launch) (X : gX) (σ : gM) (t : Nat) (a1 : Int32) (r : Int32) (ok : gok2 X t) (h : fX2_countBelow σ t a1 = some r) : Met l yX2_countBelow (Cond.code yX2_countBelow cX2_countBelow 4 (some .int) :: gBig) ({ frames := 1, cells := 0, slots := 0, locals := 21 }) (gPc X σ [.ref (xN X + t), .int a1]) (gQi X σ r) 0 0 (xA X) := by
  refine g_meti (cc := cX2_countBelow) (maxL := 4) (own := RX2) (by decide) rfl rfl (Nat.le_of_ble_eq_true rfl) ?_
  intro p ev s m args below meth c Q C G ret ls hl
  obtain ⟨⟨hx, hb, hml, hown, hts⟩, hK⟩ := id C
  have hl : lv_has ls 4 [(0, .ref (xN X + t)), (1, .int a1)] := hl
  have L4 : ∀ (n : Nat) (H : Heap) (locs : List Loc) (ls : Array Slot) (x2 : Int32) (x3 : Int32), gG X σ s H locs → lv_has ls 4 [(0, .ref (xN X + t)), (1, .int a1), (2, .int x2), (3, .int x3)] → fX2_countBelow_4 σ t a1 n x2 x3 = some r → W p l ev ({ frames := 1, cells := 0, slots := 0, locals := 21 }) s m args below meth c H locs 0 0 Q (F0 m 4 ls []) := by
    intro n
    induction n with
    | zero =>
      intro H locs ls x2 x3 G hl h
      rw [fX2_countBelow_4] at h
      cases h
    | succ n ih =>
      intro H locs ls x2 x3 G hl h
      rw [fX2_countBelow_4] at h
      refine lv_iload_n hx hb dX2_countBelow_4 rfl (lv_at hl 3 rfl) ?_
      refine lv_iload_n hx hb dX2_countBelow_5 rfl (lv_at hl 1 rfl) ?_
      refine lv_icmp_ge (tgt := 38) hx hb dX2_countBelow_6 (by decide) (fun c1 => ?_) (fun c1 => ?_)
      · have h := g_it h c1
        refine lv_iload_n hx hb dX2_countBelow_38 rfl (lv_at hl 2 rfl) ?_
        exact ret dX2_countBelow_39 rfl G ⟨Option.some.inj h, rfl⟩
      · have h := g_if h c1
        refine lv_iload_n hx hb dX2_countBelow_9 rfl (lv_at hl 3 rfl) ?_
        refine lv_aload_n hx hb dX2_countBelow_10 rfl (lv_at hl 0 rfl) ?_
        refine gg2_1 C G ok.1 u_fl_RX2_32 dX2_countBelow_11 ?_
        refine lv_icmp_ge (tgt := 38) hx hb dX2_countBelow_14 (by decide) (fun c2 => ?_) (fun c2 => ?_)
        · have h := g_it h c2
          refine lv_iload_n hx hb dX2_countBelow_38 rfl (lv_at hl 2 rfl) ?_
          exact ret dX2_countBelow_39 rfl G ⟨Option.some.inj h, rfl⟩
        · have h := g_if h c2
          refine lv_aload_n hx hb dX2_countBelow_17 rfl (lv_at hl 0 rfl) ?_
          refine gg2_0 C G ok.1 ok.2.1 u_fl_RX2_14 dX2_countBelow_18 ?_
          refine lv_iload_n hx hb dX2_countBelow_21 rfl (lv_at hl 3 rfl) ?_
          obtain ⟨v3, e_v3, h⟩ := g_bind h
          refine g_calli (g_runV (n := 1) (As := [.int x3]) (rest := []) C G (mX5_get l X σ (t + 1) x3 v3 ok.2.2 e_v3) ok.2.2.1.2 (gE_5 ok.2.2.1.1) rfl (g_goodV u_ml_RX2_61 u_im_yX5_get u_se_yX5_get u_in_RX5 u_co_yX5_get) rfl rfl rfl (by decide +kernel) ⟨Nat.le_of_ble_eq_true rfl, Nat.le_of_ble_eq_true rfl⟩ rfl hl.1 rfl (Nat.le_of_ble_eq_true rfl) dX2_countBelow_22 ⟨Nat.zero_le _, Nat.zero_le _⟩) G (fun H locs G => ?_)
          refine lv_iload_n hx hb dX2_countBelow_25 rfl (lv_at hl 3 rfl) ?_
          refine lv_icmp_ne (tgt := 32) hx hb dX2_countBelow_26 (by decide) (fun c4 => ?_) (fun c4 => ?_)
          · have h := g_if h c4
            obtain ⟨w7, e_w7⟩ : ∃ y : Int32, y = x3 + 1 := ⟨_, rfl⟩
            have h := g_let2 e_w7 h
            refine lv_iinc (v := w7) (lv' := [(3, .int w7), (0, .ref (xN X + t)), (1, .int a1), (2, .int x2)]) hx hb dX2_countBelow_32 hl (k := 3) rfl (by rw [e_w7]; rfl) (by decide) rfl (fun ls hl => ?_)
            refine lv_goto (tgt := 4) hx hb dX2_countBelow_35 (by decide) ?_
            exact ih _ _ _ x2 w7 G (lv_sub hl [1, 2, 3, 0] rfl) h
          · have h := g_it h c4
            obtain ⟨w5, e_w5⟩ : ∃ y : Int32, y = x2 + 1 := ⟨_, rfl⟩
            have h := g_let2 e_w5 h
            refine lv_iinc (v := w5) (lv' := [(2, .int w5), (0, .ref (xN X + t)), (1, .int a1), (3, .int x3)]) hx hb dX2_countBelow_29 hl (k := 2) rfl (by rw [e_w5]; rfl) (by decide) rfl (fun ls hl => ?_)
            obtain ⟨w6, e_w6⟩ : ∃ y : Int32, y = x3 + 1 := ⟨_, rfl⟩
            have h := g_let2 e_w6 h
            refine lv_iinc (v := w6) (lv' := [(3, .int w6), (2, .int w5), (0, .ref (xN X + t)), (1, .int a1)]) hx hb dX2_countBelow_32 hl (k := 3) rfl (by rw [e_w6]; rfl) (by decide) rfl (fun ls hl => ?_)
            refine lv_goto (tgt := 4) hx hb dX2_countBelow_35 (by decide) ?_
            exact ih _ _ _ w5 w6 G (lv_sub hl [2, 3, 1, 0] rfl) h
  unfold fX2_countBelow at h
  refine lv_iconst (v := 0) hx hb dX2_countBelow_0 (by decide) ?_
  refine lv_istore_n (lv' := [(2, .int 0), (0, .ref (xN X + t)), (1, .int a1)]) hx hb dX2_countBelow_1 rfl hl (by decide) rfl (fun ls hl => ?_)
  refine lv_iconst (v := 0) hx hb dX2_countBelow_2 (by decide) ?_
  refine lv_istore_n (lv' := [(3, .int 0), (2, .int 0), (0, .ref (xN X + t)), (1, .int a1)]) hx hb dX2_countBelow_3 rfl hl (by decide) rfl (fun ls hl => ?_)
  exact L4  gF _ _ _ 0 0 G (lv_sub hl [2, 3, 1, 0] rfl) h

def fX2_groupOf (σ : gM) (t : Nat) (a1 : Int32) : Option (Int32) :=
  ((fX5_get σ (t + 1) a1).bind fun v1 =>
  ((fX2_countBelow σ t v1).bind fun v2 =>
  some v2))
set_option maxHeartbeats 4000000 in
set_option maxRecDepth 100000 in
theorem mX2_groupOf (l : Launch) (X : gX) (σ : gM) (t : Nat) (a1 : Int32) (r : Int32) (ok : gok2 X t) (h : fX2_groupOf σ t a1 = some r) : Met l yX2_groupOf (Cond.code yX2_groupOf cX2_groupOf 2 (some .int) :: gBig) ({ frames := 2, cells := 0, slots := 0, locals := 44 }) (gPc X σ [.ref (xN X + t), .int a1]) (gQi X σ r) 0 0 (xA X) := by
  refine g_meti (cc := cX2_groupOf) (maxL := 2) (own := RX2) (by decide) rfl rfl (Nat.le_of_ble_eq_true rfl) ?_
  intro p ev s m args below meth c Q C G ret ls hl
  obtain ⟨⟨hx, hb, hml, hown, hts⟩, hK⟩ := id C
  have hl : lv_has ls 2 [(0, .ref (xN X + t)), (1, .int a1)] := hl
  unfold fX2_groupOf at h
  refine lv_aload_n hx hb dX2_groupOf_0 rfl (lv_at hl 0 rfl) ?_
  refine lv_aload_n hx hb dX2_groupOf_1 rfl (lv_at hl 0 rfl) ?_
  refine gg2_0 C G ok.1 ok.2.1 u_fl_RX2_14 dX2_groupOf_2 ?_
  refine lv_iload_n hx hb dX2_groupOf_5 rfl (lv_at hl 1 rfl) ?_
  obtain ⟨v1, e_v1, h⟩ := g_bind h
  refine g_calli (g_runV (n := 1) (As := [.int a1]) (rest := [.ref (xN X + t)]) C G (mX5_get l X σ (t + 1) a1 v1 ok.2.2 e_v1) ok.2.2.1.2 (gE_5 ok.2.2.1.1) rfl (g_goodV u_ml_RX2_61 u_im_yX5_get u_se_yX5_get u_in_RX5 u_co_yX5_get) rfl rfl rfl (by decide +kernel) ⟨Nat.le_of_ble_eq_true rfl, Nat.le_of_ble_eq_true rfl⟩ rfl hl.1 rfl (Nat.le_of_ble_eq_true rfl) dX2_groupOf_6 ⟨Nat.zero_le _, Nat.zero_le _⟩) G (fun H locs G => ?_)
  obtain ⟨v2, e_v2, h⟩ := g_bind h
  refine g_calli (g_runV (n := 1) (As := [.int v1]) (rest := []) C G (mX2_countBelow l X σ t v1 v2 ok e_v2) ok.1.2 (gE_2 ok.1.1) rfl (g_goodV u_ml_RX2_70 u_im_yX2_countBelow u_se_yX2_countBelow u_in_RX2 u_co_yX2_countBelow) rfl rfl rfl (by decide +kernel) ⟨Nat.le_of_ble_eq_true rfl, Nat.le_of_ble_eq_true rfl⟩ rfl hl.1 rfl (Nat.le_of_ble_eq_true rfl) dX2_groupOf_9 ⟨Nat.zero_le _, Nat.zero_le _⟩) G (fun H locs G => ?_)
  exact ret dX2_groupOf_12 rfl G ⟨Option.some.inj h, rfl⟩

def fX0_verdictOnPage (σ : gM) (t : Nat) (a1 : Int32) (a2 : Int32) : Option (Int32) :=
  ((fX4_placeOf σ (t + 8) a1).bind fun v1 =>
  (if v1 = (-1) then
    some (-1)
  else
    ((fX4_orientationOf σ (t + 8) a1).bind fun v3 =>
    ((fX0_verdict σ t a1 v1 v3 a2).bind fun v4 =>
    some v4))))
set_option maxHeartbeats 4000000 in
set_option maxRecDepth 100000 in
theorem mX0_verdictOnPage (l : Launch) (X : gX) (σ : gM) (t : Nat) (a1 : Int32) (a2 : Int32) (r : Int32) (ok : gok0 X t) (h : fX0_verdictOnPage σ t a1 a2 = some r) : Met l yX0_verdictOnPage (Cond.code yX0_verdictOnPage cX0_verdictOnPage 4 (some .int) :: gBig) ({ frames := 3, cells := 0, slots := 0, locals := 75 }) (gPc X σ [.ref (xN X + t), .int a1, .int a2]) (gQi X σ r) 0 0 (xA X) := by
  refine g_meti (cc := cX0_verdictOnPage) (maxL := 4) (own := RX0) (by decide) rfl rfl (Nat.le_of_ble_eq_true rfl) ?_
  intro p ev s m args below meth c Q C G ret ls hl
  obtain ⟨⟨hx, hb, hml, hown, hts⟩, hK⟩ := id C
  have hl : lv_has ls 4 [(0, .ref (xN X + t)), (1, .int a1), (2, .int a2)] := hl
  unfold fX0_verdictOnPage at h
  refine lv_aload_n hx hb dX0_verdictOnPage_0 rfl (lv_at hl 0 rfl) ?_
  refine gg0_1 C G ok.1 ok.2.1.2 u_fl_RX0_21 dX0_verdictOnPage_1 ?_
  refine lv_iload_n hx hb dX0_verdictOnPage_4 rfl (lv_at hl 1 rfl) ?_
  obtain ⟨v1, e_v1, h⟩ := g_bind h
  refine g_calli (g_runV (n := 1) (As := [.int a1]) (rest := []) C G (mX4_placeOf l X σ (t + 8) a1 v1 ok.2.2.2 e_v1) ok.2.2.2.1.2 (gE_4 ok.2.2.2.1.1) rfl (g_goodV u_ml_RX0_77 u_im_yX4_placeOf u_se_yX4_placeOf u_in_RX4 u_co_yX4_placeOf) rfl rfl rfl (by decide +kernel) ⟨Nat.le_of_ble_eq_true rfl, Nat.le_of_ble_eq_true rfl⟩ rfl hl.1 rfl (Nat.le_of_ble_eq_true rfl) dX0_verdictOnPage_5 ⟨Nat.zero_le _, Nat.zero_le _⟩) G (fun H locs G => ?_)
  refine lv_istore_n (lv' := [(3, .int v1), (0, .ref (xN X + t)), (1, .int a1), (2, .int a2)]) hx hb dX0_verdictOnPage_8 rfl hl (by decide) rfl (fun ls hl => ?_)
  refine lv_iload_n hx hb dX0_verdictOnPage_9 rfl (lv_at hl 0 rfl) ?_
  refine lv_iconst (v := (-1)) hx hb dX0_verdictOnPage_10 (by decide) ?_
  refine lv_icmp_ne (tgt := 18) hx hb dX0_verdictOnPage_11 (by decide) (fun c2 => ?_) (fun c2 => ?_)
  · have h := g_if h c2
    refine lv_aload_n hx hb dX0_verdictOnPage_18 rfl (lv_at hl 1 rfl) ?_
    refine lv_iload_n hx hb dX0_verdictOnPage_19 rfl (lv_at hl 2 rfl) ?_
    refine lv_iload_n hx hb dX0_verdictOnPage_20 rfl (lv_at hl 0 rfl) ?_
    refine lv_aload_n hx hb dX0_verdictOnPage_21 rfl (lv_at hl 1 rfl) ?_
    refine gg0_1 C G ok.1 ok.2.1.2 u_fl_RX0_21 dX0_verdictOnPage_22 ?_
    refine lv_iload_n hx hb dX0_verdictOnPage_25 rfl (lv_at hl 2 rfl) ?_
    obtain ⟨v3, e_v3, h⟩ := g_bind h
    refine g_calli (g_runV (n := 1) (As := [.int a1]) (rest := [.int v1, .int a1, .ref (xN X + t)]) C G (mX4_orientationOf l X σ (t + 8) a1 v3 ok.2.2.2 e_v3) ok.2.2.2.1.2 (gE_4 ok.2.2.2.1.1) rfl (g_goodV u_ml_RX0_57 u_im_yX4_orientationOf u_se_yX4_orientationOf u_in_RX4 u_co_yX4_orientationOf) rfl rfl rfl (by decide +kernel) ⟨Nat.le_of_ble_eq_true rfl, Nat.le_of_ble_eq_true rfl⟩ rfl hl.1 rfl (Nat.le_of_ble_eq_true rfl) dX0_verdictOnPage_26 ⟨Nat.zero_le _, Nat.zero_le _⟩) G (fun H locs G => ?_)
    refine lv_iload_n hx hb dX0_verdictOnPage_29 rfl (lv_at hl 3 rfl) ?_
    obtain ⟨v4, e_v4, h⟩ := g_bind h
    refine g_calli (g_runV (n := 4) (As := [.int a1, .int v1, .int v3, .int a2]) (rest := []) C G (mX0_verdict l X σ t a1 v1 v3 a2 v4 ok e_v4) ok.1.2 (gE_0 ok.1.1) rfl (g_goodV u_ml_RX0_63 u_im_yX0_verdict u_se_yX0_verdict u_in_RX0 u_co_yX0_verdict) rfl rfl rfl (by decide +kernel) ⟨Nat.le_of_ble_eq_true rfl, Nat.le_of_ble_eq_true rfl⟩ rfl hl.1 rfl (Nat.le_of_ble_eq_true rfl) dX0_verdictOnPage_30 ⟨Nat.zero_le _, Nat.zero_le _⟩) G (fun H locs G => ?_)
    exact ret dX0_verdictOnPage_33 rfl G ⟨Option.some.inj h, rfl⟩
  · have h := g_it h c2
    refine lv_iconst (v := (-1)) hx hb dX0_verdictOnPage_14 (by decide) ?_
    refine lv_goto (tgt := 33) hx hb dX0_verdictOnPage_15 (by decide) ?_
    exact ret dX0_verdictOnPage_33 rfl G ⟨Option.some.inj h, rfl⟩

def fX0_countFits_4 (σ : gM) (t : Nat) (a1 : Int32) : Nat → Int32 → Int32 → Option (Int32)
  | 0, _, _ => none
  | n + 1, x2, x3 =>
    (if 4 ≤ x3 then
      some x2
    else
      ((fX0_verdictOnPage σ t a1 x3).bind fun v2 =>
      (if v2 = 0 then
        (gl (x2 + 1) fun w4 =>
        (gl (x3 + 1) fun w5 =>
        fX0_countFits_4 σ t a1 n w4 w5))
      else
        (gl (x3 + 1) fun w6 =>
        fX0_countFits_4 σ t a1 n x2 w6))))

def fX0_countFits (σ : gM) (t : Nat) (a1 : Int32) : Option (Int32) :=
  fX0_countFits_4 σ t a1 gF 0 0
set_option maxHeartbeats 4000000 in
set_option maxRecDepth 100000 in
theorem mX0_countFits (l : Launch) (X : gX) (σ : gM) (t : Nat) (a1 : Int32) (r : Int32) (ok : gok0 X t) (h : fX0_countFits σ t a1 = some r) : Met l yX0_countFits (Cond.code yX0_countFits cX0_countFits 4 (some .int) :: gBig) ({ frames := 4, cells := 0, slots := 0, locals := 98 }) (gPc X σ [.ref (xN X + t), .int a1]) (gQi X σ r) 0 0 (xA X) := by
  refine g_meti (cc := cX0_countFits) (maxL := 4) (own := RX0) (by decide) rfl rfl (Nat.le_of_ble_eq_true rfl) ?_
  intro p ev s m args below meth c Q C G ret ls hl
  obtain ⟨⟨hx, hb, hml, hown, hts⟩, hK⟩ := id C
  have hl : lv_has ls 4 [(0, .ref (xN X + t)), (1, .int a1)] := hl
  have L4 : ∀ (n : Nat) (H : Heap) (locs : List Loc) (ls : Array Slot) (x2 : Int32) (x3 : Int32), gG X σ s H locs → lv_has ls 4 [(0, .ref (xN X + t)), (1, .int a1), (2, .int x2), (3, .int x3)] → fX0_countFits_4 σ t a1 n x2 x3 = some r → W p l ev ({ frames := 4, cells := 0, slots := 0, locals := 98 }) s m args below meth c H locs 0 0 Q (F0 m 4 ls []) := by
    intro n
    induction n with
    | zero =>
      intro H locs ls x2 x3 G hl h
      rw [fX0_countFits_4] at h
      cases h
    | succ n ih =>
      intro H locs ls x2 x3 G hl h
      rw [fX0_countFits_4] at h
      refine lv_iload_n hx hb dX0_countFits_4 rfl (lv_at hl 3 rfl) ?_
      refine lv_iconst (v := 4) hx hb dX0_countFits_5 (by decide) ?_
      refine lv_icmp_ge (tgt := 27) hx hb dX0_countFits_6 (by decide) (fun c1 => ?_) (fun c1 => ?_)
      · have h := g_it h c1
        refine lv_iload_n hx hb dX0_countFits_27 rfl (lv_at hl 2 rfl) ?_
        exact ret dX0_countFits_28 rfl G ⟨Option.some.inj h, rfl⟩
      · have h := g_if h c1
        refine lv_aload_n hx hb dX0_countFits_9 rfl (lv_at hl 0 rfl) ?_
        refine lv_iload_n hx hb dX0_countFits_10 rfl (lv_at hl 1 rfl) ?_
        refine lv_iload_n hx hb dX0_countFits_11 rfl (lv_at hl 3 rfl) ?_
        obtain ⟨v2, e_v2, h⟩ := g_bind h
        refine g_calli (g_runV (n := 2) (As := [.int a1, .int x3]) (rest := []) C G (mX0_verdictOnPage l X σ t a1 x3 v2 ok e_v2) ok.1.2 (gE_0 ok.1.1) rfl (g_goodV u_ml_RX0_74 u_im_yX0_verdictOnPage u_se_yX0_verdictOnPage u_in_RX0 u_co_yX0_verdictOnPage) rfl rfl rfl (by decide +kernel) ⟨Nat.le_of_ble_eq_true rfl, Nat.le_of_ble_eq_true rfl⟩ rfl hl.1 rfl (Nat.le_of_ble_eq_true rfl) dX0_countFits_12 ⟨Nat.zero_le _, Nat.zero_le _⟩) G (fun H locs G => ?_)
        refine lv_if_ne (tgt := 21) hx hb dX0_countFits_15 (by decide) (fun c3 => ?_) (fun c3 => ?_)
        · have h := g_if h c3
          obtain ⟨w6, e_w6⟩ : ∃ y : Int32, y = x3 + 1 := ⟨_, rfl⟩
          have h := g_let2 e_w6 h
          refine lv_iinc (v := w6) (lv' := [(3, .int w6), (0, .ref (xN X + t)), (1, .int a1), (2, .int x2)]) hx hb dX0_countFits_21 hl (k := 3) rfl (by rw [e_w6]; rfl) (by decide) rfl (fun ls hl => ?_)
          refine lv_goto (tgt := 4) hx hb dX0_countFits_24 (by decide) ?_
          exact ih _ _ _ x2 w6 G (lv_sub hl [1, 2, 3, 0] rfl) h
        · have h := g_it h c3
          obtain ⟨w4, e_w4⟩ : ∃ y : Int32, y = x2 + 1 := ⟨_, rfl⟩
          have h := g_let2 e_w4 h
          refine lv_iinc (v := w4) (lv' := [(2, .int w4), (0, .ref (xN X + t)), (1, .int a1), (3, .int x3)]) hx hb dX0_countFits_18 hl (k := 2) rfl (by rw [e_w4]; rfl) (by decide) rfl (fun ls hl => ?_)
          obtain ⟨w5, e_w5⟩ : ∃ y : Int32, y = x3 + 1 := ⟨_, rfl⟩
          have h := g_let2 e_w5 h
          refine lv_iinc (v := w5) (lv' := [(3, .int w5), (2, .int w4), (0, .ref (xN X + t)), (1, .int a1)]) hx hb dX0_countFits_21 hl (k := 3) rfl (by rw [e_w5]; rfl) (by decide) rfl (fun ls hl => ?_)
          refine lv_goto (tgt := 4) hx hb dX0_countFits_24 (by decide) ?_
          exact ih _ _ _ w4 w5 G (lv_sub hl [2, 3, 1, 0] rfl) h
  unfold fX0_countFits at h
  refine lv_iconst (v := 0) hx hb dX0_countFits_0 (by decide) ?_
  refine lv_istore_n (lv' := [(2, .int 0), (0, .ref (xN X + t)), (1, .int a1)]) hx hb dX0_countFits_1 rfl hl (by decide) rfl (fun ls hl => ?_)
  refine lv_iconst (v := 0) hx hb dX0_countFits_2 (by decide) ?_
  refine lv_istore_n (lv' := [(3, .int 0), (2, .int 0), (0, .ref (xN X + t)), (1, .int a1)]) hx hb dX0_countFits_3 rfl hl (by decide) rfl (fun ls hl => ?_)
  exact L4  gF _ _ _ 0 0 G (lv_sub hl [2, 3, 1, 0] rfl) h

def fX0_countFaults_4 (σ : gM) (t : Nat) (a1 : Int32) : Nat → Int32 → Int32 → Option (Int32)
  | 0, _, _ => none
  | n + 1, x2, x3 =>
    (if 4 ≤ x3 then
      some x2
    else
      ((fX0_verdictOnPage σ t a1 x3).bind fun v2 =>
      (if v2 ≤ 0 then
        (gl (x3 + 1) fun w4 =>
        fX0_countFaults_4 σ t a1 n x2 w4)
      else
        (gl (x2 + 1) fun w5 =>
        (gl (x3 + 1) fun w6 =>
        fX0_countFaults_4 σ t a1 n w5 w6)))))

def fX0_countFaults (σ : gM) (t : Nat) (a1 : Int32) : Option (Int32) :=
  fX0_countFaults_4 σ t a1 gF 0 0
set_option maxHeartbeats 4000000 in
set_option maxRecDepth 100000 in
theorem mX0_countFaults (l : Launch) (X : gX) (σ : gM) (t : Nat) (a1 : Int32) (r : Int32) (ok : gok0 X t) (h : fX0_countFaults σ t a1 = some r) : Met l yX0_countFaults (Cond.code yX0_countFaults cX0_countFaults 4 (some .int) :: gBig) ({ frames := 4, cells := 0, slots := 0, locals := 98 }) (gPc X σ [.ref (xN X + t), .int a1]) (gQi X σ r) 0 0 (xA X) := by
  refine g_meti (cc := cX0_countFaults) (maxL := 4) (own := RX0) (by decide) rfl rfl (Nat.le_of_ble_eq_true rfl) ?_
  intro p ev s m args below meth c Q C G ret ls hl
  obtain ⟨⟨hx, hb, hml, hown, hts⟩, hK⟩ := id C
  have hl : lv_has ls 4 [(0, .ref (xN X + t)), (1, .int a1)] := hl
  have L4 : ∀ (n : Nat) (H : Heap) (locs : List Loc) (ls : Array Slot) (x2 : Int32) (x3 : Int32), gG X σ s H locs → lv_has ls 4 [(0, .ref (xN X + t)), (1, .int a1), (2, .int x2), (3, .int x3)] → fX0_countFaults_4 σ t a1 n x2 x3 = some r → W p l ev ({ frames := 4, cells := 0, slots := 0, locals := 98 }) s m args below meth c H locs 0 0 Q (F0 m 4 ls []) := by
    intro n
    induction n with
    | zero =>
      intro H locs ls x2 x3 G hl h
      rw [fX0_countFaults_4] at h
      cases h
    | succ n ih =>
      intro H locs ls x2 x3 G hl h
      rw [fX0_countFaults_4] at h
      refine lv_iload_n hx hb dX0_countFaults_4 rfl (lv_at hl 3 rfl) ?_
      refine lv_iconst (v := 4) hx hb dX0_countFaults_5 (by decide) ?_
      refine lv_icmp_ge (tgt := 27) hx hb dX0_countFaults_6 (by decide) (fun c1 => ?_) (fun c1 => ?_)
      · have h := g_it h c1
        refine lv_iload_n hx hb dX0_countFaults_27 rfl (lv_at hl 2 rfl) ?_
        exact ret dX0_countFaults_28 rfl G ⟨Option.some.inj h, rfl⟩
      · have h := g_if h c1
        refine lv_aload_n hx hb dX0_countFaults_9 rfl (lv_at hl 0 rfl) ?_
        refine lv_iload_n hx hb dX0_countFaults_10 rfl (lv_at hl 1 rfl) ?_
        refine lv_iload_n hx hb dX0_countFaults_11 rfl (lv_at hl 3 rfl) ?_
        obtain ⟨v2, e_v2, h⟩ := g_bind h
        refine g_calli (g_runV (n := 2) (As := [.int a1, .int x3]) (rest := []) C G (mX0_verdictOnPage l X σ t a1 x3 v2 ok e_v2) ok.1.2 (gE_0 ok.1.1) rfl (g_goodV u_ml_RX0_74 u_im_yX0_verdictOnPage u_se_yX0_verdictOnPage u_in_RX0 u_co_yX0_verdictOnPage) rfl rfl rfl (by decide +kernel) ⟨Nat.le_of_ble_eq_true rfl, Nat.le_of_ble_eq_true rfl⟩ rfl hl.1 rfl (Nat.le_of_ble_eq_true rfl) dX0_countFaults_12 ⟨Nat.zero_le _, Nat.zero_le _⟩) G (fun H locs G => ?_)
        refine lv_if_le (tgt := 21) hx hb dX0_countFaults_15 (by decide) (fun c3 => ?_) (fun c3 => ?_)
        · have h := g_it h c3
          obtain ⟨w4, e_w4⟩ : ∃ y : Int32, y = x3 + 1 := ⟨_, rfl⟩
          have h := g_let2 e_w4 h
          refine lv_iinc (v := w4) (lv' := [(3, .int w4), (0, .ref (xN X + t)), (1, .int a1), (2, .int x2)]) hx hb dX0_countFaults_21 hl (k := 3) rfl (by rw [e_w4]; rfl) (by decide) rfl (fun ls hl => ?_)
          refine lv_goto (tgt := 4) hx hb dX0_countFaults_24 (by decide) ?_
          exact ih _ _ _ x2 w4 G (lv_sub hl [1, 2, 3, 0] rfl) h
        · have h := g_if h c3
          obtain ⟨w5, e_w5⟩ : ∃ y : Int32, y = x2 + 1 := ⟨_, rfl⟩
          have h := g_let2 e_w5 h
          refine lv_iinc (v := w5) (lv' := [(2, .int w5), (0, .ref (xN X + t)), (1, .int a1), (3, .int x3)]) hx hb dX0_countFaults_18 hl (k := 2) rfl (by rw [e_w5]; rfl) (by decide) rfl (fun ls hl => ?_)
          obtain ⟨w6, e_w6⟩ : ∃ y : Int32, y = x3 + 1 := ⟨_, rfl⟩
          have h := g_let2 e_w6 h
          refine lv_iinc (v := w6) (lv' := [(3, .int w6), (2, .int w5), (0, .ref (xN X + t)), (1, .int a1)]) hx hb dX0_countFaults_21 hl (k := 3) rfl (by rw [e_w6]; rfl) (by decide) rfl (fun ls hl => ?_)
          refine lv_goto (tgt := 4) hx hb dX0_countFaults_24 (by decide) ?_
          exact ih _ _ _ w5 w6 G (lv_sub hl [2, 3, 1, 0] rfl) h
  unfold fX0_countFaults at h
  refine lv_iconst (v := 0) hx hb dX0_countFaults_0 (by decide) ?_
  refine lv_istore_n (lv' := [(2, .int 0), (0, .ref (xN X + t)), (1, .int a1)]) hx hb dX0_countFaults_1 rfl hl (by decide) rfl (fun ls hl => ?_)
  refine lv_iconst (v := 0) hx hb dX0_countFaults_2 (by decide) ?_
  refine lv_istore_n (lv' := [(3, .int 0), (2, .int 0), (0, .ref (xN X + t)), (1, .int a1)]) hx hb dX0_countFaults_3 rfl hl (by decide) rfl (fun ls hl => ?_)
  exact L4  gF _ _ _ 0 0 G (lv_sub hl [2, 3, 1, 0] rfl) h

def fX8_scrap (σ : gM) (t : Nat) (a1 : Int32) (a2 : Int32) : Option (Int32 × gM) :=
  ((fX8_isScrap σ t a1).bind fun v1 =>
  (if v1 = 0 then
    some ((-1001), σ)
  else
    ((fX8_isWithin σ a2 0 5).bind fun v3 =>
    (if v3 = 0 then
      some ((-1001), σ)
    else
      (if a2 ≤ 1 then
        (if a2 = 0 then
          ((fX6_kind σ ((t + 1) + 1) a1).bind fun v7 =>
          some (v7, σ))
        else if a2 = 1 then
          ((fX4_orientationOf σ ((t + 1) + 8) a1).bind fun v9 =>
          some (v9, σ))
        else if a2 = 2 then
          ((fX4_placeOf σ ((t + 1) + 8) a1).bind fun v11 =>
          some (v11, σ))
        else if a2 = 3 then
          ((fX2_gather σ (t + 108) (t + 1)).bind fun σ14 =>
          ((fX2_groupOf σ14 (t + 108) a1).bind fun v15 =>
          some (v15, σ14)))
        else if a2 = 4 then
          ((fX0_countFits σ (t + 1) a1).bind fun v17 =>
          some (v17, σ))
        else 
          ((fX0_countFaults σ (t + 1) a1).bind fun v18 =>
          some (v18, σ)))
      else
        ((fX4_lies σ ((t + 1) + 8) a1).bind fun v19 =>
        (if v19 = 0 then
          some ((-1004), σ)
        else
          (if a2 = 0 then
            ((fX6_kind σ ((t + 1) + 1) a1).bind fun v22 =>
            some (v22, σ))
          else if a2 = 1 then
            ((fX4_orientationOf σ ((t + 1) + 8) a1).bind fun v24 =>
            some (v24, σ))
          else if a2 = 2 then
            ((fX4_placeOf σ ((t + 1) + 8) a1).bind fun v26 =>
            some (v26, σ))
          else if a2 = 3 then
            ((fX2_gather σ (t + 108) (t + 1)).bind fun σ29 =>
            ((fX2_groupOf σ29 (t + 108) a1).bind fun v30 =>
            some (v30, σ29)))
          else if a2 = 4 then
            ((fX0_countFits σ (t + 1) a1).bind fun v32 =>
            some (v32, σ))
          else 
            ((fX0_countFaults σ (t + 1) a1).bind fun v33 =>
            some (v33, σ))))))))))
set_option maxHeartbeats 4000000 in
set_option maxRecDepth 100000 in
theorem mX8_scrap (l : Launch) (X : gX) (σ σ' : gM) (t : Nat) (a1 : Int32) (a2 : Int32) (r : Int32) (ok : gok8 X t) (h : fX8_scrap σ t a1 a2 = some (r, σ')) : Met l yX8_scrap (Cond.code yX8_scrap cX8_scrap 3 (some .int) :: gBig) ({ frames := 6, cells := 0, slots := 0, locals := 146 }) (gPc X σ [.ref (xN X + t), .int a1, .int a2]) (gQi X σ' r) 0 0 (xA X) := by
  refine g_meti (cc := cX8_scrap) (maxL := 3) (own := RX8) (by decide) rfl rfl (Nat.le_of_ble_eq_true rfl) ?_
  intro p ev s m args below meth c Q C G ret ls hl
  obtain ⟨⟨hx, hb, hml, hown, hts⟩, hK⟩ := id C
  have hl : lv_has ls 3 [(0, .ref (xN X + t)), (1, .int a1), (2, .int a2)] := hl
  unfold fX8_scrap at h
  refine lv_aload_n hx hb dX8_scrap_0 rfl (lv_at hl 0 rfl) ?_
  refine lv_iload_n hx hb dX8_scrap_1 rfl (lv_at hl 1 rfl) ?_
  obtain ⟨v1, e_v1, h⟩ := g_bind h
  refine g_calli (g_runV (n := 1) (As := [.int a1]) (rest := []) C G (mX8_isScrap l X σ t a1 v1 ok e_v1) ok.1.2 (gE_8 ok.1.1) rfl (g_goodV u_ml_RX8_104 u_im_yX8_isScrap u_se_yX8_isScrap u_in_RX8 u_co_yX8_isScrap) rfl rfl rfl (by decide +kernel) ⟨Nat.le_of_ble_eq_true rfl, Nat.le_of_ble_eq_true rfl⟩ rfl hl.1 rfl (Nat.le_of_ble_eq_true rfl) dX8_scrap_2 ⟨Nat.zero_le _, Nat.zero_le _⟩) G (fun H locs G => ?_)
  refine lv_if_eq (tgt := 17) hx hb dX8_scrap_5 (by decide) (fun c2 => ?_) (fun c2 => ?_)
  · have h := g_it h c2
    refine lv_sipush (v := (-1001)) hx hb dX8_scrap_17 (by decide) ?_
    exact ret dX8_scrap_20 rfl G (Prod.mk.inj (Option.some.inj h))
  · have h := g_if h c2
    refine lv_iload_n hx hb dX8_scrap_8 rfl (lv_at hl 2 rfl) ?_
    refine lv_iconst (v := 0) hx hb dX8_scrap_9 (by decide) ?_
    refine lv_iconst (v := 5) hx hb dX8_scrap_10 (by decide) ?_
    obtain ⟨v3, e_v3, h⟩ := g_bind h
    refine g_calli (g_runS (n := 3) (As := [.int a2, .int 0, .int 5]) (rest := []) C G (mX8_isWithin l X σ a2 0 5 v3 e_v3) (g_goodS u_ml_RX8_47 u_st_yX8_isWithin u_in_RX8 u_co_yX8_isWithin) rfl rfl rfl (by decide +kernel) ⟨Nat.le_of_ble_eq_true rfl, Nat.le_of_ble_eq_true rfl⟩ rfl hl.1 rfl (Nat.le_of_ble_eq_true rfl) dX8_scrap_11 ⟨Nat.zero_le _, Nat.zero_le _⟩) G (fun H locs G => ?_)
    refine lv_if_ne (tgt := 21) hx hb dX8_scrap_14 (by decide) (fun c4 => ?_) (fun c4 => ?_)
    · have h := g_if h c4
      refine lv_iload_n hx hb dX8_scrap_21 rfl (lv_at hl 2 rfl) ?_
      refine lv_iconst (v := 1) hx hb dX8_scrap_22 (by decide) ?_
      refine lv_icmp_le (tgt := 44) hx hb dX8_scrap_23 (by decide) (fun c5 => ?_) (fun c5 => ?_)
      · have h := g_it h c5
        refine lv_iload_n hx hb dX8_scrap_44 rfl (lv_at hl 2 rfl) ?_
        by_cases c6 : a2 = 0
        · have h := g_it h c6
          refine lv_tableIn (off := 35) (tgt := 80) hx hb dX8_scrap_45 (by rw [c6]; decide) (by rw [c6]; decide) (by rw [c6]; rfl) (by decide) ?_
          refine lv_aload_n hx hb dX8_scrap_80 rfl (lv_at hl 0 rfl) ?_
          refine gg8_0 C G ok.1 ok.2.1.1 u_fl_RX8_10 dX8_scrap_81 ?_
          refine gn0_0 C G ok.2.2.1.1 ok.2.2.1.2.1.1 (List.mem_of_getElem? (i := 1) rfl) dX8_scrap_84 ?_
          refine lv_iload_n hx hb dX8_scrap_87 rfl (lv_at hl 1 rfl) ?_
          obtain ⟨v7, e_v7, h⟩ := g_bind h
          refine g_calli (g_runV (n := 1) (As := [.int a1]) (rest := []) C G (mX6_kind l X σ ((t + 1) + 1) a1 v7 ok.2.2.1.2.2.1 e_v7) ok.2.2.1.2.2.1.1.2 (gE_6 ok.2.2.1.2.2.1.1.1) rfl (g_goodV u_ml_RX8_113 u_im_yX6_kind u_se_yX6_kind u_in_RX6 u_co_yX6_kind) rfl rfl rfl (by decide +kernel) ⟨Nat.le_of_ble_eq_true rfl, Nat.le_of_ble_eq_true rfl⟩ rfl hl.1 rfl (Nat.le_of_ble_eq_true rfl) dX8_scrap_88 ⟨Nat.zero_le _, Nat.zero_le _⟩) G (fun H locs G => ?_)
          exact ret dX8_scrap_91 rfl G (Prod.mk.inj (Option.some.inj h))
        have h := g_if h c6
        by_cases c8 : a2 = 1
        · have h := g_it h c8
          refine lv_tableIn (off := 47) (tgt := 92) hx hb dX8_scrap_45 (by rw [c8]; decide) (by rw [c8]; decide) (by rw [c8]; rfl) (by decide) ?_
          refine lv_aload_n hx hb dX8_scrap_92 rfl (lv_at hl 0 rfl) ?_
          refine gg8_0 C G ok.1 ok.2.1.1 u_fl_RX8_10 dX8_scrap_93 ?_
          refine gn0_1 C G ok.2.2.1.1 ok.2.2.1.2.1.2 (List.mem_of_getElem? (i := 3) rfl) dX8_scrap_96 ?_
          refine lv_iload_n hx hb dX8_scrap_99 rfl (lv_at hl 1 rfl) ?_
          obtain ⟨v9, e_v9, h⟩ := g_bind h
          refine g_calli (g_runV (n := 1) (As := [.int a1]) (rest := []) C G (mX4_orientationOf l X σ ((t + 1) + 8) a1 v9 ok.2.2.1.2.2.2 e_v9) ok.2.2.1.2.2.2.1.2 (gE_4 ok.2.2.1.2.2.2.1.1) rfl (g_goodV u_ml_RX8_117 u_im_yX4_orientationOf u_se_yX4_orientationOf u_in_RX4 u_co_yX4_orientationOf) rfl rfl rfl (by decide +kernel) ⟨Nat.le_of_ble_eq_true rfl, Nat.le_of_ble_eq_true rfl⟩ rfl hl.1 rfl (Nat.le_of_ble_eq_true rfl) dX8_scrap_100 ⟨Nat.zero_le _, Nat.zero_le _⟩) G (fun H locs G => ?_)
          exact ret dX8_scrap_103 rfl G (Prod.mk.inj (Option.some.inj h))
        have h := g_if h c8
        by_cases c10 : a2 = 2
        · have h := g_it h c10
          refine lv_tableIn (off := 59) (tgt := 104) hx hb dX8_scrap_45 (by rw [c10]; decide) (by rw [c10]; decide) (by rw [c10]; rfl) (by decide) ?_
          refine lv_aload_n hx hb dX8_scrap_104 rfl (lv_at hl 0 rfl) ?_
          refine gg8_0 C G ok.1 ok.2.1.1 u_fl_RX8_10 dX8_scrap_105 ?_
          refine gn0_1 C G ok.2.2.1.1 ok.2.2.1.2.1.2 (List.mem_of_getElem? (i := 3) rfl) dX8_scrap_108 ?_
          refine lv_iload_n hx hb dX8_scrap_111 rfl (lv_at hl 1 rfl) ?_
          obtain ⟨v11, e_v11, h⟩ := g_bind h
          refine g_calli (g_runV (n := 1) (As := [.int a1]) (rest := []) C G (mX4_placeOf l X σ ((t + 1) + 8) a1 v11 ok.2.2.1.2.2.2 e_v11) ok.2.2.1.2.2.2.1.2 (gE_4 ok.2.2.1.2.2.2.1.1) rfl (g_goodV u_ml_RX8_120 u_im_yX4_placeOf u_se_yX4_placeOf u_in_RX4 u_co_yX4_placeOf) rfl rfl rfl (by decide +kernel) ⟨Nat.le_of_ble_eq_true rfl, Nat.le_of_ble_eq_true rfl⟩ rfl hl.1 rfl (Nat.le_of_ble_eq_true rfl) dX8_scrap_112 ⟨Nat.zero_le _, Nat.zero_le _⟩) G (fun H locs G => ?_)
          exact ret dX8_scrap_115 rfl G (Prod.mk.inj (Option.some.inj h))
        have h := g_if h c10
        by_cases c12 : a2 = 3
        · have h := g_it h c12
          refine lv_tableIn (off := 71) (tgt := 116) hx hb dX8_scrap_45 (by rw [c12]; decide) (by rw [c12]; decide) (by rw [c12]; rfl) (by decide) ?_
          refine lv_aload_n hx hb dX8_scrap_116 rfl (lv_at hl 0 rfl) ?_
          refine gg8_3 C G ok.1 ok.2.1.2.2.2.1 u_fl_RX8_29 dX8_scrap_117 ?_
          refine lv_aload_n hx hb dX8_scrap_120 rfl (lv_at hl 0 rfl) ?_
          refine gg8_0 C G ok.1 ok.2.1.1 u_fl_RX8_10 dX8_scrap_121 ?_
          obtain ⟨σ14, e_σ14, h⟩ := g_bind h
          refine g_callv (g_runV (n := 1) (As := [.ref (xN X + (t + 1))]) (rest := []) C G (mX2_gather l X σ σ14 (t + 108) (t + 1) ok.2.2.2.2.2.1 ok.2.2.1 e_σ14) ok.2.2.2.2.2.1.1.2 (gE_2 ok.2.2.2.2.2.1.1.1) rfl (g_goodV u_ml_RX8_123 u_im_yX2_gather u_se_yX2_gather u_in_RX2 u_co_yX2_gather) rfl rfl rfl (by decide +kernel) ⟨Nat.le_of_ble_eq_true rfl, Nat.le_of_ble_eq_true rfl⟩ rfl hl.1 rfl (Nat.le_of_ble_eq_true rfl) dX8_scrap_124 ⟨Nat.zero_le _, Nat.zero_le _⟩) G (fun H locs G => ?_)
          refine lv_aload_n hx hb dX8_scrap_127 rfl (lv_at hl 0 rfl) ?_
          refine gg8_3 C G ok.1 ok.2.1.2.2.2.1 u_fl_RX8_29 dX8_scrap_128 ?_
          refine lv_iload_n hx hb dX8_scrap_131 rfl (lv_at hl 1 rfl) ?_
          obtain ⟨v15, e_v15, h⟩ := g_bind h
          refine g_calli (g_runV (n := 1) (As := [.int a1]) (rest := []) C G (mX2_groupOf l X σ14 (t + 108) a1 v15 ok.2.2.2.2.2.1 e_v15) ok.2.2.2.2.2.1.1.2 (gE_2 ok.2.2.2.2.2.1.1.1) rfl (g_goodV u_ml_RX8_126 u_im_yX2_groupOf u_se_yX2_groupOf u_in_RX2 u_co_yX2_groupOf) rfl rfl rfl (by decide +kernel) ⟨Nat.le_of_ble_eq_true rfl, Nat.le_of_ble_eq_true rfl⟩ rfl hl.1 rfl (Nat.le_of_ble_eq_true rfl) dX8_scrap_132 ⟨Nat.zero_le _, Nat.zero_le _⟩) G (fun H locs G => ?_)
          exact ret dX8_scrap_135 rfl G (Prod.mk.inj (Option.some.inj h))
        have h := g_if h c12
        by_cases c16 : a2 = 4
        · have h := g_it h c16
          refine lv_tableIn (off := 91) (tgt := 136) hx hb dX8_scrap_45 (by rw [c16]; decide) (by rw [c16]; decide) (by rw [c16]; rfl) (by decide) ?_
          refine lv_aload_n hx hb dX8_scrap_136 rfl (lv_at hl 0 rfl) ?_
          refine gg8_0 C G ok.1 ok.2.1.1 u_fl_RX8_10 dX8_scrap_137 ?_
          refine lv_iload_n hx hb dX8_scrap_140 rfl (lv_at hl 1 rfl) ?_
          obtain ⟨v17, e_v17, h⟩ := g_bind h
          refine g_calli (g_runV (n := 1) (As := [.int a1]) (rest := []) C G (mX0_countFits l X σ (t + 1) a1 v17 ok.2.2.1 e_v17) ok.2.2.1.1.2 (gE_0 ok.2.2.1.1.1) rfl (g_goodV u_ml_RX8_129 u_im_yX0_countFits u_se_yX0_countFits u_in_RX0 u_co_yX0_countFits) rfl rfl rfl (by decide +kernel) ⟨Nat.le_of_ble_eq_true rfl, Nat.le_of_ble_eq_true rfl⟩ rfl hl.1 rfl (Nat.le_of_ble_eq_true rfl) dX8_scrap_141 ⟨Nat.zero_le _, Nat.zero_le _⟩) G (fun H locs G => ?_)
          exact ret dX8_scrap_144 rfl G (Prod.mk.inj (Option.some.inj h))
        have h := g_if h c16
        refine lv_tableOut (tgt := 145) hx hb dX8_scrap_45 (by have q0 := lv_neT c6 (a := 0) (by decide); have q1 := lv_neT c8 (a := 1) (by decide); have q2 := lv_neT c10 (a := 2) (by decide); have q3 := lv_neT c12 (a := 3) (by decide); have q4 := lv_neT c16 (a := 4) (by decide); omega) (by decide) ?_
        refine lv_aload_n hx hb dX8_scrap_145 rfl (lv_at hl 0 rfl) ?_
        refine gg8_0 C G ok.1 ok.2.1.1 u_fl_RX8_10 dX8_scrap_146 ?_
        refine lv_iload_n hx hb dX8_scrap_149 rfl (lv_at hl 1 rfl) ?_
        obtain ⟨v18, e_v18, h⟩ := g_bind h
        refine g_calli (g_runV (n := 1) (As := [.int a1]) (rest := []) C G (mX0_countFaults l X σ (t + 1) a1 v18 ok.2.2.1 e_v18) ok.2.2.1.1.2 (gE_0 ok.2.2.1.1.1) rfl (g_goodV u_ml_RX8_132 u_im_yX0_countFaults u_se_yX0_countFaults u_in_RX0 u_co_yX0_countFaults) rfl rfl rfl (by decide +kernel) ⟨Nat.le_of_ble_eq_true rfl, Nat.le_of_ble_eq_true rfl⟩ rfl hl.1 rfl (Nat.le_of_ble_eq_true rfl) dX8_scrap_150 ⟨Nat.zero_le _, Nat.zero_le _⟩) G (fun H locs G => ?_)
        exact ret dX8_scrap_153 rfl G (Prod.mk.inj (Option.some.inj h))
      · have h := g_if h c5
        refine lv_aload_n hx hb dX8_scrap_26 rfl (lv_at hl 0 rfl) ?_
        refine gg8_0 C G ok.1 ok.2.1.1 u_fl_RX8_10 dX8_scrap_27 ?_
        refine gn0_1 C G ok.2.2.1.1 ok.2.2.1.2.1.2 (List.mem_of_getElem? (i := 3) rfl) dX8_scrap_30 ?_
        refine lv_iload_n hx hb dX8_scrap_33 rfl (lv_at hl 1 rfl) ?_
        obtain ⟨v19, e_v19, h⟩ := g_bind h
        refine g_calli (g_runV (n := 1) (As := [.int a1]) (rest := []) C G (mX4_lies l X σ ((t + 1) + 8) a1 v19 ok.2.2.1.2.2.2 e_v19) ok.2.2.1.2.2.2.1.2 (gE_4 ok.2.2.1.2.2.2.1.1) rfl (g_goodV u_ml_RX8_110 u_im_yX4_lies u_se_yX4_lies u_in_RX4 u_co_yX4_lies) rfl rfl rfl (by decide +kernel) ⟨Nat.le_of_ble_eq_true rfl, Nat.le_of_ble_eq_true rfl⟩ rfl hl.1 rfl (Nat.le_of_ble_eq_true rfl) dX8_scrap_34 ⟨Nat.zero_le _, Nat.zero_le _⟩) G (fun H locs G => ?_)
        refine lv_if_ne (tgt := 44) hx hb dX8_scrap_37 (by decide) (fun c20 => ?_) (fun c20 => ?_)
        · have h := g_if h c20
          refine lv_iload_n hx hb dX8_scrap_44 rfl (lv_at hl 2 rfl) ?_
          by_cases c21 : a2 = 0
          · have h := g_it h c21
            refine lv_tableIn (off := 35) (tgt := 80) hx hb dX8_scrap_45 (by rw [c21]; decide) (by rw [c21]; decide) (by rw [c21]; rfl) (by decide) ?_
            refine lv_aload_n hx hb dX8_scrap_80 rfl (lv_at hl 0 rfl) ?_
            refine gg8_0 C G ok.1 ok.2.1.1 u_fl_RX8_10 dX8_scrap_81 ?_
            refine gn0_0 C G ok.2.2.1.1 ok.2.2.1.2.1.1 (List.mem_of_getElem? (i := 1) rfl) dX8_scrap_84 ?_
            refine lv_iload_n hx hb dX8_scrap_87 rfl (lv_at hl 1 rfl) ?_
            obtain ⟨v22, e_v22, h⟩ := g_bind h
            refine g_calli (g_runV (n := 1) (As := [.int a1]) (rest := []) C G (mX6_kind l X σ ((t + 1) + 1) a1 v22 ok.2.2.1.2.2.1 e_v22) ok.2.2.1.2.2.1.1.2 (gE_6 ok.2.2.1.2.2.1.1.1) rfl (g_goodV u_ml_RX8_113 u_im_yX6_kind u_se_yX6_kind u_in_RX6 u_co_yX6_kind) rfl rfl rfl (by decide +kernel) ⟨Nat.le_of_ble_eq_true rfl, Nat.le_of_ble_eq_true rfl⟩ rfl hl.1 rfl (Nat.le_of_ble_eq_true rfl) dX8_scrap_88 ⟨Nat.zero_le _, Nat.zero_le _⟩) G (fun H locs G => ?_)
            exact ret dX8_scrap_91 rfl G (Prod.mk.inj (Option.some.inj h))
          have h := g_if h c21
          by_cases c23 : a2 = 1
          · have h := g_it h c23
            refine lv_tableIn (off := 47) (tgt := 92) hx hb dX8_scrap_45 (by rw [c23]; decide) (by rw [c23]; decide) (by rw [c23]; rfl) (by decide) ?_
            refine lv_aload_n hx hb dX8_scrap_92 rfl (lv_at hl 0 rfl) ?_
            refine gg8_0 C G ok.1 ok.2.1.1 u_fl_RX8_10 dX8_scrap_93 ?_
            refine gn0_1 C G ok.2.2.1.1 ok.2.2.1.2.1.2 (List.mem_of_getElem? (i := 3) rfl) dX8_scrap_96 ?_
            refine lv_iload_n hx hb dX8_scrap_99 rfl (lv_at hl 1 rfl) ?_
            obtain ⟨v24, e_v24, h⟩ := g_bind h
            refine g_calli (g_runV (n := 1) (As := [.int a1]) (rest := []) C G (mX4_orientationOf l X σ ((t + 1) + 8) a1 v24 ok.2.2.1.2.2.2 e_v24) ok.2.2.1.2.2.2.1.2 (gE_4 ok.2.2.1.2.2.2.1.1) rfl (g_goodV u_ml_RX8_117 u_im_yX4_orientationOf u_se_yX4_orientationOf u_in_RX4 u_co_yX4_orientationOf) rfl rfl rfl (by decide +kernel) ⟨Nat.le_of_ble_eq_true rfl, Nat.le_of_ble_eq_true rfl⟩ rfl hl.1 rfl (Nat.le_of_ble_eq_true rfl) dX8_scrap_100 ⟨Nat.zero_le _, Nat.zero_le _⟩) G (fun H locs G => ?_)
            exact ret dX8_scrap_103 rfl G (Prod.mk.inj (Option.some.inj h))
          have h := g_if h c23
          by_cases c25 : a2 = 2
          · have h := g_it h c25
            refine lv_tableIn (off := 59) (tgt := 104) hx hb dX8_scrap_45 (by rw [c25]; decide) (by rw [c25]; decide) (by rw [c25]; rfl) (by decide) ?_
            refine lv_aload_n hx hb dX8_scrap_104 rfl (lv_at hl 0 rfl) ?_
            refine gg8_0 C G ok.1 ok.2.1.1 u_fl_RX8_10 dX8_scrap_105 ?_
            refine gn0_1 C G ok.2.2.1.1 ok.2.2.1.2.1.2 (List.mem_of_getElem? (i := 3) rfl) dX8_scrap_108 ?_
            refine lv_iload_n hx hb dX8_scrap_111 rfl (lv_at hl 1 rfl) ?_
            obtain ⟨v26, e_v26, h⟩ := g_bind h
            refine g_calli (g_runV (n := 1) (As := [.int a1]) (rest := []) C G (mX4_placeOf l X σ ((t + 1) + 8) a1 v26 ok.2.2.1.2.2.2 e_v26) ok.2.2.1.2.2.2.1.2 (gE_4 ok.2.2.1.2.2.2.1.1) rfl (g_goodV u_ml_RX8_120 u_im_yX4_placeOf u_se_yX4_placeOf u_in_RX4 u_co_yX4_placeOf) rfl rfl rfl (by decide +kernel) ⟨Nat.le_of_ble_eq_true rfl, Nat.le_of_ble_eq_true rfl⟩ rfl hl.1 rfl (Nat.le_of_ble_eq_true rfl) dX8_scrap_112 ⟨Nat.zero_le _, Nat.zero_le _⟩) G (fun H locs G => ?_)
            exact ret dX8_scrap_115 rfl G (Prod.mk.inj (Option.some.inj h))
          have h := g_if h c25
          by_cases c27 : a2 = 3
          · have h := g_it h c27
            refine lv_tableIn (off := 71) (tgt := 116) hx hb dX8_scrap_45 (by rw [c27]; decide) (by rw [c27]; decide) (by rw [c27]; rfl) (by decide) ?_
            refine lv_aload_n hx hb dX8_scrap_116 rfl (lv_at hl 0 rfl) ?_
            refine gg8_3 C G ok.1 ok.2.1.2.2.2.1 u_fl_RX8_29 dX8_scrap_117 ?_
            refine lv_aload_n hx hb dX8_scrap_120 rfl (lv_at hl 0 rfl) ?_
            refine gg8_0 C G ok.1 ok.2.1.1 u_fl_RX8_10 dX8_scrap_121 ?_
            obtain ⟨σ29, e_σ29, h⟩ := g_bind h
            refine g_callv (g_runV (n := 1) (As := [.ref (xN X + (t + 1))]) (rest := []) C G (mX2_gather l X σ σ29 (t + 108) (t + 1) ok.2.2.2.2.2.1 ok.2.2.1 e_σ29) ok.2.2.2.2.2.1.1.2 (gE_2 ok.2.2.2.2.2.1.1.1) rfl (g_goodV u_ml_RX8_123 u_im_yX2_gather u_se_yX2_gather u_in_RX2 u_co_yX2_gather) rfl rfl rfl (by decide +kernel) ⟨Nat.le_of_ble_eq_true rfl, Nat.le_of_ble_eq_true rfl⟩ rfl hl.1 rfl (Nat.le_of_ble_eq_true rfl) dX8_scrap_124 ⟨Nat.zero_le _, Nat.zero_le _⟩) G (fun H locs G => ?_)
            refine lv_aload_n hx hb dX8_scrap_127 rfl (lv_at hl 0 rfl) ?_
            refine gg8_3 C G ok.1 ok.2.1.2.2.2.1 u_fl_RX8_29 dX8_scrap_128 ?_
            refine lv_iload_n hx hb dX8_scrap_131 rfl (lv_at hl 1 rfl) ?_
            obtain ⟨v30, e_v30, h⟩ := g_bind h
            refine g_calli (g_runV (n := 1) (As := [.int a1]) (rest := []) C G (mX2_groupOf l X σ29 (t + 108) a1 v30 ok.2.2.2.2.2.1 e_v30) ok.2.2.2.2.2.1.1.2 (gE_2 ok.2.2.2.2.2.1.1.1) rfl (g_goodV u_ml_RX8_126 u_im_yX2_groupOf u_se_yX2_groupOf u_in_RX2 u_co_yX2_groupOf) rfl rfl rfl (by decide +kernel) ⟨Nat.le_of_ble_eq_true rfl, Nat.le_of_ble_eq_true rfl⟩ rfl hl.1 rfl (Nat.le_of_ble_eq_true rfl) dX8_scrap_132 ⟨Nat.zero_le _, Nat.zero_le _⟩) G (fun H locs G => ?_)
            exact ret dX8_scrap_135 rfl G (Prod.mk.inj (Option.some.inj h))
          have h := g_if h c27
          by_cases c31 : a2 = 4
          · have h := g_it h c31
            refine lv_tableIn (off := 91) (tgt := 136) hx hb dX8_scrap_45 (by rw [c31]; decide) (by rw [c31]; decide) (by rw [c31]; rfl) (by decide) ?_
            refine lv_aload_n hx hb dX8_scrap_136 rfl (lv_at hl 0 rfl) ?_
            refine gg8_0 C G ok.1 ok.2.1.1 u_fl_RX8_10 dX8_scrap_137 ?_
            refine lv_iload_n hx hb dX8_scrap_140 rfl (lv_at hl 1 rfl) ?_
            obtain ⟨v32, e_v32, h⟩ := g_bind h
            refine g_calli (g_runV (n := 1) (As := [.int a1]) (rest := []) C G (mX0_countFits l X σ (t + 1) a1 v32 ok.2.2.1 e_v32) ok.2.2.1.1.2 (gE_0 ok.2.2.1.1.1) rfl (g_goodV u_ml_RX8_129 u_im_yX0_countFits u_se_yX0_countFits u_in_RX0 u_co_yX0_countFits) rfl rfl rfl (by decide +kernel) ⟨Nat.le_of_ble_eq_true rfl, Nat.le_of_ble_eq_true rfl⟩ rfl hl.1 rfl (Nat.le_of_ble_eq_true rfl) dX8_scrap_141 ⟨Nat.zero_le _, Nat.zero_le _⟩) G (fun H locs G => ?_)
            exact ret dX8_scrap_144 rfl G (Prod.mk.inj (Option.some.inj h))
          have h := g_if h c31
          refine lv_tableOut (tgt := 145) hx hb dX8_scrap_45 (by have q0 := lv_neT c21 (a := 0) (by decide); have q1 := lv_neT c23 (a := 1) (by decide); have q2 := lv_neT c25 (a := 2) (by decide); have q3 := lv_neT c27 (a := 3) (by decide); have q4 := lv_neT c31 (a := 4) (by decide); omega) (by decide) ?_
          refine lv_aload_n hx hb dX8_scrap_145 rfl (lv_at hl 0 rfl) ?_
          refine gg8_0 C G ok.1 ok.2.1.1 u_fl_RX8_10 dX8_scrap_146 ?_
          refine lv_iload_n hx hb dX8_scrap_149 rfl (lv_at hl 1 rfl) ?_
          obtain ⟨v33, e_v33, h⟩ := g_bind h
          refine g_calli (g_runV (n := 1) (As := [.int a1]) (rest := []) C G (mX0_countFaults l X σ (t + 1) a1 v33 ok.2.2.1 e_v33) ok.2.2.1.1.2 (gE_0 ok.2.2.1.1.1) rfl (g_goodV u_ml_RX8_132 u_im_yX0_countFaults u_se_yX0_countFaults u_in_RX0 u_co_yX0_countFaults) rfl rfl rfl (by decide +kernel) ⟨Nat.le_of_ble_eq_true rfl, Nat.le_of_ble_eq_true rfl⟩ rfl hl.1 rfl (Nat.le_of_ble_eq_true rfl) dX8_scrap_150 ⟨Nat.zero_le _, Nat.zero_le _⟩) G (fun H locs G => ?_)
          exact ret dX8_scrap_153 rfl G (Prod.mk.inj (Option.some.inj h))
        · have h := g_it h c20
          refine lv_sipush (v := (-1004)) hx hb dX8_scrap_40 (by decide) ?_
          exact ret dX8_scrap_43 rfl G (Prod.mk.inj (Option.some.inj h))
    · have h := g_it h c4
      refine lv_sipush (v := (-1001)) hx hb dX8_scrap_17 (by decide) ?_
      exact ret dX8_scrap_20 rfl G (Prod.mk.inj (Option.some.inj h))

def fX8_isOrientation (σ : gM) (a1 : Int32) : Option (Int32) :=
  ((fX8_isWithin σ a1 0 7).bind fun v1 =>
  (if v1 = 0 ∨ v1 = 1 then
  some v1
  else none))
set_option maxHeartbeats 4000000 in
set_option maxRecDepth 100000 in
theorem mX8_isOrientation (l : Launch) (X : gX) (σ : gM) (a1 : Int32) (r : Int32) (h : fX8_isOrientation σ a1 = some r) : Met l yX8_isOrientation (Cond.code yX8_isOrientation cX8_isOrientation 1 (some .boolean) :: gBig) ({ frames := 1, cells := 0, slots := 0, locals := 22 }) (gPc X σ [.int a1]) (gQi X σ r) 0 0 (xA X) := by
  refine g_meti (cc := cX8_isOrientation) (maxL := 1) (own := RX8) (by decide) rfl rfl (Nat.le_of_ble_eq_true rfl) ?_
  intro p ev s m args below meth c Q C G ret ls hl
  obtain ⟨⟨hx, hb, hml, hown, hts⟩, hK⟩ := id C
  have hl : lv_has ls 1 [(0, .int a1)] := hl
  unfold fX8_isOrientation at h
  refine lv_iload_n hx hb dX8_isOrientation_0 rfl (lv_at hl 0 rfl) ?_
  refine lv_iconst (v := 0) hx hb dX8_isOrientation_1 (by decide) ?_
  refine lv_bipush (v := 7) hx hb dX8_isOrientation_2 (by decide) ?_
  obtain ⟨v1, e_v1, h⟩ := g_bind h
  refine g_calli (g_runS (n := 3) (As := [.int a1, .int 0, .int 7]) (rest := []) C G (mX8_isWithin l X σ a1 0 7 v1 e_v1) (g_goodS u_ml_RX8_47 u_st_yX8_isWithin u_in_RX8 u_co_yX8_isWithin) rfl rfl rfl (by decide +kernel) ⟨Nat.le_of_ble_eq_true rfl, Nat.le_of_ble_eq_true rfl⟩ rfl hl.1 rfl (Nat.le_of_ble_eq_true rfl) dX8_isOrientation_4 ⟨Nat.zero_le _, Nat.zero_le _⟩) G (fun H locs G => ?_)
  obtain ⟨c2, h⟩ := g_chk h
  exact ret dX8_isOrientation_7 (g_z c2) G ⟨Option.some.inj h, rfl⟩

def fX8_isEdge (σ : gM) (a1 : Int32) : Option (Int32) :=
  ((fX8_isWithin σ a1 0 3).bind fun v1 =>
  (if v1 = 0 ∨ v1 = 1 then
  some v1
  else none))
set_option maxHeartbeats 4000000 in
set_option maxRecDepth 100000 in
theorem mX8_isEdge (l : Launch) (X : gX) (σ : gM) (a1 : Int32) (r : Int32) (h : fX8_isEdge σ a1 = some r) : Met l yX8_isEdge (Cond.code yX8_isEdge cX8_isEdge 1 (some .boolean) :: gBig) ({ frames := 1, cells := 0, slots := 0, locals := 22 }) (gPc X σ [.int a1]) (gQi X σ r) 0 0 (xA X) := by
  refine g_meti (cc := cX8_isEdge) (maxL := 1) (own := RX8) (by decide) rfl rfl (Nat.le_of_ble_eq_true rfl) ?_
  intro p ev s m args below meth c Q C G ret ls hl
  obtain ⟨⟨hx, hb, hml, hown, hts⟩, hK⟩ := id C
  have hl : lv_has ls 1 [(0, .int a1)] := hl
  unfold fX8_isEdge at h
  refine lv_iload_n hx hb dX8_isEdge_0 rfl (lv_at hl 0 rfl) ?_
  refine lv_iconst (v := 0) hx hb dX8_isEdge_1 (by decide) ?_
  refine lv_iconst (v := 3) hx hb dX8_isEdge_2 (by decide) ?_
  obtain ⟨v1, e_v1, h⟩ := g_bind h
  refine g_calli (g_runS (n := 3) (As := [.int a1, .int 0, .int 3]) (rest := []) C G (mX8_isWithin l X σ a1 0 3 v1 e_v1) (g_goodS u_ml_RX8_47 u_st_yX8_isWithin u_in_RX8 u_co_yX8_isWithin) rfl rfl rfl (by decide +kernel) ⟨Nat.le_of_ble_eq_true rfl, Nat.le_of_ble_eq_true rfl⟩ rfl hl.1 rfl (Nat.le_of_ble_eq_true rfl) dX8_isEdge_3 ⟨Nat.zero_le _, Nat.zero_le _⟩) G (fun H locs G => ?_)
  obtain ⟨c2, h⟩ := g_chk h
  exact ret dX8_isEdge_6 (g_z c2) G ⟨Option.some.inj h, rfl⟩

def fX8_edge (σ : gM) (t : Nat) (a1 : Int32) (a2 : Int32) (a3 : Int32) (a4 : Int32) : Option (Int32) :=
  ((fX8_isScrap σ t a1).bind fun v1 =>
  (if v1 = 0 then
    some (-1001)
  else
    ((fX8_isOrientation σ a2).bind fun v3 =>
    (if v3 = 0 then
      some (-1001)
    else
      ((fX8_isEdge σ a3).bind fun v5 =>
      (if v5 = 0 then
        some (-1001)
      else
        ((fX8_isWithin σ a4 0 1).bind fun v7 =>
        (if v7 = 0 then
          some (-1001)
        else
          (if a4 = 0 then
            ((fX6_profile σ ((t + 1) + 1) a1 a2 a3).bind fun v10 =>
            some v10)
          else
            ((fX6_line σ ((t + 1) + 1) a1 a2 a3).bind fun v11 =>
            some v11))))))))))
set_option maxHeartbeats 4000000 in
set_option maxRecDepth 100000 in
theorem mX8_edge (l : Launch) (X : gX) (σ : gM) (t : Nat) (a1 : Int32) (a2 : Int32) (a3 : Int32) (a4 : Int32) (r : Int32) (ok : gok8 X t) (h : fX8_edge σ t a1 a2 a3 a4 = some r) : Met l yX8_edge (Cond.code yX8_edge cX8_edge 5 (some .int) :: gBig) ({ frames := 2, cells := 0, slots := 0, locals := 44 }) (gPc X σ [.ref (xN X + t), .int a1, .int a2, .int a3, .int a4]) (gQi X σ r) 0 0 (xA X) := by
  refine g_meti (cc := cX8_edge) (maxL := 5) (own := RX8) (by decide) rfl rfl (Nat.le_of_ble_eq_true rfl) ?_
  intro p ev s m args below meth c Q C G ret ls hl
  obtain ⟨⟨hx, hb, hml, hown, hts⟩, hK⟩ := id C
  have hl : lv_has ls 5 [(0, .ref (xN X + t)), (1, .int a1), (2, .int a2), (3, .int a3), (4, .int a4)] := hl
  unfold fX8_edge at h
  refine lv_aload_n hx hb dX8_edge_0 rfl (lv_at hl 0 rfl) ?_
  refine lv_iload_n hx hb dX8_edge_1 rfl (lv_at hl 1 rfl) ?_
  obtain ⟨v1, e_v1, h⟩ := g_bind h
  refine g_calli (g_runV (n := 1) (As := [.int a1]) (rest := []) C G (mX8_isScrap l X σ t a1 v1 ok e_v1) ok.1.2 (gE_8 ok.1.1) rfl (g_goodV u_ml_RX8_104 u_im_yX8_isScrap u_se_yX8_isScrap u_in_RX8 u_co_yX8_isScrap) rfl rfl rfl (by decide +kernel) ⟨Nat.le_of_ble_eq_true rfl, Nat.le_of_ble_eq_true rfl⟩ rfl hl.1 rfl (Nat.le_of_ble_eq_true rfl) dX8_edge_2 ⟨Nat.zero_le _, Nat.zero_le _⟩) G (fun H locs G => ?_)
  refine lv_if_eq (tgt := 32) hx hb dX8_edge_5 (by decide) (fun c2 => ?_) (fun c2 => ?_)
  · have h := g_it h c2
    refine lv_sipush (v := (-1001)) hx hb dX8_edge_32 (by decide) ?_
    exact ret dX8_edge_35 rfl G ⟨Option.some.inj h, rfl⟩
  · have h := g_if h c2
    refine lv_iload_n hx hb dX8_edge_8 rfl (lv_at hl 2 rfl) ?_
    obtain ⟨v3, e_v3, h⟩ := g_bind h
    refine g_calli (g_runS (n := 1) (As := [.int a2]) (rest := []) C G (mX8_isOrientation l X σ a2 v3 e_v3) (g_goodS u_ml_RX8_135 u_st_yX8_isOrientation u_in_RX8 u_co_yX8_isOrientation) rfl rfl rfl (by decide +kernel) ⟨Nat.le_of_ble_eq_true rfl, Nat.le_of_ble_eq_true rfl⟩ rfl hl.1 rfl (Nat.le_of_ble_eq_true rfl) dX8_edge_9 ⟨Nat.zero_le _, Nat.zero_le _⟩) G (fun H locs G => ?_)
    refine lv_if_eq (tgt := 32) hx hb dX8_edge_12 (by decide) (fun c4 => ?_) (fun c4 => ?_)
    · have h := g_it h c4
      refine lv_sipush (v := (-1001)) hx hb dX8_edge_32 (by decide) ?_
      exact ret dX8_edge_35 rfl G ⟨Option.some.inj h, rfl⟩
    · have h := g_if h c4
      refine lv_iload_n hx hb dX8_edge_15 rfl (lv_at hl 3 rfl) ?_
      obtain ⟨v5, e_v5, h⟩ := g_bind h
      refine g_calli (g_runS (n := 1) (As := [.int a3]) (rest := []) C G (mX8_isEdge l X σ a3 v5 e_v5) (g_goodS u_ml_RX8_138 u_st_yX8_isEdge u_in_RX8 u_co_yX8_isEdge) rfl rfl rfl (by decide +kernel) ⟨Nat.le_of_ble_eq_true rfl, Nat.le_of_ble_eq_true rfl⟩ rfl hl.1 rfl (Nat.le_of_ble_eq_true rfl) dX8_edge_16 ⟨Nat.zero_le _, Nat.zero_le _⟩) G (fun H locs G => ?_)
      refine lv_if_eq (tgt := 32) hx hb dX8_edge_19 (by decide) (fun c6 => ?_) (fun c6 => ?_)
      · have h := g_it h c6
        refine lv_sipush (v := (-1001)) hx hb dX8_edge_32 (by decide) ?_
        exact ret dX8_edge_35 rfl G ⟨Option.some.inj h, rfl⟩
      · have h := g_if h c6
        refine lv_iload hx hb dX8_edge_22 (lv_at hl 4 rfl) ?_
        refine lv_iconst (v := 0) hx hb dX8_edge_24 (by decide) ?_
        refine lv_iconst (v := 1) hx hb dX8_edge_25 (by decide) ?_
        obtain ⟨v7, e_v7, h⟩ := g_bind h
        refine g_calli (g_runS (n := 3) (As := [.int a4, .int 0, .int 1]) (rest := []) C G (mX8_isWithin l X σ a4 0 1 v7 e_v7) (g_goodS u_ml_RX8_47 u_st_yX8_isWithin u_in_RX8 u_co_yX8_isWithin) rfl rfl rfl (by decide +kernel) ⟨Nat.le_of_ble_eq_true rfl, Nat.le_of_ble_eq_true rfl⟩ rfl hl.1 rfl (Nat.le_of_ble_eq_true rfl) dX8_edge_26 ⟨Nat.zero_le _, Nat.zero_le _⟩) G (fun H locs G => ?_)
        refine lv_if_ne (tgt := 36) hx hb dX8_edge_29 (by decide) (fun c8 => ?_) (fun c8 => ?_)
        · have h := g_if h c8
          refine lv_iload hx hb dX8_edge_36 (lv_at hl 4 rfl) ?_
          refine lv_if_ne (tgt := 57) hx hb dX8_edge_38 (by decide) (fun c9 => ?_) (fun c9 => ?_)
          · have h := g_if h c9
            refine lv_aload_n hx hb dX8_edge_57 rfl (lv_at hl 0 rfl) ?_
            refine gg8_0 C G ok.1 ok.2.1.1 u_fl_RX8_10 dX8_edge_58 ?_
            refine gn0_0 C G ok.2.2.1.1 ok.2.2.1.2.1.1 (List.mem_of_getElem? (i := 1) rfl) dX8_edge_61 ?_
            refine lv_iload_n hx hb dX8_edge_64 rfl (lv_at hl 1 rfl) ?_
            refine lv_iload_n hx hb dX8_edge_65 rfl (lv_at hl 2 rfl) ?_
            refine lv_iload_n hx hb dX8_edge_66 rfl (lv_at hl 3 rfl) ?_
            obtain ⟨v11, e_v11, h⟩ := g_bind h
            refine g_calli (g_runV (n := 3) (As := [.int a1, .int a2, .int a3]) (rest := []) C G (mX6_line l X σ ((t + 1) + 1) a1 a2 a3 v11 ok.2.2.1.2.2.1 e_v11) ok.2.2.1.2.2.1.1.2 (gE_6 ok.2.2.1.2.2.1.1.1) rfl (g_goodV u_ml_RX8_145 u_im_yX6_line u_se_yX6_line u_in_RX6 u_co_yX6_line) rfl rfl rfl (by decide +kernel) ⟨Nat.le_of_ble_eq_true rfl, Nat.le_of_ble_eq_true rfl⟩ rfl hl.1 rfl (Nat.le_of_ble_eq_true rfl) dX8_edge_67 ⟨Nat.zero_le _, Nat.zero_le _⟩) G (fun H locs G => ?_)
            exact ret dX8_edge_70 rfl G ⟨Option.some.inj h, rfl⟩
          · have h := g_it h c9
            refine lv_aload_n hx hb dX8_edge_41 rfl (lv_at hl 0 rfl) ?_
            refine gg8_0 C G ok.1 ok.2.1.1 u_fl_RX8_10 dX8_edge_42 ?_
            refine gn0_0 C G ok.2.2.1.1 ok.2.2.1.2.1.1 (List.mem_of_getElem? (i := 1) rfl) dX8_edge_45 ?_
            refine lv_iload_n hx hb dX8_edge_48 rfl (lv_at hl 1 rfl) ?_
            refine lv_iload_n hx hb dX8_edge_49 rfl (lv_at hl 2 rfl) ?_
            refine lv_iload_n hx hb dX8_edge_50 rfl (lv_at hl 3 rfl) ?_
            obtain ⟨v10, e_v10, h⟩ := g_bind h
            refine g_calli (g_runV (n := 3) (As := [.int a1, .int a2, .int a3]) (rest := []) C G (mX6_profile l X σ ((t + 1) + 1) a1 a2 a3 v10 ok.2.2.1.2.2.1 e_v10) ok.2.2.1.2.2.1.1.2 (gE_6 ok.2.2.1.2.2.1.1.1) rfl (g_goodV u_ml_RX8_141 u_im_yX6_profile u_se_yX6_profile u_in_RX6 u_co_yX6_profile) rfl rfl rfl (by decide +kernel) ⟨Nat.le_of_ble_eq_true rfl, Nat.le_of_ble_eq_true rfl⟩ rfl hl.1 rfl (Nat.le_of_ble_eq_true rfl) dX8_edge_51 ⟨Nat.zero_le _, Nat.zero_le _⟩) G (fun H locs G => ?_)
            refine lv_goto (tgt := 70) hx hb dX8_edge_54 (by decide) ?_
            exact ret dX8_edge_70 rfl G ⟨Option.some.inj h, rfl⟩
        · have h := g_it h c8
          refine lv_sipush (v := (-1001)) hx hb dX8_edge_32 (by decide) ?_
          exact ret dX8_edge_35 rfl G ⟨Option.some.inj h, rfl⟩

def fX3_size (σ : gM) (t : Nat) : Option (Int32) :=
  some (σ t 2)
set_option maxHeartbeats 4000000 in
set_option maxRecDepth 100000 in
theorem mX3_size (l : Launch) (X : gX) (σ : gM) (t : Nat) (r : Int32) (ok : gok3 X t) (h : fX3_size σ t = some r) : Met l yX3_size (Cond.code yX3_size cX3_size 1 (some .int) :: gBig) ({ frames := 0, cells := 0, slots := 0, locals := 0 }) (gPc X σ [.ref (xN X + t)]) (gQi X σ r) 0 0 (xA X) := by
  refine g_meti (cc := cX3_size) (maxL := 1) (own := RX3) (by decide) rfl rfl (Nat.le_of_ble_eq_true rfl) ?_
  intro p ev s m args below meth c Q C G ret ls hl
  obtain ⟨⟨hx, hb, hml, hown, hts⟩, hK⟩ := id C
  have hl : lv_has ls 1 [(0, .ref (xN X + t))] := hl
  unfold fX3_size at h
  refine lv_aload_n hx hb dX3_size_0 rfl (lv_at hl 0 rfl) ?_
  refine gg3_2 C G ok.1 u_fl_RX3_18 dX3_size_1 ?_
  exact ret dX3_size_4 rfl G ⟨Option.some.inj h, rfl⟩

def fX3_restore (σ : gM) (t : Nat) (o1 : Nat) : Option (gM) :=
  ((fX3_state σ t ((σ t 2) - 1)).bind fun v1 =>
  (go v1 (
    some σ)
    fun k2 =>
    ((fX0_copy σ o1 k2).bind fun σ4 =>
    (gl (gset σ4 t (upd (σ4 t) 2 ((σ4 t 2) - 1))) fun σ5 =>
    some σ5))))
set_option maxHeartbeats 4000000 in
set_option maxRecDepth 100000 in
theorem mX3_restore (l : Launch) (X : gX) (σ σ' : gM) (t : Nat) (o1 : Nat) (ok : gok3 X t) (ok1 : gok0 X o1) (h : fX3_restore σ t o1 = some σ') : Met l yX3_restore (Cond.code yX3_restore cX3_restore 3 none :: gBig) ({ frames := 4, cells := 0, slots := 0, locals := 128 }) (gPc X σ [.ref (xN X + t), .ref (xN X + o1)]) (gQv X σ') 0 0 (xA X) := by
  refine g_metv (cc := cX3_restore) (maxL := 3) (own := RX3) (by decide) rfl rfl (Nat.le_of_ble_eq_true rfl) ?_
  intro p ev s m args below meth c Q C G ret ls hl
  obtain ⟨⟨hx, hb, hml, hown, hts⟩, hK⟩ := id C
  have hl : lv_has ls 3 [(0, .ref (xN X + t)), (1, .ref (xN X + o1))] := hl
  unfold fX3_restore at h
  refine lv_aload_n hx hb dX3_restore_0 rfl (lv_at hl 0 rfl) ?_
  refine lv_aload_n hx hb dX3_restore_1 rfl (lv_at hl 0 rfl) ?_
  refine gg3_2 C G ok.1 u_fl_RX3_18 dX3_restore_2 ?_
  refine lv_iconst (v := 1) hx hb dX3_restore_5 (by decide) ?_
  refine lv_isub hx hb dX3_restore_6 ?_
  obtain ⟨v1, e_v1, h⟩ := g_bind h
  refine g_callr (g_runV (n := 1) (As := [.int ((σ t 2) - 1)]) (rest := []) C G (mX3_state l X σ t ((σ t 2) - 1) v1 ok e_v1) ok.1.2 (gE_3 ok.1.1) rfl (g_goodV u_ml_RX3_25 u_im_yX3_state u_se_yX3_state u_in_RX3 u_co_yX3_state) rfl rfl rfl (by decide +kernel) ⟨Nat.le_of_ble_eq_true rfl, Nat.le_of_ble_eq_true rfl⟩ rfl hl.1 rfl (Nat.le_of_ble_eq_true rfl) dX3_restore_7 ⟨Nat.zero_le _, Nat.zero_le _⟩) G (fun H locs G => ?_)
  cases v1 with
  | none =>
    have h := g_gon h
    refine lv_astore_nN (lv' := [(2, .null), (0, .ref (xN X + t)), (1, .ref (xN X + o1))]) hx hb dX3_restore_10 rfl hl (by decide) rfl (fun ls hl => ?_)
    refine lv_aload_nN hx hb dX3_restore_11 rfl (lv_at hl 0 rfl) ?_
    refine lv_ifnullN (tgt := 30) hx hb dX3_restore_12 (by decide) ?_
    exact ret dX3_restore_30 G (Option.some.inj h)
  | some k2 =>
    have h := g_gos h
    have okk2 := okX3_state ok e_v1
    refine lv_astore_n (lv' := [(2, .ref (xN X + k2)), (0, .ref (xN X + t)), (1, .ref (xN X + o1))]) hx hb dX3_restore_10 rfl hl (by decide) rfl (fun ls hl => ?_)
    refine lv_aload_n hx hb dX3_restore_11 rfl (lv_at hl 0 rfl) ?_
    refine lv_ifnull hx hb dX3_restore_12 ?_
    refine lv_aload_n hx hb dX3_restore_15 rfl (lv_at hl 2 rfl) ?_
    refine lv_aload_n hx hb dX3_restore_16 rfl (lv_at hl 0 rfl) ?_
    obtain ⟨σ4, e_σ4, h⟩ := g_bind h
    refine g_callv (g_runV (n := 1) (As := [.ref (xN X + k2)]) (rest := []) C G (mX0_copy l X σ σ4 o1 k2 ok1 okk2 e_σ4) ok1.1.2 (gE_0 ok1.1.1) rfl (g_goodV u_ml_RX3_29 u_im_yX0_copy u_se_yX0_copy u_in_RX0 u_co_yX0_copy) rfl rfl rfl (by decide +kernel) ⟨Nat.le_of_ble_eq_true rfl, Nat.le_of_ble_eq_true rfl⟩ rfl hl.1 rfl (Nat.le_of_ble_eq_true rfl) dX3_restore_17 ⟨Nat.zero_le _, Nat.zero_le _⟩) G (fun H locs G => ?_)
    refine lv_aload_n hx hb dX3_restore_20 rfl (lv_at hl 1 rfl) ?_
    refine lv_dup hx hb dX3_restore_21 rfl ?_
    refine gg3_2 C G ok.1 u_fl_RX3_18 dX3_restore_22 ?_
    refine lv_iconst (v := 1) hx hb dX3_restore_25 (by decide) ?_
    refine lv_isub hx hb dX3_restore_26 ?_
    obtain ⟨σ5, e_σ5, h⟩ := g_let h
    refine gp3_2 C G ok.1 u_fl_RX3_18 dX3_restore_27 (fun H locs G => ?_)
    rw [e_σ5] at G
    exact ret dX3_restore_30 G (Option.some.inj h)

def fX8_undo (σ : gM) (t : Nat) : Option (Int32 × gM) :=
  ((fX3_size σ (t + 31)).bind fun v1 =>
  (if v1 = 0 then
    some ((-1002), σ)
  else
    ((fX3_restore σ (t + 31) (t + 1)).bind fun σ4 =>
    ((fX3_size σ4 (t + 31)).bind fun v5 =>
    some (v5, σ4)))))
set_option maxHeartbeats 4000000 in
set_option maxRecDepth 100000 in
theorem mX8_undo (l : Launch) (X : gX) (σ σ' : gM) (t : Nat) (r : Int32) (ok : gok8 X t) (h : fX8_undo σ t = some (r, σ')) : Met l yX8_undo (Cond.code yX8_undo cX8_undo 1 (some .int) :: gBig) ({ frames := 5, cells := 0, slots := 0, locals := 150 }) (gPc X σ [.ref (xN X + t)]) (gQi X σ' r) 0 0 (xA X) := by
  refine g_meti (cc := cX8_undo) (maxL := 1) (own := RX8) (by decide) rfl rfl (Nat.le_of_ble_eq_true rfl) ?_
  intro p ev s m args below meth c Q C G ret ls hl
  obtain ⟨⟨hx, hb, hml, hown, hts⟩, hK⟩ := id C
  have hl : lv_has ls 1 [(0, .ref (xN X + t))] := hl
  unfold fX8_undo at h
  refine lv_aload_n hx hb dX8_undo_0 rfl (lv_at hl 0 rfl) ?_
  refine gg8_2 C G ok.1 ok.2.1.2.2.1 u_fl_RX8_22 dX8_undo_1 ?_
  obtain ⟨v1, e_v1, h⟩ := g_bind h
  refine g_calli (g_runV (n := 0) (As := []) (rest := []) C G (mX3_size l X σ (t + 31) v1 ok.2.2.2.2.1 e_v1) ok.2.2.2.2.1.1.2 (gE_3 ok.2.2.2.2.1.1.1) rfl (g_goodV u_ml_RX8_148 u_im_yX3_size u_se_yX3_size u_in_RX3 u_co_yX3_size) rfl rfl rfl (by decide +kernel) ⟨Nat.le_of_ble_eq_true rfl, Nat.le_of_ble_eq_true rfl⟩ rfl hl.1 rfl (Nat.le_of_ble_eq_true rfl) dX8_undo_4 ⟨Nat.zero_le _, Nat.zero_le _⟩) G (fun H locs G => ?_)
  refine lv_if_ne (tgt := 14) hx hb dX8_undo_7 (by decide) (fun c2 => ?_) (fun c2 => ?_)
  · have h := g_if h c2
    refine lv_aload_n hx hb dX8_undo_14 rfl (lv_at hl 0 rfl) ?_
    refine gg8_2 C G ok.1 ok.2.1.2.2.1 u_fl_RX8_22 dX8_undo_15 ?_
    refine lv_aload_n hx hb dX8_undo_18 rfl (lv_at hl 0 rfl) ?_
    refine gg8_0 C G ok.1 ok.2.1.1 u_fl_RX8_10 dX8_undo_19 ?_
    obtain ⟨σ4, e_σ4, h⟩ := g_bind h
    refine g_callv (g_runV (n := 1) (As := [.ref (xN X + (t + 1))]) (rest := []) C G (mX3_restore l X σ σ4 (t + 31) (t + 1) ok.2.2.2.2.1 ok.2.2.1 e_σ4) ok.2.2.2.2.1.1.2 (gE_3 ok.2.2.2.2.1.1.1) rfl (g_goodV u_ml_RX8_149 u_im_yX3_restore u_se_yX3_restore u_in_RX3 u_co_yX3_restore) rfl rfl rfl (by decide +kernel) ⟨Nat.le_of_ble_eq_true rfl, Nat.le_of_ble_eq_true rfl⟩ rfl hl.1 rfl (Nat.le_of_ble_eq_true rfl) dX8_undo_22 ⟨Nat.zero_le _, Nat.zero_le _⟩) G (fun H locs G => ?_)
    refine lv_aload_n hx hb dX8_undo_25 rfl (lv_at hl 0 rfl) ?_
    refine gg8_2 C G ok.1 ok.2.1.2.2.1 u_fl_RX8_22 dX8_undo_26 ?_
    obtain ⟨v5, e_v5, h⟩ := g_bind h
    refine g_calli (g_runV (n := 0) (As := []) (rest := []) C G (mX3_size l X σ4 (t + 31) v5 ok.2.2.2.2.1 e_v5) ok.2.2.2.2.1.1.2 (gE_3 ok.2.2.2.2.1.1.1) rfl (g_goodV u_ml_RX8_148 u_im_yX3_size u_se_yX3_size u_in_RX3 u_co_yX3_size) rfl rfl rfl (by decide +kernel) ⟨Nat.le_of_ble_eq_true rfl, Nat.le_of_ble_eq_true rfl⟩ rfl hl.1 rfl (Nat.le_of_ble_eq_true rfl) dX8_undo_29 ⟨Nat.zero_le _, Nat.zero_le _⟩) G (fun H locs G => ?_)
    exact ret dX8_undo_32 rfl G (Prod.mk.inj (Option.some.inj h))
  · have h := g_it h c2
    refine lv_sipush (v := (-1002)) hx hb dX8_undo_10 (by decide) ?_
    exact ret dX8_undo_13 rfl G (Prod.mk.inj (Option.some.inj h))

def fX4_width (σ : gM) (t : Nat) : Option (Int32) :=
  some (σ t 3)
set_option maxHeartbeats 4000000 in
set_option maxRecDepth 100000 in
theorem mX4_width (l : Launch) (X : gX) (σ : gM) (t : Nat) (r : Int32) (ok : gok4 X t) (h : fX4_width σ t = some r) : Met l yX4_width (Cond.code yX4_width cX4_width 1 (some .int) :: gBig) ({ frames := 0, cells := 0, slots := 0, locals := 0 }) (gPc X σ [.ref (xN X + t)]) (gQi X σ r) 0 0 (xA X) := by
  refine g_meti (cc := cX4_width) (maxL := 1) (own := RX4) (by decide) rfl rfl (Nat.le_of_ble_eq_true rfl) ?_
  intro p ev s m args below meth c Q C G ret ls hl
  obtain ⟨⟨hx, hb, hml, hown, hts⟩, hK⟩ := id C
  have hl : lv_has ls 1 [(0, .ref (xN X + t))] := hl
  unfold fX4_width at h
  refine lv_aload_n hx hb dX4_width_0 rfl (lv_at hl 0 rfl) ?_
  refine gg4_3 C G ok.1 u_fl_RX4_30 dX4_width_1 ?_
  exact ret dX4_width_4 rfl G ⟨Option.some.inj h, rfl⟩

def fX4_height (σ : gM) (t : Nat) : Option (Int32) :=
  some (σ t 4)
set_option maxHeartbeats 4000000 in
set_option maxRecDepth 100000 in
theorem mX4_height (l : Launch) (X : gX) (σ : gM) (t : Nat) (r : Int32) (ok : gok4 X t) (h : fX4_height σ t = some r) : Met l yX4_height (Cond.code yX4_height cX4_height 1 (some .int) :: gBig) ({ frames := 0, cells := 0, slots := 0, locals := 0 }) (gPc X σ [.ref (xN X + t)]) (gQi X σ r) 0 0 (xA X) := by
  refine g_meti (cc := cX4_height) (maxL := 1) (own := RX4) (by decide) rfl rfl (Nat.le_of_ble_eq_true rfl) ?_
  intro p ev s m args below meth c Q C G ret ls hl
  obtain ⟨⟨hx, hb, hml, hown, hts⟩, hK⟩ := id C
  have hl : lv_has ls 1 [(0, .ref (xN X + t))] := hl
  unfold fX4_height at h
  refine lv_aload_n hx hb dX4_height_0 rfl (lv_at hl 0 rfl) ?_
  refine gg4_4 C G ok.1 u_fl_RX4_34 dX4_height_1 ?_
  exact ret dX4_height_4 rfl G ⟨Option.some.inj h, rfl⟩

def fX2_size (σ : gM) (t : Nat) : Option (Int32) :=
  ((fX2_countBelow σ t (σ t 1)).bind fun v1 =>
  some v1)
set_option maxHeartbeats 4000000 in
set_option maxRecDepth 100000 in
theorem mX2_size (l : Launch) (X : gX) (σ : gM) (t : Nat) (r : Int32) (ok : gok2 X t) (h : fX2_size σ t = some r) : Met l yX2_size (Cond.code yX2_size cX2_size 1 (some .int) :: gBig) ({ frames := 2, cells := 0, slots := 0, locals := 44 }) (gPc X σ [.ref (xN X + t)]) (gQi X σ r) 0 0 (xA X) := by
  refine g_meti (cc := cX2_size) (maxL := 1) (own := RX2) (by decide) rfl rfl (Nat.le_of_ble_eq_true rfl) ?_
  intro p ev s m args below meth c Q C G ret ls hl
  obtain ⟨⟨hx, hb, hml, hown, hts⟩, hK⟩ := id C
  have hl : lv_has ls 1 [(0, .ref (xN X + t))] := hl
  unfold fX2_size at h
  refine lv_aload_n hx hb dX2_size_0 rfl (lv_at hl 0 rfl) ?_
  refine lv_aload_n hx hb dX2_size_1 rfl (lv_at hl 0 rfl) ?_
  refine gg2_1 C G ok.1 u_fl_RX2_32 dX2_size_2 ?_
  obtain ⟨v1, e_v1, h⟩ := g_bind h
  refine g_calli (g_runV (n := 1) (As := [.int (σ t 1)]) (rest := []) C G (mX2_countBelow l X σ t (σ t 1) v1 ok e_v1) ok.1.2 (gE_2 ok.1.1) rfl (g_goodV u_ml_RX2_70 u_im_yX2_countBelow u_se_yX2_countBelow u_in_RX2 u_co_yX2_countBelow) rfl rfl rfl (by decide +kernel) ⟨Nat.le_of_ble_eq_true rfl, Nat.le_of_ble_eq_true rfl⟩ rfl hl.1 rfl (Nat.le_of_ble_eq_true rfl) dX2_size_5 ⟨Nat.zero_le _, Nat.zero_le _⟩) G (fun H locs G => ?_)
  exact ret dX2_size_8 rfl G ⟨Option.some.inj h, rfl⟩
