def fX9_reasonOf (σ : gM) (t : Nat) (a1 : Int32) (a2 : Int32) (a3 : Int32) (a4 : Int32) : Option (Int32 × gM) :=
  ((fX9_profileOf σ t a1 a3 a4).bind fun pv1 => gl pv1.1 fun v1 => gl pv1.2 fun σ2 =>
  ((fX9_behind σ2 t a2 a4).bind fun v3 =>
  (if v3 = (-1) then
    (if v1 = (-1) then
      some (0, σ2)
    else
      some (4, σ2))
  else
    ((fX9_scrapAt σ2 t v3).bind fun v6 =>
    (if v6 = (-1) then
      some ((-1), σ2)
    else
      (if v6 = a1 then
        some ((-1), σ2)
      else
        (if ¬ (a4 < 0 ∨ gln (t + 5) ≤ a4.toNatClampNeg) then
        (gl (σ2 (t + 5) a4.toNatClampNeg) fun w10 =>
        (gl ((a4 + 2) - (a4 + 2) / 4 * 4) fun w11 =>
        (if ¬ ((111 + v6) < 0 ∨ gln (t + 1) ≤ (111 + v6).toNatClampNeg) then
        ((fX9_profileOf σ2 t v6 (σ2 (t + 1) (111 + v6).toNatClampNeg) w11).bind fun pv13 => gl pv13.1 fun v13 => gl pv13.2 fun σ14 =>
        (if v1 = (-1) then
          some (1, σ14)
        else
          (if v13 = (-1) then
            some (1, σ14)
          else
            (if (v1 + v13) = 999 then
              (if ¬ (w11 < 0 ∨ gln (t + 5) ≤ w11.toNatClampNeg) then
              (if w10 = (σ14 (t + 5) w11.toNatClampNeg) then
                some (0, σ14)
              else
                some (3, σ14))
              else none)
            else
              some (2, σ14)))))
        else none)))
        else none)))))))
set_option maxHeartbeats 4000000 in
set_option maxRecDepth 100000 in
theorem mX9_reasonOf (l : Launch) (X : gX) (σ σ' : gM) (t : Nat) (a1 : Int32) (a2 : Int32) (a3 : Int32) (a4 : Int32) (r : Int32) (ok : gok9 X t) (h : fX9_reasonOf σ t a1 a2 a3 a4 = some (r, σ')) : Met l yX9_reasonOf (Cond.code yX9_reasonOf cX9_reasonOf 11 (some .int) :: gBig) ({ frames := 3, cells := 0, slots := 0, locals := 69 }) (gPc X σ [.ref (xN X + t), .int a1, .int a2, .int a3, .int a4]) (gQi X σ' r) 0 0 (xA X) := by
  refine g_meti (cc := cX9_reasonOf) (maxL := 11) (own := RX9) (by decide) rfl rfl (Nat.le_of_ble_eq_true rfl) ?_
  intro p ev s m args below meth c Q C G ret ls hl
  obtain ⟨⟨hx, hb, hml, hown, hts⟩, hK⟩ := id C
  have hl : lv_has ls 11 [(0, .ref (xN X + t)), (1, .int a1), (2, .int a2), (3, .int a3), (4, .int a4)] := hl
  unfold fX9_reasonOf at h
  refine lv_aload_n hx hb dX9_reasonOf_0 rfl (lv_at hl 0 rfl) ?_
  refine lv_iload_n hx hb dX9_reasonOf_1 rfl (lv_at hl 1 rfl) ?_
  refine lv_iload_n hx hb dX9_reasonOf_2 rfl (lv_at hl 3 rfl) ?_
  refine lv_iload hx hb dX9_reasonOf_3 (lv_at hl 4 rfl) ?_
  obtain ⟨⟨v1, σ2⟩, e_v1, h⟩ := g_bind h
  have h := g_let2 (v := v1) rfl h
  have h := g_let2 (v := σ2) rfl h
  refine g_calli (g_runV (n := 3) (As := [.int a1, .int a3, .int a4]) (rest := []) C G (mX9_profileOf l X σ σ2 t a1 a3 a4 v1 ok e_v1) ok.1.2 (gE_9 ok.1.1) rfl (g_goodV u_ml_RX9_58 u_im_yX9_profileOf u_se_yX9_profileOf u_in_RX9 u_co_yX9_profileOf) rfl rfl rfl (by decide +kernel) ⟨Nat.le_of_ble_eq_true rfl, Nat.le_of_ble_eq_true rfl⟩ rfl hl.1 rfl (Nat.le_of_ble_eq_true rfl) dX9_reasonOf_5 ⟨Nat.zero_le _, Nat.zero_le _⟩) G (fun H locs G => ?_)
  refine lv_istore (lv' := [(5, .int v1), (0, .ref (xN X + t)), (1, .int a1), (2, .int a2), (3, .int a3), (4, .int a4)]) hx hb dX9_reasonOf_8 hl (by decide) rfl (fun ls hl => ?_)
  refine lv_aload_n hx hb dX9_reasonOf_10 rfl (lv_at hl 1 rfl) ?_
  refine lv_iload_n hx hb dX9_reasonOf_11 rfl (lv_at hl 3 rfl) ?_
  refine lv_iload hx hb dX9_reasonOf_12 (lv_at hl 5 rfl) ?_
  obtain ⟨v3, e_v3, h⟩ := g_bind h
  refine g_calli (g_runV (n := 2) (As := [.int a2, .int a4]) (rest := []) C G (mX9_behind l X σ2 t a2 a4 v3 ok e_v3) ok.1.2 (gE_9 ok.1.1) rfl (g_goodV u_ml_RX9_62 u_im_yX9_behind u_se_yX9_behind u_in_RX9 u_co_yX9_behind) rfl rfl rfl (by decide +kernel) ⟨Nat.le_of_ble_eq_true rfl, Nat.le_of_ble_eq_true rfl⟩ rfl hl.1 rfl (Nat.le_of_ble_eq_true rfl) dX9_reasonOf_14 ⟨Nat.zero_le _, Nat.zero_le _⟩) G (fun H locs G => ?_)
  refine lv_istore (lv' := [(6, .int v3), (5, .int v1), (0, .ref (xN X + t)), (1, .int a1), (2, .int a2), (3, .int a3), (4, .int a4)]) hx hb dX9_reasonOf_17 hl (by decide) rfl (fun ls hl => ?_)
  refine lv_iload hx hb dX9_reasonOf_19 (lv_at hl 0 rfl) ?_
  refine lv_iconst (v := (-1)) hx hb dX9_reasonOf_21 (by decide) ?_
  refine lv_icmp_ne (tgt := 37) hx hb dX9_reasonOf_22 (by decide) (fun c4 => ?_) (fun c4 => ?_)
  · have h := g_if h c4
    refine lv_aload_n hx hb dX9_reasonOf_37 rfl (lv_at hl 2 rfl) ?_
    refine lv_iload hx hb dX9_reasonOf_38 (lv_at hl 0 rfl) ?_
    obtain ⟨v6, e_v6, h⟩ := g_bind h
    refine g_calli (g_runV (n := 1) (As := [.int v3]) (rest := []) C G (mX9_scrapAt l X σ2 t v3 v6 ok e_v6) ok.1.2 (gE_9 ok.1.1) rfl (g_goodV u_ml_RX9_66 u_im_yX9_scrapAt u_se_yX9_scrapAt u_in_RX9 u_co_yX9_scrapAt) rfl rfl rfl (by decide +kernel) ⟨Nat.le_of_ble_eq_true rfl, Nat.le_of_ble_eq_true rfl⟩ rfl hl.1 rfl (Nat.le_of_ble_eq_true rfl) dX9_reasonOf_40 ⟨Nat.zero_le _, Nat.zero_le _⟩) G (fun H locs G => ?_)
    refine lv_istore (lv' := [(7, .int v6), (6, .int v3), (5, .int v1), (0, .ref (xN X + t)), (1, .int a1), (2, .int a2), (3, .int a3), (4, .int a4)]) hx hb dX9_reasonOf_43 hl (by decide) rfl (fun ls hl => ?_)
    refine lv_iload hx hb dX9_reasonOf_45 (lv_at hl 0 rfl) ?_
    refine lv_iconst (v := (-1)) hx hb dX9_reasonOf_47 (by decide) ?_
    refine lv_icmp_eq (tgt := 57) hx hb dX9_reasonOf_48 (by decide) (fun c7 => ?_) (fun c7 => ?_)
    · have h := g_it h c7
      refine lv_iconst (v := (-1)) hx hb dX9_reasonOf_57 (by decide) ?_
      exact ret dX9_reasonOf_58 rfl G (Prod.mk.inj (Option.some.inj h))
    · have h := g_if h c7
      refine lv_iload hx hb dX9_reasonOf_51 (lv_at hl 0 rfl) ?_
      refine lv_iload_n hx hb dX9_reasonOf_53 rfl (lv_at hl 4 rfl) ?_
      refine lv_icmp_ne (tgt := 59) hx hb dX9_reasonOf_54 (by decide) (fun c8 => ?_) (fun c8 => ?_)
      · have h := g_if h c8
        refine lv_aload_n hx hb dX9_reasonOf_59 rfl (lv_at hl 3 rfl) ?_
        refine gg9_6 C G ok.1 ok.2.1.2.2.2.2.1 u_fl_RX9_23 dX9_reasonOf_60 ?_
        refine lv_iload hx hb dX9_reasonOf_63 (lv_at hl 7 rfl) ?_
        obtain ⟨c9, h⟩ := g_chk h
        refine g_iald C G ok.2.2.2.2.2.2.1 c9 dX9_reasonOf_65 ?_
        refine lv_topi (fun w10 e_w10 => ?_)
        have h := g_let2 e_w10 h
        refine lv_istore (lv' := [(8, .int w10), (7, .int v6), (6, .int v3), (5, .int v1), (0, .ref (xN X + t)), (1, .int a1), (2, .int a2), (3, .int a3), (4, .int a4)]) hx hb dX9_reasonOf_66 hl (by decide) rfl (fun ls hl => ?_)
        refine lv_iload hx hb dX9_reasonOf_68 (lv_at hl 8 rfl) ?_
        refine lv_iconst (v := 2) hx hb dX9_reasonOf_70 (by decide) ?_
        refine lv_iadd hx hb dX9_reasonOf_71 ?_
        refine lv_iconst (v := 4) hx hb dX9_reasonOf_72 (by decide) ?_
        refine lv_irem hx hb dX9_reasonOf_73 (by decide) ?_
        refine lv_topi (fun w11 e_w11 => ?_)
        have h := g_let2 e_w11 h
        refine lv_istore (lv' := [(9, .int w11), (8, .int w10), (7, .int v6), (6, .int v3), (5, .int v1), (0, .ref (xN X + t)), (1, .int a1), (2, .int a2), (3, .int a3), (4, .int a4)]) hx hb dX9_reasonOf_74 hl (by decide) rfl (fun ls hl => ?_)
        refine lv_aload_n hx hb dX9_reasonOf_76 rfl (lv_at hl 5 rfl) ?_
        refine lv_iload hx hb dX9_reasonOf_77 (lv_at hl 2 rfl) ?_
        refine lv_aload_n hx hb dX9_reasonOf_79 rfl (lv_at hl 5 rfl) ?_
        refine gg9_0 C G ok.1 ok.2.1.1 u_fl_RX9_7 dX9_reasonOf_80 ?_
        refine lv_bipush (v := 111) hx hb dX9_reasonOf_83 (by decide) ?_
        refine lv_iload hx hb dX9_reasonOf_85 (lv_at hl 2 rfl) ?_
        refine lv_iadd hx hb dX9_reasonOf_87 ?_
        obtain ⟨c12, h⟩ := g_chk h
        refine g_iald C G ok.2.2.1 c12 dX9_reasonOf_88 ?_
        refine lv_iload hx hb dX9_reasonOf_89 (lv_at hl 0 rfl) ?_
        obtain ⟨⟨v13, σ14⟩, e_v13, h⟩ := g_bind h
        have h := g_let2 (v := v13) rfl h
        have h := g_let2 (v := σ14) rfl h
        refine g_calli (g_runV (n := 3) (As := [.int v6, .int (σ2 (t + 1) (111 + v6).toNatClampNeg), .int w11]) (rest := []) C G (mX9_profileOf l X σ2 σ14 t v6 (σ2 (t + 1) (111 + v6).toNatClampNeg) w11 v13 ok e_v13) ok.1.2 (gE_9 ok.1.1) rfl (g_goodV u_ml_RX9_58 u_im_yX9_profileOf u_se_yX9_profileOf u_in_RX9 u_co_yX9_profileOf) rfl rfl rfl (by decide +kernel) ⟨Nat.le_of_ble_eq_true rfl, Nat.le_of_ble_eq_true rfl⟩ rfl hl.1 rfl (Nat.le_of_ble_eq_true rfl) dX9_reasonOf_91 ⟨Nat.zero_le _, Nat.zero_le _⟩) G (fun H locs G => ?_)
        refine lv_istore (lv' := [(10, .int v13), (9, .int w11), (8, .int w10), (7, .int v6), (6, .int v3), (5, .int v1), (0, .ref (xN X + t)), (1, .int a1), (2, .int a2), (3, .int a3), (4, .int a4)]) hx hb dX9_reasonOf_94 hl (by decide) rfl (fun ls hl => ?_)
        refine lv_iload hx hb dX9_reasonOf_96 (lv_at hl 5 rfl) ?_
        refine lv_iconst (v := (-1)) hx hb dX9_reasonOf_98 (by decide) ?_
        refine lv_icmp_eq (tgt := 108) hx hb dX9_reasonOf_99 (by decide) (fun c15 => ?_) (fun c15 => ?_)
        · have h := g_it h c15
          refine lv_iconst (v := 1) hx hb dX9_reasonOf_108 (by decide) ?_
          exact ret dX9_reasonOf_109 rfl G (Prod.mk.inj (Option.some.inj h))
        · have h := g_if h c15
          refine lv_iload hx hb dX9_reasonOf_102 (lv_at hl 0 rfl) ?_
          refine lv_iconst (v := (-1)) hx hb dX9_reasonOf_104 (by decide) ?_
          refine lv_icmp_ne (tgt := 110) hx hb dX9_reasonOf_105 (by decide) (fun c16 => ?_) (fun c16 => ?_)
          · have h := g_if h c16
            refine lv_iload hx hb dX9_reasonOf_110 (lv_at hl 5 rfl) ?_
            refine lv_iload hx hb dX9_reasonOf_112 (lv_at hl 0 rfl) ?_
            refine lv_iadd hx hb dX9_reasonOf_114 ?_
            refine lv_sipush (v := 999) hx hb dX9_reasonOf_115 (by decide) ?_
            refine lv_icmp_eq (tgt := 125) hx hb dX9_reasonOf_118 (by decide) (fun c17 => ?_) (fun c17 => ?_)
            · have h := g_it h c17
              refine lv_iload hx hb dX9_reasonOf_125 (lv_at hl 2 rfl) ?_
              refine lv_aload_n hx hb dX9_reasonOf_127 rfl (lv_at hl 6 rfl) ?_
              refine gg9_6 C G ok.1 ok.2.1.2.2.2.2.1 u_fl_RX9_23 dX9_reasonOf_128 ?_
              refine lv_iload hx hb dX9_reasonOf_131 (lv_at hl 1 rfl) ?_
              obtain ⟨c18, h⟩ := g_chk h
              refine g_iald C G ok.2.2.2.2.2.2.1 c18 dX9_reasonOf_133 ?_
              refine lv_icmp_eq (tgt := 141) hx hb dX9_reasonOf_134 (by decide) (fun c19 => ?_) (fun c19 => ?_)
              · have h := g_it h c19
                refine lv_iconst (v := 0) hx hb dX9_reasonOf_141 (by decide) ?_
                exact ret dX9_reasonOf_142 rfl G (Prod.mk.inj (Option.some.inj h))
              · have h := g_if h c19
                refine lv_iconst (v := 3) hx hb dX9_reasonOf_137 (by decide) ?_
                refine lv_goto (tgt := 142) hx hb dX9_reasonOf_138 (by decide) ?_
                exact ret dX9_reasonOf_142 rfl G (Prod.mk.inj (Option.some.inj h))
            · have h := g_if h c17
              refine lv_iconst (v := 2) hx hb dX9_reasonOf_121 (by decide) ?_
              refine lv_goto (tgt := 142) hx hb dX9_reasonOf_122 (by decide) ?_
              exact ret dX9_reasonOf_142 rfl G (Prod.mk.inj (Option.some.inj h))
          · have h := g_it h c16
            refine lv_iconst (v := 1) hx hb dX9_reasonOf_108 (by decide) ?_
            exact ret dX9_reasonOf_109 rfl G (Prod.mk.inj (Option.some.inj h))
      · have h := g_it h c8
        refine lv_iconst (v := (-1)) hx hb dX9_reasonOf_57 (by decide) ?_
        exact ret dX9_reasonOf_58 rfl G (Prod.mk.inj (Option.some.inj h))
  · have h := g_it h c4
    refine lv_iload hx hb dX9_reasonOf_25 (lv_at hl 1 rfl) ?_
    refine lv_iconst (v := (-1)) hx hb dX9_reasonOf_27 (by decide) ?_
    refine lv_icmp_ne (tgt := 35) hx hb dX9_reasonOf_28 (by decide) (fun c5 => ?_) (fun c5 => ?_)
    · have h := g_if h c5
      refine lv_iconst (v := 4) hx hb dX9_reasonOf_35 (by decide) ?_
      exact ret dX9_reasonOf_36 rfl G (Prod.mk.inj (Option.some.inj h))
    · have h := g_it h c5
      refine lv_iconst (v := 0) hx hb dX9_reasonOf_31 (by decide) ?_
      refine lv_goto (tgt := 36) hx hb dX9_reasonOf_32 (by decide) ?_
      exact ret dX9_reasonOf_36 rfl G (Prod.mk.inj (Option.some.inj h))

def fX9_fits_6 (t : Nat) (a1 : Int32) (a2 : Int32) (a3 : Int32) (a4 : Int32) : Nat → gM → Int32 → Int32 → Option (Int32 × gM)
  | 0, _, _, _ => none
  | n + 1, σ, x5, x6 =>
    (if 4 ≤ x6 then
      some (x5, σ)
    else
      ((fX9_reasonOf σ t a1 a2 a3 x6).bind fun pv2 => gl pv2.1 fun v2 => gl pv2.2 fun σ3 =>
      (if v2 = (-1) then
        (gl (x5 + 0) fun w5 =>
        (gl (x6 + 1) fun w6 =>
        fX9_fits_6 t a1 a2 a3 a4 n σ3 w5 w6))
      else
        (if v2 = 0 then
          (if 1 = a4 then
            (gl (x5 + 1) fun w9 =>
            (gl (x6 + 1) fun w10 =>
            fX9_fits_6 t a1 a2 a3 a4 n σ3 w9 w10))
          else
            (gl (x5 + 0) fun w11 =>
            (gl (x6 + 1) fun w12 =>
            fX9_fits_6 t a1 a2 a3 a4 n σ3 w11 w12)))
        else
          (if 0 = a4 then
            (gl (x5 + 1) fun w14 =>
            (gl (x6 + 1) fun w15 =>
            fX9_fits_6 t a1 a2 a3 a4 n σ3 w14 w15))
          else
            (gl (x5 + 0) fun w16 =>
            (gl (x6 + 1) fun w17 =>
            fX9_fits_6 t a1 a2 a3 a4 n σ3 w16 w17)))))))

def fX9_fits (σ : gM) (t : Nat) (a1 : Int32) (a2 : Int32) (a3 : Int32) (a4 : Int32) : Option (Int32 × gM) :=
  fX9_fits_6 t a1 a2 a3 a4 gF σ 0 0
set_option maxHeartbeats 4000000 in
set_option maxRecDepth 100000 in
theorem mX9_fits (l : Launch) (X : gX) (σ σ' : gM) (t : Nat) (a1 : Int32) (a2 : Int32) (a3 : Int32) (a4 : Int32) (r : Int32) (ok : gok9 X t) (h : fX9_fits σ t a1 a2 a3 a4 = some (r, σ')) : Met l yX9_fits (Cond.code yX9_fits cX9_fits 8 (some .int) :: gBig) ({ frames := 4, cells := 0, slots := 0, locals := 99 }) (gPc X σ [.ref (xN X + t), .int a1, .int a2, .int a3, .int a4]) (gQi X σ' r) 0 0 (xA X) := by
  refine g_meti (cc := cX9_fits) (maxL := 8) (own := RX9) (by decide) rfl rfl (Nat.le_of_ble_eq_true rfl) ?_
  intro p ev s m args below meth c Q C G ret ls hl
  obtain ⟨⟨hx, hb, hml, hown, hts⟩, hK⟩ := id C
  have hl : lv_has ls 8 [(0, .ref (xN X + t)), (1, .int a1), (2, .int a2), (3, .int a3), (4, .int a4)] := hl
  have L6 : ∀ (n : Nat) (H : Heap) (locs : List Loc) (ls : Array Slot) (σ : gM) (x5 : Int32) (x6 : Int32), gG X σ s H locs → lv_has ls 8 [(0, .ref (xN X + t)), (1, .int a1), (2, .int a2), (3, .int a3), (4, .int a4), (5, .int x5), (6, .int x6)] → fX9_fits_6 t a1 a2 a3 a4 n σ x5 x6 = some (r, σ') → W p l ev ({ frames := 4, cells := 0, slots := 0, locals := 99 }) s m args below meth c H locs 0 0 Q (F0 m 6 ls []) := by
    intro n
    induction n with
    | zero =>
      intro H locs ls σ x5 x6 G hl h
      rw [fX9_fits_6] at h
      cases h
    | succ n ih =>
      intro H locs ls σ x5 x6 G hl h
      rw [fX9_fits_6] at h
      refine lv_iload hx hb dX9_fits_6 (lv_at hl 6 rfl) ?_
      refine lv_iconst (v := 4) hx hb dX9_fits_8 (by decide) ?_
      refine lv_icmp_ge (tgt := 60) hx hb dX9_fits_9 (by decide) (fun c1 => ?_) (fun c1 => ?_)
      · have h := g_it h c1
        refine lv_iload hx hb dX9_fits_60 (lv_at hl 5 rfl) ?_
        exact ret dX9_fits_62 rfl G (Prod.mk.inj (Option.some.inj h))
      · have h := g_if h c1
        refine lv_aload_n hx hb dX9_fits_12 rfl (lv_at hl 0 rfl) ?_
        refine lv_iload_n hx hb dX9_fits_13 rfl (lv_at hl 1 rfl) ?_
        refine lv_iload_n hx hb dX9_fits_14 rfl (lv_at hl 2 rfl) ?_
        refine lv_iload_n hx hb dX9_fits_15 rfl (lv_at hl 3 rfl) ?_
        refine lv_iload hx hb dX9_fits_16 (lv_at hl 6 rfl) ?_
        obtain ⟨⟨v2, σ3⟩, e_v2, h⟩ := g_bind h
        have h := g_let2 (v := v2) rfl h
        have h := g_let2 (v := σ3) rfl h
        refine g_calli (g_runV (n := 4) (As := [.int a1, .int a2, .int a3, .int x6]) (rest := []) C G (mX9_reasonOf l X σ σ3 t a1 a2 a3 x6 v2 ok e_v2) ok.1.2 (gE_9 ok.1.1) rfl (g_goodV u_ml_RX9_69 u_im_yX9_reasonOf u_se_yX9_reasonOf u_in_RX9 u_co_yX9_reasonOf) rfl rfl rfl (by decide +kernel) ⟨Nat.le_of_ble_eq_true rfl, Nat.le_of_ble_eq_true rfl⟩ rfl hl.1 rfl (Nat.le_of_ble_eq_true rfl) dX9_fits_18 ⟨Nat.zero_le _, Nat.zero_le _⟩) G (fun H locs G => ?_)
        refine lv_istore (lv' := [(7, .int v2), (0, .ref (xN X + t)), (1, .int a1), (2, .int a2), (3, .int a3), (4, .int a4), (5, .int x5), (6, .int x6)]) hx hb dX9_fits_21 hl (by decide) rfl (fun ls hl => ?_)
        refine lv_iload hx hb dX9_fits_23 (lv_at hl 6 rfl) ?_
        refine lv_iload hx hb dX9_fits_25 (lv_at hl 0 rfl) ?_
        refine lv_iconst (v := (-1)) hx hb dX9_fits_27 (by decide) ?_
        refine lv_icmp_eq (tgt := 50) hx hb dX9_fits_28 (by decide) (fun c4 => ?_) (fun c4 => ?_)
        · have h := g_it h c4
          refine lv_iconst (v := 0) hx hb dX9_fits_50 (by decide) ?_
          refine lv_iadd hx hb dX9_fits_51 ?_
          refine lv_topi (fun w5 e_w5 => ?_)
          have h := g_let2 e_w5 h
          refine lv_istore (lv' := [(5, .int w5), (7, .int v2), (0, .ref (xN X + t)), (1, .int a1), (2, .int a2), (3, .int a3), (4, .int a4), (6, .int x6)]) hx hb dX9_fits_52 hl (by decide) rfl (fun ls hl => ?_)
          obtain ⟨w6, e_w6⟩ : ∃ y : Int32, y = x6 + 1 := ⟨_, rfl⟩
          have h := g_let2 e_w6 h
          refine lv_iinc (v := w6) (lv' := [(6, .int w6), (5, .int w5), (7, .int v2), (0, .ref (xN X + t)), (1, .int a1), (2, .int a2), (3, .int a3), (4, .int a4)]) hx hb dX9_fits_54 hl (k := 7) rfl (by rw [e_w6]; rfl) (by decide) rfl (fun ls hl => ?_)
          refine lv_goto (tgt := 6) hx hb dX9_fits_57 (by decide) ?_
          exact ih _ _ _ σ3 w5 w6 G (lv_sub hl [3, 4, 5, 6, 7, 1, 0] rfl) h
        · have h := g_if h c4
          refine lv_iload hx hb dX9_fits_31 (lv_at hl 0 rfl) ?_
          refine lv_if_ne (tgt := 40) hx hb dX9_fits_33 (by decide) (fun c7 => ?_) (fun c7 => ?_)
          · have h := g_if h c7
            refine lv_iconst (v := 0) hx hb dX9_fits_40 (by decide) ?_
            refine lv_iload hx hb dX9_fits_41 (lv_at hl 5 rfl) ?_
            refine lv_icmp_ne (tgt := 50) hx hb dX9_fits_43 (by decide) (fun c13 => ?_) (fun c13 => ?_)
            · have h := g_if h c13
              refine lv_iconst (v := 0) hx hb dX9_fits_50 (by decide) ?_
              refine lv_iadd hx hb dX9_fits_51 ?_
              refine lv_topi (fun w16 e_w16 => ?_)
              have h := g_let2 e_w16 h
              refine lv_istore (lv' := [(5, .int w16), (7, .int v2), (0, .ref (xN X + t)), (1, .int a1), (2, .int a2), (3, .int a3), (4, .int a4), (6, .int x6)]) hx hb dX9_fits_52 hl (by decide) rfl (fun ls hl => ?_)
              obtain ⟨w17, e_w17⟩ : ∃ y : Int32, y = x6 + 1 := ⟨_, rfl⟩
              have h := g_let2 e_w17 h
              refine lv_iinc (v := w17) (lv' := [(6, .int w17), (5, .int w16), (7, .int v2), (0, .ref (xN X + t)), (1, .int a1), (2, .int a2), (3, .int a3), (4, .int a4)]) hx hb dX9_fits_54 hl (k := 7) rfl (by rw [e_w17]; rfl) (by decide) rfl (fun ls hl => ?_)
              refine lv_goto (tgt := 6) hx hb dX9_fits_57 (by decide) ?_
              exact ih _ _ _ σ3 w16 w17 G (lv_sub hl [3, 4, 5, 6, 7, 1, 0] rfl) h
            · have h := g_it h c13
              refine lv_iconst (v := 1) hx hb dX9_fits_46 (by decide) ?_
              refine lv_goto (tgt := 51) hx hb dX9_fits_47 (by decide) ?_
              refine lv_iadd hx hb dX9_fits_51 ?_
              refine lv_topi (fun w14 e_w14 => ?_)
              have h := g_let2 e_w14 h
              refine lv_istore (lv' := [(5, .int w14), (7, .int v2), (0, .ref (xN X + t)), (1, .int a1), (2, .int a2), (3, .int a3), (4, .int a4), (6, .int x6)]) hx hb dX9_fits_52 hl (by decide) rfl (fun ls hl => ?_)
              obtain ⟨w15, e_w15⟩ : ∃ y : Int32, y = x6 + 1 := ⟨_, rfl⟩
              have h := g_let2 e_w15 h
              refine lv_iinc (v := w15) (lv' := [(6, .int w15), (5, .int w14), (7, .int v2), (0, .ref (xN X + t)), (1, .int a1), (2, .int a2), (3, .int a3), (4, .int a4)]) hx hb dX9_fits_54 hl (k := 7) rfl (by rw [e_w15]; rfl) (by decide) rfl (fun ls hl => ?_)
              refine lv_goto (tgt := 6) hx hb dX9_fits_57 (by decide) ?_
              exact ih _ _ _ σ3 w14 w15 G (lv_sub hl [3, 4, 5, 6, 7, 1, 0] rfl) h
          · have h := g_it h c7
            refine lv_iconst (v := 1) hx hb dX9_fits_36 (by decide) ?_
            refine lv_goto (tgt := 41) hx hb dX9_fits_37 (by decide) ?_
            refine lv_iload hx hb dX9_fits_41 (lv_at hl 5 rfl) ?_
            refine lv_icmp_ne (tgt := 50) hx hb dX9_fits_43 (by decide) (fun c8 => ?_) (fun c8 => ?_)
            · have h := g_if h c8
              refine lv_iconst (v := 0) hx hb dX9_fits_50 (by decide) ?_
              refine lv_iadd hx hb dX9_fits_51 ?_
              refine lv_topi (fun w11 e_w11 => ?_)
              have h := g_let2 e_w11 h
              refine lv_istore (lv' := [(5, .int w11), (7, .int v2), (0, .ref (xN X + t)), (1, .int a1), (2, .int a2), (3, .int a3), (4, .int a4), (6, .int x6)]) hx hb dX9_fits_52 hl (by decide) rfl (fun ls hl => ?_)
              obtain ⟨w12, e_w12⟩ : ∃ y : Int32, y = x6 + 1 := ⟨_, rfl⟩
              have h := g_let2 e_w12 h
              refine lv_iinc (v := w12) (lv' := [(6, .int w12), (5, .int w11), (7, .int v2), (0, .ref (xN X + t)), (1, .int a1), (2, .int a2), (3, .int a3), (4, .int a4)]) hx hb dX9_fits_54 hl (k := 7) rfl (by rw [e_w12]; rfl) (by decide) rfl (fun ls hl => ?_)
              refine lv_goto (tgt := 6) hx hb dX9_fits_57 (by decide) ?_
              exact ih _ _ _ σ3 w11 w12 G (lv_sub hl [3, 4, 5, 6, 7, 1, 0] rfl) h
            · have h := g_it h c8
              refine lv_iconst (v := 1) hx hb dX9_fits_46 (by decide) ?_
              refine lv_goto (tgt := 51) hx hb dX9_fits_47 (by decide) ?_
              refine lv_iadd hx hb dX9_fits_51 ?_
              refine lv_topi (fun w9 e_w9 => ?_)
              have h := g_let2 e_w9 h
              refine lv_istore (lv' := [(5, .int w9), (7, .int v2), (0, .ref (xN X + t)), (1, .int a1), (2, .int a2), (3, .int a3), (4, .int a4), (6, .int x6)]) hx hb dX9_fits_52 hl (by decide) rfl (fun ls hl => ?_)
              obtain ⟨w10, e_w10⟩ : ∃ y : Int32, y = x6 + 1 := ⟨_, rfl⟩
              have h := g_let2 e_w10 h
              refine lv_iinc (v := w10) (lv' := [(6, .int w10), (5, .int w9), (7, .int v2), (0, .ref (xN X + t)), (1, .int a1), (2, .int a2), (3, .int a3), (4, .int a4)]) hx hb dX9_fits_54 hl (k := 7) rfl (by rw [e_w10]; rfl) (by decide) rfl (fun ls hl => ?_)
              refine lv_goto (tgt := 6) hx hb dX9_fits_57 (by decide) ?_
              exact ih _ _ _ σ3 w9 w10 G (lv_sub hl [3, 4, 5, 6, 7, 1, 0] rfl) h
  unfold fX9_fits at h
  refine lv_iconst (v := 0) hx hb dX9_fits_0 (by decide) ?_
  refine lv_istore (lv' := [(5, .int 0), (0, .ref (xN X + t)), (1, .int a1), (2, .int a2), (3, .int a3), (4, .int a4)]) hx hb dX9_fits_1 hl (by decide) rfl (fun ls hl => ?_)
  refine lv_iconst (v := 0) hx hb dX9_fits_3 (by decide) ?_
  refine lv_istore (lv' := [(6, .int 0), (5, .int 0), (0, .ref (xN X + t)), (1, .int a1), (2, .int a2), (3, .int a3), (4, .int a4)]) hx hb dX9_fits_4 hl (by decide) rfl (fun ls hl => ?_)
  exact L6  gF _ _ _ σ 0 0 G (lv_sub hl [2, 3, 4, 5, 6, 1, 0] rfl) h

def fX9_seams_5 (σ : gM) (t : Nat) (a1 : Int32) (a2 : Int32) : Nat → Int32 → Int32 → Option (Int32)
  | 0, _, _ => none
  | n + 1, x3, x4 =>
    (if 4 ≤ x4 then
      some x3
    else
      ((fX9_behind σ t a2 x4).bind fun v2 =>
      (if v2 = (-1) then
        (gl (x3 + 0) fun w5 =>
        (gl (x4 + 1) fun w6 =>
        fX9_seams_5 σ t a1 a2 n w5 w6))
      else
        ((fX9_scrapAt σ t v2).bind fun v7 =>
        (if v7 = (-1) then
          (gl (x3 + 0) fun w9 =>
          (gl (x4 + 1) fun w10 =>
          fX9_seams_5 σ t a1 a2 n w9 w10))
        else
          (if v7 = a1 then
            (gl (x3 + 0) fun w12 =>
            (gl (x4 + 1) fun w13 =>
            fX9_seams_5 σ t a1 a2 n w12 w13))
          else
            (gl (x3 + 1) fun w14 =>
            (gl (x4 + 1) fun w15 =>
            fX9_seams_5 σ t a1 a2 n w14 w15))))))))

def fX9_seams (σ : gM) (t : Nat) (a1 : Int32) (a2 : Int32) : Option (Int32) :=
  fX9_seams_5 σ t a1 a2 gF 0 0
set_option maxHeartbeats 4000000 in
set_option maxRecDepth 100000 in
theorem mX9_seams (l : Launch) (X : gX) (σ : gM) (t : Nat) (a1 : Int32) (a2 : Int32) (r : Int32) (ok : gok9 X t) (h : fX9_seams σ t a1 a2 = some r) : Met l yX9_seams (Cond.code yX9_seams cX9_seams 7 (some .int) :: gBig) ({ frames := 2, cells := 0, slots := 0, locals := 46 }) (gPc X σ [.ref (xN X + t), .int a1, .int a2]) (gQi X σ r) 0 0 (xA X) := by
  refine g_meti (cc := cX9_seams) (maxL := 7) (own := RX9) (by decide) rfl rfl (Nat.le_of_ble_eq_true rfl) ?_
  intro p ev s m args below meth c Q C G ret ls hl
  obtain ⟨⟨hx, hb, hml, hown, hts⟩, hK⟩ := id C
  have hl : lv_has ls 7 [(0, .ref (xN X + t)), (1, .int a1), (2, .int a2)] := hl
  have L5 : ∀ (n : Nat) (H : Heap) (locs : List Loc) (ls : Array Slot) (x3 : Int32) (x4 : Int32), gG X σ s H locs → lv_has ls 7 [(0, .ref (xN X + t)), (1, .int a1), (2, .int a2), (3, .int x3), (4, .int x4)] → fX9_seams_5 σ t a1 a2 n x3 x4 = some r → W p l ev ({ frames := 2, cells := 0, slots := 0, locals := 46 }) s m args below meth c H locs 0 0 Q (F0 m 5 ls []) := by
    intro n
    induction n with
    | zero =>
      intro H locs ls x3 x4 G hl h
      rw [fX9_seams_5] at h
      cases h
    | succ n ih =>
      intro H locs ls x3 x4 G hl h
      rw [fX9_seams_5] at h
      refine lv_iload hx hb dX9_seams_5 (lv_at hl 4 rfl) ?_
      refine lv_iconst (v := 4) hx hb dX9_seams_7 (by decide) ?_
      refine lv_icmp_ge (tgt := 64) hx hb dX9_seams_8 (by decide) (fun c1 => ?_) (fun c1 => ?_)
      · have h := g_it h c1
        refine lv_iload_n hx hb dX9_seams_64 rfl (lv_at hl 3 rfl) ?_
        exact ret dX9_seams_65 rfl G ⟨Option.some.inj h, rfl⟩
      · have h := g_if h c1
        refine lv_aload_n hx hb dX9_seams_11 rfl (lv_at hl 0 rfl) ?_
        refine lv_iload_n hx hb dX9_seams_12 rfl (lv_at hl 2 rfl) ?_
        refine lv_iload hx hb dX9_seams_13 (lv_at hl 4 rfl) ?_
        obtain ⟨v2, e_v2, h⟩ := g_bind h
        refine g_calli (g_runV (n := 2) (As := [.int a2, .int x4]) (rest := []) C G (mX9_behind l X σ t a2 x4 v2 ok e_v2) ok.1.2 (gE_9 ok.1.1) rfl (g_goodV u_ml_RX9_62 u_im_yX9_behind u_se_yX9_behind u_in_RX9 u_co_yX9_behind) rfl rfl rfl (by decide +kernel) ⟨Nat.le_of_ble_eq_true rfl, Nat.le_of_ble_eq_true rfl⟩ rfl hl.1 rfl (Nat.le_of_ble_eq_true rfl) dX9_seams_15 ⟨Nat.zero_le _, Nat.zero_le _⟩) G (fun H locs G => ?_)
        refine lv_istore (lv' := [(5, .int v2), (0, .ref (xN X + t)), (1, .int a1), (2, .int a2), (3, .int x3), (4, .int x4)]) hx hb dX9_seams_18 hl (by decide) rfl (fun ls hl => ?_)
        refine lv_iload hx hb dX9_seams_20 (lv_at hl 0 rfl) ?_
        refine lv_iconst (v := (-1)) hx hb dX9_seams_22 (by decide) ?_
        refine lv_icmp_ne (tgt := 30) hx hb dX9_seams_23 (by decide) (fun c3 => ?_) (fun c3 => ?_)
        · have h := g_if h c3
          refine lv_aload_n hx hb dX9_seams_30 rfl (lv_at hl 1 rfl) ?_
          refine lv_iload hx hb dX9_seams_31 (lv_at hl 0 rfl) ?_
          obtain ⟨v7, e_v7, h⟩ := g_bind h
          refine g_calli (g_runV (n := 1) (As := [.int v2]) (rest := []) C G (mX9_scrapAt l X σ t v2 v7 ok e_v7) ok.1.2 (gE_9 ok.1.1) rfl (g_goodV u_ml_RX9_66 u_im_yX9_scrapAt u_se_yX9_scrapAt u_in_RX9 u_co_yX9_scrapAt) rfl rfl rfl (by decide +kernel) ⟨Nat.le_of_ble_eq_true rfl, Nat.le_of_ble_eq_true rfl⟩ rfl hl.1 rfl (Nat.le_of_ble_eq_true rfl) dX9_seams_33 ⟨Nat.zero_le _, Nat.zero_le _⟩) G (fun H locs G => ?_)
          refine lv_istore (lv' := [(6, .int v7), (5, .int v2), (0, .ref (xN X + t)), (1, .int a1), (2, .int a2), (3, .int x3), (4, .int x4)]) hx hb dX9_seams_36 hl (by decide) rfl (fun ls hl => ?_)
          refine lv_iload_n hx hb dX9_seams_38 rfl (lv_at hl 5 rfl) ?_
          refine lv_iload hx hb dX9_seams_39 (lv_at hl 0 rfl) ?_
          refine lv_iconst (v := (-1)) hx hb dX9_seams_41 (by decide) ?_
          refine lv_icmp_eq (tgt := 51) hx hb dX9_seams_42 (by decide) (fun c8 => ?_) (fun c8 => ?_)
          · have h := g_it h c8
            refine lv_iconst (v := 0) hx hb dX9_seams_51 (by decide) ?_
            refine lv_goto (tgt := 56) hx hb dX9_seams_52 (by decide) ?_
            refine lv_iadd hx hb dX9_seams_56 ?_
            refine lv_topi (fun w9 e_w9 => ?_)
            have h := g_let2 e_w9 h
            refine lv_istore_n (lv' := [(3, .int w9), (6, .int v7), (5, .int v2), (0, .ref (xN X + t)), (1, .int a1), (2, .int a2), (4, .int x4)]) hx hb dX9_seams_57 rfl hl (by decide) rfl (fun ls hl => ?_)
            obtain ⟨w10, e_w10⟩ : ∃ y : Int32, y = x4 + 1 := ⟨_, rfl⟩
            have h := g_let2 e_w10 h
            refine lv_iinc (v := w10) (lv' := [(4, .int w10), (3, .int w9), (6, .int v7), (5, .int v2), (0, .ref (xN X + t)), (1, .int a1), (2, .int a2)]) hx hb dX9_seams_58 hl (k := 6) rfl (by rw [e_w10]; rfl) (by decide) rfl (fun ls hl => ?_)
            refine lv_goto (tgt := 5) hx hb dX9_seams_61 (by decide) ?_
            exact ih _ _ _ w9 w10 G (lv_sub hl [4, 5, 6, 1, 0] rfl) h
          · have h := g_if h c8
            refine lv_iload hx hb dX9_seams_45 (lv_at hl 0 rfl) ?_
            refine lv_iload_n hx hb dX9_seams_47 rfl (lv_at hl 3 rfl) ?_
            refine lv_icmp_ne (tgt := 55) hx hb dX9_seams_48 (by decide) (fun c11 => ?_) (fun c11 => ?_)
            · have h := g_if h c11
              refine lv_iconst (v := 1) hx hb dX9_seams_55 (by decide) ?_
              refine lv_iadd hx hb dX9_seams_56 ?_
              refine lv_topi (fun w14 e_w14 => ?_)
              have h := g_let2 e_w14 h
              refine lv_istore_n (lv' := [(3, .int w14), (6, .int v7), (5, .int v2), (0, .ref (xN X + t)), (1, .int a1), (2, .int a2), (4, .int x4)]) hx hb dX9_seams_57 rfl hl (by decide) rfl (fun ls hl => ?_)
              obtain ⟨w15, e_w15⟩ : ∃ y : Int32, y = x4 + 1 := ⟨_, rfl⟩
              have h := g_let2 e_w15 h
              refine lv_iinc (v := w15) (lv' := [(4, .int w15), (3, .int w14), (6, .int v7), (5, .int v2), (0, .ref (xN X + t)), (1, .int a1), (2, .int a2)]) hx hb dX9_seams_58 hl (k := 6) rfl (by rw [e_w15]; rfl) (by decide) rfl (fun ls hl => ?_)
              refine lv_goto (tgt := 5) hx hb dX9_seams_61 (by decide) ?_
              exact ih _ _ _ w14 w15 G (lv_sub hl [4, 5, 6, 1, 0] rfl) h
            · have h := g_it h c11
              refine lv_iconst (v := 0) hx hb dX9_seams_51 (by decide) ?_
              refine lv_goto (tgt := 56) hx hb dX9_seams_52 (by decide) ?_
              refine lv_iadd hx hb dX9_seams_56 ?_
              refine lv_topi (fun w12 e_w12 => ?_)
              have h := g_let2 e_w12 h
              refine lv_istore_n (lv' := [(3, .int w12), (6, .int v7), (5, .int v2), (0, .ref (xN X + t)), (1, .int a1), (2, .int a2), (4, .int x4)]) hx hb dX9_seams_57 rfl hl (by decide) rfl (fun ls hl => ?_)
              obtain ⟨w13, e_w13⟩ : ∃ y : Int32, y = x4 + 1 := ⟨_, rfl⟩
              have h := g_let2 e_w13 h
              refine lv_iinc (v := w13) (lv' := [(4, .int w13), (3, .int w12), (6, .int v7), (5, .int v2), (0, .ref (xN X + t)), (1, .int a1), (2, .int a2)]) hx hb dX9_seams_58 hl (k := 6) rfl (by rw [e_w13]; rfl) (by decide) rfl (fun ls hl => ?_)
              refine lv_goto (tgt := 5) hx hb dX9_seams_61 (by decide) ?_
              exact ih _ _ _ w12 w13 G (lv_sub hl [4, 5, 6, 1, 0] rfl) h
        · have h := g_it h c3
          refine lv_iconst (v := (-1)) hx hb dX9_seams_26 (by decide) ?_
          refine lv_goto (tgt := 36) hx hb dX9_seams_27 (by decide) ?_
          refine lv_istore (lv' := [(6, .int (-1)), (5, .int v2), (0, .ref (xN X + t)), (1, .int a1), (2, .int a2), (3, .int x3), (4, .int x4)]) hx hb dX9_seams_36 hl (by decide) rfl (fun ls hl => ?_)
          refine lv_iload_n hx hb dX9_seams_38 rfl (lv_at hl 5 rfl) ?_
          refine lv_iload hx hb dX9_seams_39 (lv_at hl 0 rfl) ?_
          refine lv_iconst (v := (-1)) hx hb dX9_seams_41 (by decide) ?_
          refine lv_icmp_eq (tgt := 51) hx hb dX9_seams_42 (by decide) (fun _ => ?_) (fun c4 => absurd c4 (by decide))
          refine lv_iconst (v := 0) hx hb dX9_seams_51 (by decide) ?_
          refine lv_goto (tgt := 56) hx hb dX9_seams_52 (by decide) ?_
          refine lv_iadd hx hb dX9_seams_56 ?_
          refine lv_topi (fun w5 e_w5 => ?_)
          have h := g_let2 e_w5 h
          refine lv_istore_n (lv' := [(3, .int w5), (6, .int (-1)), (5, .int v2), (0, .ref (xN X + t)), (1, .int a1), (2, .int a2), (4, .int x4)]) hx hb dX9_seams_57 rfl hl (by decide) rfl (fun ls hl => ?_)
          obtain ⟨w6, e_w6⟩ : ∃ y : Int32, y = x4 + 1 := ⟨_, rfl⟩
          have h := g_let2 e_w6 h
          refine lv_iinc (v := w6) (lv' := [(4, .int w6), (3, .int w5), (6, .int (-1)), (5, .int v2), (0, .ref (xN X + t)), (1, .int a1), (2, .int a2)]) hx hb dX9_seams_58 hl (k := 6) rfl (by rw [e_w6]; rfl) (by decide) rfl (fun ls hl => ?_)
          refine lv_goto (tgt := 5) hx hb dX9_seams_61 (by decide) ?_
          exact ih _ _ _ w5 w6 G (lv_sub hl [4, 5, 6, 1, 0] rfl) h
  unfold fX9_seams at h
  refine lv_iconst (v := 0) hx hb dX9_seams_0 (by decide) ?_
  refine lv_istore_n (lv' := [(3, .int 0), (0, .ref (xN X + t)), (1, .int a1), (2, .int a2)]) hx hb dX9_seams_1 rfl hl (by decide) rfl (fun ls hl => ?_)
  refine lv_iconst (v := 0) hx hb dX9_seams_2 (by decide) ?_
  refine lv_istore (lv' := [(4, .int 0), (3, .int 0), (0, .ref (xN X + t)), (1, .int a1), (2, .int a2)]) hx hb dX9_seams_3 hl (by decide) rfl (fun ls hl => ?_)
  exact L5  gF _ _ _ 0 0 G (lv_sub hl [2, 3, 4, 1, 0] rfl) h

def fX9_isOn (σ : gM) (t : Nat) (a1 : Int32) : Option (Int32) :=
  (if ¬ ((123 + a1) < 0 ∨ gln (t + 1) ≤ (123 + a1).toNatClampNeg) then
  (if (σ (t + 1) (123 + a1).toNatClampNeg) = (-1) then
    some 0
  else
    some 1)
  else none)
set_option maxHeartbeats 4000000 in
set_option maxRecDepth 100000 in
theorem mX9_isOn (l : Launch) (X : gX) (σ : gM) (t : Nat) (a1 : Int32) (r : Int32) (ok : gok9 X t) (h : fX9_isOn σ t a1 = some r) : Met l yX9_isOn (Cond.code yX9_isOn cX9_isOn 2 (some .boolean) :: gBig) ({ frames := 0, cells := 0, slots := 0, locals := 0 }) (gPc X σ [.ref (xN X + t), .int a1]) (gQi X σ r) 0 0 (xA X) := by
  refine g_meti (cc := cX9_isOn) (maxL := 2) (own := RX9) (by decide) rfl rfl (Nat.le_of_ble_eq_true rfl) ?_
  intro p ev s m args below meth c Q C G ret ls hl
  obtain ⟨⟨hx, hb, hml, hown, hts⟩, hK⟩ := id C
  have hl : lv_has ls 2 [(0, .ref (xN X + t)), (1, .int a1)] := hl
  unfold fX9_isOn at h
  refine lv_aload_n hx hb dX9_isOn_0 rfl (lv_at hl 0 rfl) ?_
  refine gg9_0 C G ok.1 ok.2.1.1 u_fl_RX9_7 dX9_isOn_1 ?_
  refine lv_bipush (v := 123) hx hb dX9_isOn_4 (by decide) ?_
  refine lv_iload_n hx hb dX9_isOn_6 rfl (lv_at hl 1 rfl) ?_
  refine lv_iadd hx hb dX9_isOn_7 ?_
  obtain ⟨c1, h⟩ := g_chk h
  refine g_iald C G ok.2.2.1 c1 dX9_isOn_8 ?_
  refine lv_iconst (v := (-1)) hx hb dX9_isOn_9 (by decide) ?_
  refine lv_icmp_eq (tgt := 17) hx hb dX9_isOn_10 (by decide) (fun c2 => ?_) (fun c2 => ?_)
  · have h := g_it h c2
    refine lv_iconst (v := 0) hx hb dX9_isOn_17 (by decide) ?_
    exact ret dX9_isOn_18 rfl G ⟨Option.some.inj h, rfl⟩
  · have h := g_if h c2
    refine lv_iconst (v := 1) hx hb dX9_isOn_13 (by decide) ?_
    refine lv_goto (tgt := 18) hx hb dX9_isOn_14 (by decide) ?_
    exact ret dX9_isOn_18 rfl G ⟨Option.some.inj h, rfl⟩

def fX9_reset_33 (t : Nat) (a1 : Int32) (a2 : Int32) : Nat → gM → Int32 → Int32 → Option (Int32 × gM)
  | 0, _, _, _ => none
  | n + 1, σ, x3, x4 =>
    (if ¬ ((2 : Int32) < 0 ∨ gln (t + 1) ≤ (2 : Int32).toNatClampNeg) then
    (if (σ (t + 1) (2 : Int32).toNatClampNeg) ≤ x4 then
      (if ¬ ((0 : Int32) < 0 ∨ gln (t + 1) ≤ (0 : Int32).toNatClampNeg) then
      (gl (gset σ (t + 1) (upd (σ (t + 1)) (0 : Int32).toNatClampNeg a1)) fun σ10 =>
      (if ¬ ((1 : Int32) < 0 ∨ gln (t + 1) ≤ (1 : Int32).toNatClampNeg) then
      (gl (gset σ10 (t + 1) (upd (σ10 (t + 1)) (1 : Int32).toNatClampNeg a2)) fun σ12 =>
      some (x3, σ12))
      else none))
      else none)
    else
      ((fX9_isOn σ t x4).bind fun v13 =>
      (if v13 = 0 then
        (gl (x3 + 0) fun w15 =>
        (if ¬ ((123 + x4) < 0 ∨ gln (t + 1) ≤ (123 + x4).toNatClampNeg) then
        (gl (gset σ (t + 1) (upd (σ (t + 1)) (123 + x4).toNatClampNeg (-1))) fun σ17 =>
        (if ¬ ((111 + x4) < 0 ∨ gln (t + 1) ≤ (111 + x4).toNatClampNeg) then
        (gl (gset σ17 (t + 1) (upd (σ17 (t + 1)) (111 + x4).toNatClampNeg 0)) fun σ19 =>
        (gl (x4 + 1) fun w20 =>
        fX9_reset_33 t a1 a2 n σ19 w15 w20))
        else none))
        else none))
      else
        (gl (x3 + 1) fun w21 =>
        (if ¬ ((123 + x4) < 0 ∨ gln (t + 1) ≤ (123 + x4).toNatClampNeg) then
        (gl (gset σ (t + 1) (upd (σ (t + 1)) (123 + x4).toNatClampNeg (-1))) fun σ23 =>
        (if ¬ ((111 + x4) < 0 ∨ gln (t + 1) ≤ (111 + x4).toNatClampNeg) then
        (gl (gset σ23 (t + 1) (upd (σ23 (t + 1)) (111 + x4).toNatClampNeg 0)) fun σ25 =>
        (gl (x4 + 1) fun w26 =>
        fX9_reset_33 t a1 a2 n σ25 w21 w26))
        else none))
        else none)))))
    else none)

def fX9_reset (σ : gM) (t : Nat) (a1 : Int32) (a2 : Int32) : Option (Int32 × gM) :=
  ((fX9_in σ a1 1 6).bind fun v1 =>
  (if v1 = 0 then
    some ((-1001), σ)
  else
    ((fX9_in σ a2 1 6).bind fun v3 =>
    (if v3 = 0 then
      some ((-1001), σ)
    else
      ((fX9_records σ t).bind fun σ6 =>
      fX9_reset_33 t a1 a2 gF σ6 0 0)))))
set_option maxHeartbeats 4000000 in
set_option maxRecDepth 100000 in
theorem mX9_reset (l : Launch) (X : gX) (σ σ' : gM) (t : Nat) (a1 : Int32) (a2 : Int32) (r : Int32) (ok : gok9 X t) (h : fX9_reset σ t a1 a2 = some (r, σ')) : Met l yX9_reset (Cond.code yX9_reset cX9_reset 5 (some .int) :: gBig) ({ frames := 1, cells := 0, slots := 0, locals := 22 }) (gPc X σ [.ref (xN X + t), .int a1, .int a2]) (gQi X σ' r) 0 0 (xA X) := by
  refine g_meti (cc := cX9_reset) (maxL := 5) (own := RX9) (by decide) rfl rfl (Nat.le_of_ble_eq_true rfl) ?_
  intro p ev s m args below meth c Q C G ret ls hl
  obtain ⟨⟨hx, hb, hml, hown, hts⟩, hK⟩ := id C
  have hl : lv_has ls 5 [(0, .ref (xN X + t)), (1, .int a1), (2, .int a2)] := hl
  have L33 : ∀ (n : Nat) (H : Heap) (locs : List Loc) (ls : Array Slot) (σ : gM) (x3 : Int32) (x4 : Int32), gG X σ s H locs → lv_has ls 5 [(0, .ref (xN X + t)), (1, .int a1), (2, .int a2), (3, .int x3), (4, .int x4)] → fX9_reset_33 t a1 a2 n σ x3 x4 = some (r, σ') → W p l ev ({ frames := 1, cells := 0, slots := 0, locals := 22 }) s m args below meth c H locs 0 0 Q (F0 m 33 ls []) := by
    intro n
    induction n with
    | zero =>
      intro H locs ls σ x3 x4 G hl h
      rw [fX9_reset_33] at h
      cases h
    | succ n ih =>
      intro H locs ls σ x3 x4 G hl h
      rw [fX9_reset_33] at h
      refine lv_iload hx hb dX9_reset_33 (lv_at hl 4 rfl) ?_
      refine lv_aload_n hx hb dX9_reset_35 rfl (lv_at hl 0 rfl) ?_
      refine gg9_0 C G ok.1 ok.2.1.1 u_fl_RX9_7 dX9_reset_36 ?_
      refine lv_iconst (v := 2) hx hb dX9_reset_39 (by decide) ?_
      obtain ⟨c7, h⟩ := g_chk h
      refine g_iald C G ok.2.2.1 c7 dX9_reset_40 ?_
      refine lv_icmp_ge (tgt := 89) hx hb dX9_reset_41 (by decide) (fun c8 => ?_) (fun c8 => ?_)
      · have h := g_it h c8
        refine lv_aload_n hx hb dX9_reset_89 rfl (lv_at hl 0 rfl) ?_
        refine gg9_0 C G ok.1 ok.2.1.1 u_fl_RX9_7 dX9_reset_90 ?_
        refine lv_iconst (v := 0) hx hb dX9_reset_93 (by decide) ?_
        refine lv_iload_n hx hb dX9_reset_94 rfl (lv_at hl 1 rfl) ?_
        obtain ⟨c9, h⟩ := g_chk h
        obtain ⟨σ10, e_σ10, h⟩ := g_let h
        refine g_iast C G ok.2.2.1 c9 dX9_reset_95 (fun H locs G => ?_)
        rw [e_σ10] at G
        refine lv_aload_n hx hb dX9_reset_96 rfl (lv_at hl 0 rfl) ?_
        refine gg9_0 C G ok.1 ok.2.1.1 u_fl_RX9_7 dX9_reset_97 ?_
        refine lv_iconst (v := 1) hx hb dX9_reset_100 (by decide) ?_
        refine lv_iload_n hx hb dX9_reset_101 rfl (lv_at hl 2 rfl) ?_
        obtain ⟨c11, h⟩ := g_chk h
        obtain ⟨σ12, e_σ12, h⟩ := g_let h
        refine g_iast C G ok.2.2.1 c11 dX9_reset_102 (fun H locs G => ?_)
        rw [e_σ12] at G
        refine lv_iload_n hx hb dX9_reset_103 rfl (lv_at hl 3 rfl) ?_
        exact ret dX9_reset_104 rfl G (Prod.mk.inj (Option.some.inj h))
      · have h := g_if h c8
        refine lv_iload_n hx hb dX9_reset_44 rfl (lv_at hl 3 rfl) ?_
        refine lv_aload_n hx hb dX9_reset_45 rfl (lv_at hl 0 rfl) ?_
        refine lv_iload hx hb dX9_reset_46 (lv_at hl 4 rfl) ?_
        obtain ⟨v13, e_v13, h⟩ := g_bind h
        refine g_calli (g_runV (n := 1) (As := [.int x4]) (rest := [.int x3]) C G (mX9_isOn l X σ t x4 v13 ok e_v13) ok.1.2 (gE_9 ok.1.1) rfl (g_goodV u_ml_RX9_76 u_im_yX9_isOn u_se_yX9_isOn u_in_RX9 u_co_yX9_isOn) rfl rfl rfl (by decide +kernel) ⟨Nat.le_of_ble_eq_true rfl, Nat.le_of_ble_eq_true rfl⟩ rfl hl.1 rfl (Nat.le_of_ble_eq_true rfl) dX9_reset_48 ⟨Nat.zero_le _, Nat.zero_le _⟩) G (fun H locs G => ?_)
        refine lv_if_eq (tgt := 58) hx hb dX9_reset_51 (by decide) (fun c14 => ?_) (fun c14 => ?_)
        · have h := g_it h c14
          refine lv_iconst (v := 0) hx hb dX9_reset_58 (by decide) ?_
          refine lv_iadd hx hb dX9_reset_59 ?_
          refine lv_topi (fun w15 e_w15 => ?_)
          have h := g_let2 e_w15 h
          refine lv_istore_n (lv' := [(3, .int w15), (0, .ref (xN X + t)), (1, .int a1), (2, .int a2), (4, .int x4)]) hx hb dX9_reset_60 rfl hl (by decide) rfl (fun ls hl => ?_)
          refine lv_aload_n hx hb dX9_reset_61 rfl (lv_at hl 1 rfl) ?_
          refine gg9_0 C G ok.1 ok.2.1.1 u_fl_RX9_7 dX9_reset_62 ?_
          refine lv_bipush (v := 123) hx hb dX9_reset_65 (by decide) ?_
          refine lv_iload hx hb dX9_reset_67 (lv_at hl 4 rfl) ?_
          refine lv_iadd hx hb dX9_reset_69 ?_
          refine lv_iconst (v := (-1)) hx hb dX9_reset_70 (by decide) ?_
          obtain ⟨c16, h⟩ := g_chk h
          obtain ⟨σ17, e_σ17, h⟩ := g_let h
          refine g_iast C G ok.2.2.1 c16 dX9_reset_71 (fun H locs G => ?_)
          rw [e_σ17] at G
          refine lv_aload_n hx hb dX9_reset_72 rfl (lv_at hl 1 rfl) ?_
          refine gg9_0 C G ok.1 ok.2.1.1 u_fl_RX9_7 dX9_reset_73 ?_
          refine lv_bipush (v := 111) hx hb dX9_reset_76 (by decide) ?_
          refine lv_iload hx hb dX9_reset_78 (lv_at hl 4 rfl) ?_
          refine lv_iadd hx hb dX9_reset_80 ?_
          refine lv_iconst (v := 0) hx hb dX9_reset_81 (by decide) ?_
          obtain ⟨c18, h⟩ := g_chk h
          obtain ⟨σ19, e_σ19, h⟩ := g_let h
          refine g_iast C G ok.2.2.1 c18 dX9_reset_82 (fun H locs G => ?_)
          rw [e_σ19] at G
          obtain ⟨w20, e_w20⟩ : ∃ y : Int32, y = x4 + 1 := ⟨_, rfl⟩
          have h := g_let2 e_w20 h
          refine lv_iinc (v := w20) (lv' := [(4, .int w20), (3, .int w15), (0, .ref (xN X + t)), (1, .int a1), (2, .int a2)]) hx hb dX9_reset_83 hl (k := 4) rfl (by rw [e_w20]; rfl) (by decide) rfl (fun ls hl => ?_)
          refine lv_goto (tgt := 33) hx hb dX9_reset_86 (by decide) ?_
          exact ih _ _ _ σ19 w15 w20 G (lv_sub hl [2, 3, 4, 1, 0] rfl) h
        · have h := g_if h c14
          refine lv_iconst (v := 1) hx hb dX9_reset_54 (by decide) ?_
          refine lv_goto (tgt := 59) hx hb dX9_reset_55 (by decide) ?_
          refine lv_iadd hx hb dX9_reset_59 ?_
          refine lv_topi (fun w21 e_w21 => ?_)
          have h := g_let2 e_w21 h
          refine lv_istore_n (lv' := [(3, .int w21), (0, .ref (xN X + t)), (1, .int a1), (2, .int a2), (4, .int x4)]) hx hb dX9_reset_60 rfl hl (by decide) rfl (fun ls hl => ?_)
          refine lv_aload_n hx hb dX9_reset_61 rfl (lv_at hl 1 rfl) ?_
          refine gg9_0 C G ok.1 ok.2.1.1 u_fl_RX9_7 dX9_reset_62 ?_
          refine lv_bipush (v := 123) hx hb dX9_reset_65 (by decide) ?_
          refine lv_iload hx hb dX9_reset_67 (lv_at hl 4 rfl) ?_
          refine lv_iadd hx hb dX9_reset_69 ?_
          refine lv_iconst (v := (-1)) hx hb dX9_reset_70 (by decide) ?_
          obtain ⟨c22, h⟩ := g_chk h
          obtain ⟨σ23, e_σ23, h⟩ := g_let h
          refine g_iast C G ok.2.2.1 c22 dX9_reset_71 (fun H locs G => ?_)
          rw [e_σ23] at G
          refine lv_aload_n hx hb dX9_reset_72 rfl (lv_at hl 1 rfl) ?_
          refine gg9_0 C G ok.1 ok.2.1.1 u_fl_RX9_7 dX9_reset_73 ?_
          refine lv_bipush (v := 111) hx hb dX9_reset_76 (by decide) ?_
          refine lv_iload hx hb dX9_reset_78 (lv_at hl 4 rfl) ?_
          refine lv_iadd hx hb dX9_reset_80 ?_
          refine lv_iconst (v := 0) hx hb dX9_reset_81 (by decide) ?_
          obtain ⟨c24, h⟩ := g_chk h
          obtain ⟨σ25, e_σ25, h⟩ := g_let h
          refine g_iast C G ok.2.2.1 c24 dX9_reset_82 (fun H locs G => ?_)
          rw [e_σ25] at G
          obtain ⟨w26, e_w26⟩ : ∃ y : Int32, y = x4 + 1 := ⟨_, rfl⟩
          have h := g_let2 e_w26 h
          refine lv_iinc (v := w26) (lv' := [(4, .int w26), (3, .int w21), (0, .ref (xN X + t)), (1, .int a1), (2, .int a2)]) hx hb dX9_reset_83 hl (k := 4) rfl (by rw [e_w26]; rfl) (by decide) rfl (fun ls hl => ?_)
          refine lv_goto (tgt := 33) hx hb dX9_reset_86 (by decide) ?_
          exact ih _ _ _ σ25 w21 w26 G (lv_sub hl [2, 3, 4, 1, 0] rfl) h
  unfold fX9_reset at h
  refine lv_iload_n hx hb dX9_reset_0 rfl (lv_at hl 1 rfl) ?_
  refine lv_iconst (v := 1) hx hb dX9_reset_1 (by decide) ?_
  refine lv_bipush (v := 6) hx hb dX9_reset_2 (by decide) ?_
  obtain ⟨v1, e_v1, h⟩ := g_bind h
  refine g_calli (g_runS (n := 3) (As := [.int a1, .int 1, .int 6]) (rest := []) C G (mX9_in l X σ a1 1 6 v1 e_v1) (g_goodS u_ml_RX9_38 u_st_yX9_in u_in_RX9 u_co_yX9_in) rfl rfl rfl (by decide +kernel) ⟨Nat.le_of_ble_eq_true rfl, Nat.le_of_ble_eq_true rfl⟩ rfl hl.1 rfl (Nat.le_of_ble_eq_true rfl) dX9_reset_4 ⟨Nat.zero_le _, Nat.zero_le _⟩) G (fun H locs G => ?_)
  refine lv_if_eq (tgt := 20) hx hb dX9_reset_7 (by decide) (fun c2 => ?_) (fun c2 => ?_)
  · have h := g_it h c2
    refine lv_sipush (v := (-1001)) hx hb dX9_reset_20 (by decide) ?_
    exact ret dX9_reset_23 rfl G (Prod.mk.inj (Option.some.inj h))
  · have h := g_if h c2
    refine lv_iload_n hx hb dX9_reset_10 rfl (lv_at hl 2 rfl) ?_
    refine lv_iconst (v := 1) hx hb dX9_reset_11 (by decide) ?_
    refine lv_bipush (v := 6) hx hb dX9_reset_12 (by decide) ?_
    obtain ⟨v3, e_v3, h⟩ := g_bind h
    refine g_calli (g_runS (n := 3) (As := [.int a2, .int 1, .int 6]) (rest := []) C G (mX9_in l X σ a2 1 6 v3 e_v3) (g_goodS u_ml_RX9_38 u_st_yX9_in u_in_RX9 u_co_yX9_in) rfl rfl rfl (by decide +kernel) ⟨Nat.le_of_ble_eq_true rfl, Nat.le_of_ble_eq_true rfl⟩ rfl hl.1 rfl (Nat.le_of_ble_eq_true rfl) dX9_reset_14 ⟨Nat.zero_le _, Nat.zero_le _⟩) G (fun H locs G => ?_)
    refine lv_if_ne (tgt := 24) hx hb dX9_reset_17 (by decide) (fun c4 => ?_) (fun c4 => ?_)
    · have h := g_if h c4
      refine lv_aload_n hx hb dX9_reset_24 rfl (lv_at hl 0 rfl) ?_
      obtain ⟨σ6, e_σ6, h⟩ := g_bind h
      refine g_callv (g_runV (n := 0) (As := []) (rest := []) C G (mX9_records l X σ σ6 t ok e_σ6) ok.1.2 (gE_9 ok.1.1) rfl (g_goodV u_ml_RX9_73 u_im_yX9_records u_se_yX9_records u_in_RX9 u_co_yX9_records) rfl rfl rfl (by decide +kernel) ⟨Nat.le_of_ble_eq_true rfl, Nat.le_of_ble_eq_true rfl⟩ rfl hl.1 rfl (Nat.le_of_ble_eq_true rfl) dX9_reset_25 ⟨Nat.zero_le _, Nat.zero_le _⟩) G (fun H locs G => ?_)
      refine lv_iconst (v := 0) hx hb dX9_reset_28 (by decide) ?_
      refine lv_istore_n (lv' := [(3, .int 0), (0, .ref (xN X + t)), (1, .int a1), (2, .int a2)]) hx hb dX9_reset_29 rfl hl (by decide) rfl (fun ls hl => ?_)
      refine lv_iconst (v := 0) hx hb dX9_reset_30 (by decide) ?_
      refine lv_istore (lv' := [(4, .int 0), (3, .int 0), (0, .ref (xN X + t)), (1, .int a1), (2, .int a2)]) hx hb dX9_reset_31 hl (by decide) rfl (fun ls hl => ?_)
      exact L33  gF _ _ _ σ6 0 0 G (lv_sub hl [2, 3, 4, 1, 0] rfl) h
    · have h := g_it h c4
      refine lv_sipush (v := (-1001)) hx hb dX9_reset_20 (by decide) ?_
      exact ret dX9_reset_23 rfl G (Prod.mk.inj (Option.some.inj h))

def fX9_adds_28 (t : Nat) : Nat → gM → Int32 → Int32 → Option (Int32 × gM)
  | 0, _, _, _ => none
  | n + 1, σ, x1, x2 =>
    (if 4 ≤ x2 then
      (if ¬ ((8 : Int32) < 0 ∨ gln (t + 6) ≤ (8 : Int32).toNatClampNeg) then
      (if ¬ ((99 + x1) < 0 ∨ gln (t + 1) ≤ (99 + x1).toNatClampNeg) then
      (gl (gset σ (t + 1) (upd (σ (t + 1)) (99 + x1).toNatClampNeg (σ (t + 6) (8 : Int32).toNatClampNeg))) fun σ10 =>
      (if ¬ ((111 + x1) < 0 ∨ gln (t + 1) ≤ (111 + x1).toNatClampNeg) then
      (gl (gset σ10 (t + 1) (upd (σ10 (t + 1)) (111 + x1).toNatClampNeg 0)) fun σ12 =>
      (if ¬ ((123 + x1) < 0 ∨ gln (t + 1) ≤ (123 + x1).toNatClampNeg) then
      (gl (gset σ12 (t + 1) (upd (σ12 (t + 1)) (123 + x1).toNatClampNeg (-1))) fun σ14 =>
      (if ¬ ((2 : Int32) < 0 ∨ gln (t + 1) ≤ (2 : Int32).toNatClampNeg) then
      (if ¬ ((2 : Int32) < 0 ∨ gln (t + 1) ≤ (2 : Int32).toNatClampNeg) then
      (gl (gset σ14 (t + 1) (upd (σ14 (t + 1)) (2 : Int32).toNatClampNeg ((σ14 (t + 1) (2 : Int32).toNatClampNeg) + 1))) fun σ17 =>
      some (x1, σ17))
      else none)
      else none))
      else none))
      else none))
      else none)
      else none)
    else
      (if ¬ (x2 < 0 ∨ gln (t + 6) ≤ x2.toNatClampNeg) then
      (if ¬ (((3 + (4 * x1)) + x2) < 0 ∨ gln (t + 1) ≤ ((3 + (4 * x1)) + x2).toNatClampNeg) then
      (gl (gset σ (t + 1) (upd (σ (t + 1)) ((3 + (4 * x1)) + x2).toNatClampNeg (σ (t + 6) x2.toNatClampNeg))) fun σ20 =>
      (if ¬ ((4 + x2) < 0 ∨ gln (t + 6) ≤ (4 + x2).toNatClampNeg) then
      (if ¬ (((51 + (4 * x1)) + x2) < 0 ∨ gln (t + 1) ≤ ((51 + (4 * x1)) + x2).toNatClampNeg) then
      (gl (gset σ20 (t + 1) (upd (σ20 (t + 1)) ((51 + (4 * x1)) + x2).toNatClampNeg (σ20 (t + 6) (4 + x2).toNatClampNeg))) fun σ23 =>
      (gl (x2 + 1) fun w24 =>
      fX9_adds_28 t n σ23 x1 w24))
      else none)
      else none))
      else none)
      else none))

def fX9_adds (σ : gM) (t : Nat) : Option (Int32 × gM) :=
  (if ¬ ((2 : Int32) < 0 ∨ gln (t + 1) ≤ (2 : Int32).toNatClampNeg) then
  (if (σ (t + 1) (2 : Int32).toNatClampNeg) = 12 then
    some ((-1003), σ)
  else
    ((fX9_records σ t).bind fun σ4 =>
    (if ¬ ((2 : Int32) < 0 ∨ gln (t + 1) ≤ (2 : Int32).toNatClampNeg) then
    (gl (σ4 (t + 1) (2 : Int32).toNatClampNeg) fun w6 =>
    fX9_adds_28 t gF σ4 w6 0)
    else none)))
  else none)
set_option maxHeartbeats 4000000 in
set_option maxRecDepth 100000 in
theorem mX9_adds (l : Launch) (X : gX) (σ σ' : gM) (t : Nat) (r : Int32) (ok : gok9 X t) (h : fX9_adds σ t = some (r, σ')) : Met l yX9_adds (Cond.code yX9_adds cX9_adds 3 (some .int) :: gBig) ({ frames := 1, cells := 0, slots := 0, locals := 21 }) (gPc X σ [.ref (xN X + t)]) (gQi X σ' r) 0 0 (xA X) := by
  refine g_meti (cc := cX9_adds) (maxL := 3) (own := RX9) (by decide) rfl rfl (Nat.le_of_ble_eq_true rfl) ?_
  intro p ev s m args below meth c Q C G ret ls hl
  obtain ⟨⟨hx, hb, hml, hown, hts⟩, hK⟩ := id C
  have hl : lv_has ls 3 [(0, .ref (xN X + t))] := hl
  have L28 : ∀ (n : Nat) (H : Heap) (locs : List Loc) (ls : Array Slot) (σ : gM) (x1 : Int32) (x2 : Int32), gG X σ s H locs → lv_has ls 3 [(0, .ref (xN X + t)), (1, .int x1), (2, .int x2)] → fX9_adds_28 t n σ x1 x2 = some (r, σ') → W p l ev ({ frames := 1, cells := 0, slots := 0, locals := 21 }) s m args below meth c H locs 0 0 Q (F0 m 28 ls []) := by
    intro n
    induction n with
    | zero =>
      intro H locs ls σ x1 x2 G hl h
      rw [fX9_adds_28] at h
      cases h
    | succ n ih =>
      intro H locs ls σ x1 x2 G hl h
      rw [fX9_adds_28] at h
      refine lv_iload_n hx hb dX9_adds_28 rfl (lv_at hl 2 rfl) ?_
      refine lv_iconst (v := 4) hx hb dX9_adds_29 (by decide) ?_
      refine lv_icmp_ge (tgt := 78) hx hb dX9_adds_30 (by decide) (fun c7 => ?_) (fun c7 => ?_)
      · have h := g_it h c7
        refine lv_aload_n hx hb dX9_adds_78 rfl (lv_at hl 0 rfl) ?_
        refine gg9_0 C G ok.1 ok.2.1.1 u_fl_RX9_7 dX9_adds_79 ?_
        refine lv_bipush (v := 99) hx hb dX9_adds_82 (by decide) ?_
        refine lv_iload_n hx hb dX9_adds_84 rfl (lv_at hl 1 rfl) ?_
        refine lv_iadd hx hb dX9_adds_85 ?_
        refine lv_aload_n hx hb dX9_adds_86 rfl (lv_at hl 0 rfl) ?_
        refine gg9_7 C G ok.1 ok.2.1.2.2.2.2.2.1 u_fl_RX9_26 dX9_adds_87 ?_
        refine lv_bipush (v := 8) hx hb dX9_adds_90 (by decide) ?_
        obtain ⟨c8, h⟩ := g_chk h
        refine g_iald C G ok.2.2.2.2.2.2.2.1 c8 dX9_adds_92 ?_
        obtain ⟨c9, h⟩ := g_chk h
        obtain ⟨σ10, e_σ10, h⟩ := g_let h
        refine g_iast C G ok.2.2.1 c9 dX9_adds_93 (fun H locs G => ?_)
        rw [e_σ10] at G
        refine lv_aload_n hx hb dX9_adds_94 rfl (lv_at hl 0 rfl) ?_
        refine gg9_0 C G ok.1 ok.2.1.1 u_fl_RX9_7 dX9_adds_95 ?_
        refine lv_bipush (v := 111) hx hb dX9_adds_98 (by decide) ?_
        refine lv_iload_n hx hb dX9_adds_100 rfl (lv_at hl 1 rfl) ?_
        refine lv_iadd hx hb dX9_adds_101 ?_
        refine lv_iconst (v := 0) hx hb dX9_adds_102 (by decide) ?_
        obtain ⟨c11, h⟩ := g_chk h
        obtain ⟨σ12, e_σ12, h⟩ := g_let h
        refine g_iast C G ok.2.2.1 c11 dX9_adds_103 (fun H locs G => ?_)
        rw [e_σ12] at G
        refine lv_aload_n hx hb dX9_adds_104 rfl (lv_at hl 0 rfl) ?_
        refine gg9_0 C G ok.1 ok.2.1.1 u_fl_RX9_7 dX9_adds_105 ?_
        refine lv_bipush (v := 123) hx hb dX9_adds_108 (by decide) ?_
        refine lv_iload_n hx hb dX9_adds_110 rfl (lv_at hl 1 rfl) ?_
        refine lv_iadd hx hb dX9_adds_111 ?_
        refine lv_iconst (v := (-1)) hx hb dX9_adds_112 (by decide) ?_
        obtain ⟨c13, h⟩ := g_chk h
        obtain ⟨σ14, e_σ14, h⟩ := g_let h
        refine g_iast C G ok.2.2.1 c13 dX9_adds_113 (fun H locs G => ?_)
        rw [e_σ14] at G
        refine lv_aload_n hx hb dX9_adds_114 rfl (lv_at hl 0 rfl) ?_
        refine gg9_0 C G ok.1 ok.2.1.1 u_fl_RX9_7 dX9_adds_115 ?_
        refine lv_iconst (v := 2) hx hb dX9_adds_118 (by decide) ?_
        refine lv_dup2_11 hx hb dX9_adds_119 rfl rfl ?_
        obtain ⟨c15, h⟩ := g_chk h
        refine g_iald C G ok.2.2.1 c15 dX9_adds_120 ?_
        refine lv_iconst (v := 1) hx hb dX9_adds_121 (by decide) ?_
        refine lv_iadd hx hb dX9_adds_122 ?_
        obtain ⟨c16, h⟩ := g_chk h
        obtain ⟨σ17, e_σ17, h⟩ := g_let h
        refine g_iast C G ok.2.2.1 c16 dX9_adds_123 (fun H locs G => ?_)
        rw [e_σ17] at G
        refine lv_iload_n hx hb dX9_adds_124 rfl (lv_at hl 1 rfl) ?_
        exact ret dX9_adds_125 rfl G (Prod.mk.inj (Option.some.inj h))
      · have h := g_if h c7
        refine lv_aload_n hx hb dX9_adds_33 rfl (lv_at hl 0 rfl) ?_
        refine gg9_0 C G ok.1 ok.2.1.1 u_fl_RX9_7 dX9_adds_34 ?_
        refine lv_iconst (v := 3) hx hb dX9_adds_37 (by decide) ?_
        refine lv_iconst (v := 4) hx hb dX9_adds_38 (by decide) ?_
        refine lv_iload_n hx hb dX9_adds_39 rfl (lv_at hl 1 rfl) ?_
        refine lv_imul hx hb dX9_adds_40 ?_
        refine lv_iadd hx hb dX9_adds_41 ?_
        refine lv_iload_n hx hb dX9_adds_42 rfl (lv_at hl 2 rfl) ?_
        refine lv_iadd hx hb dX9_adds_43 ?_
        refine lv_aload_n hx hb dX9_adds_44 rfl (lv_at hl 0 rfl) ?_
        refine gg9_7 C G ok.1 ok.2.1.2.2.2.2.2.1 u_fl_RX9_26 dX9_adds_45 ?_
        refine lv_iload_n hx hb dX9_adds_48 rfl (lv_at hl 2 rfl) ?_
        obtain ⟨c18, h⟩ := g_chk h
        refine g_iald C G ok.2.2.2.2.2.2.2.1 c18 dX9_adds_49 ?_
        obtain ⟨c19, h⟩ := g_chk h
        obtain ⟨σ20, e_σ20, h⟩ := g_let h
        refine g_iast C G ok.2.2.1 c19 dX9_adds_50 (fun H locs G => ?_)
        rw [e_σ20] at G
        refine lv_aload_n hx hb dX9_adds_51 rfl (lv_at hl 0 rfl) ?_
        refine gg9_0 C G ok.1 ok.2.1.1 u_fl_RX9_7 dX9_adds_52 ?_
        refine lv_bipush (v := 51) hx hb dX9_adds_55 (by decide) ?_
        refine lv_iconst (v := 4) hx hb dX9_adds_57 (by decide) ?_
        refine lv_iload_n hx hb dX9_adds_58 rfl (lv_at hl 1 rfl) ?_
        refine lv_imul hx hb dX9_adds_59 ?_
        refine lv_iadd hx hb dX9_adds_60 ?_
        refine lv_iload_n hx hb dX9_adds_61 rfl (lv_at hl 2 rfl) ?_
        refine lv_iadd hx hb dX9_adds_62 ?_
        refine lv_aload_n hx hb dX9_adds_63 rfl (lv_at hl 0 rfl) ?_
        refine gg9_7 C G ok.1 ok.2.1.2.2.2.2.2.1 u_fl_RX9_26 dX9_adds_64 ?_
        refine lv_iconst (v := 4) hx hb dX9_adds_67 (by decide) ?_
        refine lv_iload_n hx hb dX9_adds_68 rfl (lv_at hl 2 rfl) ?_
        refine lv_iadd hx hb dX9_adds_69 ?_
        obtain ⟨c21, h⟩ := g_chk h
        refine g_iald C G ok.2.2.2.2.2.2.2.1 c21 dX9_adds_70 ?_
        obtain ⟨c22, h⟩ := g_chk h
        obtain ⟨σ23, e_σ23, h⟩ := g_let h
        refine g_iast C G ok.2.2.1 c22 dX9_adds_71 (fun H locs G => ?_)
        rw [e_σ23] at G
        obtain ⟨w24, e_w24⟩ : ∃ y : Int32, y = x2 + 1 := ⟨_, rfl⟩
        have h := g_let2 e_w24 h
        refine lv_iinc (v := w24) (lv' := [(2, .int w24), (0, .ref (xN X + t)), (1, .int x1)]) hx hb dX9_adds_72 hl (k := 2) rfl (by rw [e_w24]; rfl) (by decide) rfl (fun ls hl => ?_)
        refine lv_goto (tgt := 28) hx hb dX9_adds_75 (by decide) ?_
        exact ih _ _ _ σ23 x1 w24 G (lv_sub hl [1, 2, 0] rfl) h
  unfold fX9_adds at h
  refine lv_aload_n hx hb dX9_adds_0 rfl (lv_at hl 0 rfl) ?_
  refine gg9_0 C G ok.1 ok.2.1.1 u_fl_RX9_7 dX9_adds_1 ?_
  refine lv_iconst (v := 2) hx hb dX9_adds_4 (by decide) ?_
  obtain ⟨c1, h⟩ := g_chk h
  refine g_iald C G ok.2.2.1 c1 dX9_adds_5 ?_
  refine lv_bipush (v := 12) hx hb dX9_adds_6 (by decide) ?_
  refine lv_icmp_ne (tgt := 15) hx hb dX9_adds_8 (by decide) (fun c2 => ?_) (fun c2 => ?_)
  · have h := g_if h c2
    refine lv_aload_n hx hb dX9_adds_15 rfl (lv_at hl 0 rfl) ?_
    obtain ⟨σ4, e_σ4, h⟩ := g_bind h
    refine g_callv (g_runV (n := 0) (As := []) (rest := []) C G (mX9_records l X σ σ4 t ok e_σ4) ok.1.2 (gE_9 ok.1.1) rfl (g_goodV u_ml_RX9_73 u_im_yX9_records u_se_yX9_records u_in_RX9 u_co_yX9_records) rfl rfl rfl (by decide +kernel) ⟨Nat.le_of_ble_eq_true rfl, Nat.le_of_ble_eq_true rfl⟩ rfl hl.1 rfl (Nat.le_of_ble_eq_true rfl) dX9_adds_16 ⟨Nat.zero_le _, Nat.zero_le _⟩) G (fun H locs G => ?_)
    refine lv_aload_n hx hb dX9_adds_19 rfl (lv_at hl 0 rfl) ?_
    refine gg9_0 C G ok.1 ok.2.1.1 u_fl_RX9_7 dX9_adds_20 ?_
    refine lv_iconst (v := 2) hx hb dX9_adds_23 (by decide) ?_
    obtain ⟨c5, h⟩ := g_chk h
    refine g_iald C G ok.2.2.1 c5 dX9_adds_24 ?_
    refine lv_topi (fun w6 e_w6 => ?_)
    have h := g_let2 e_w6 h
    refine lv_istore_n (lv' := [(1, .int w6), (0, .ref (xN X + t))]) hx hb dX9_adds_25 rfl hl (by decide) rfl (fun ls hl => ?_)
    refine lv_iconst (v := 0) hx hb dX9_adds_26 (by decide) ?_
    refine lv_istore_n (lv' := [(2, .int 0), (1, .int w6), (0, .ref (xN X + t))]) hx hb dX9_adds_27 rfl hl (by decide) rfl (fun ls hl => ?_)
    exact L28  gF _ _ _ σ4 w6 0 G (lv_sub hl [2, 1, 0] rfl) h
  · have h := g_it h c2
    refine lv_sipush (v := (-1003)) hx hb dX9_adds_11 (by decide) ?_
    exact ret dX9_adds_14 rfl G (Prod.mk.inj (Option.some.inj h))

def fX9_addScrap_91 (t : Nat) (a1 : Int32) (a2 : Int32) (a3 : Int32) (a4 : Int32) (a5 : Int32) : Nat → gM → Int32 → Option (Int32 × gM)
  | 0, _, _ => none
  | n + 1, σ, x6 =>
    (if 8 ≤ x6 then
      (if ¬ ((8 : Int32) < 0 ∨ gln (t + 6) ≤ (8 : Int32).toNatClampNeg) then
      (gl (gset σ (t + 6) (upd (σ (t + 6)) (8 : Int32).toNatClampNeg a5)) fun σ21 =>
      ((fX9_adds σ21 t).bind fun pv22 => gl pv22.1 fun v22 => gl pv22.2 fun σ23 =>
      some (v22, σ23)))
      else none)
    else
      (if ¬ (x6 < 0 ∨ gln (t + 6) ≤ x6.toNatClampNeg) then
      (gl (gset σ (t + 6) (upd (σ (t + 6)) x6.toNatClampNeg 0)) fun σ25 =>
      (gl (x6 + 1) fun w26 =>
      fX9_addScrap_91 t a1 a2 a3 a4 a5 n σ25 w26))
      else none))

def fX9_addScrap (σ : gM) (t : Nat) (a1 : Int32) (a2 : Int32) (a3 : Int32) (a4 : Int32) (a5 : Int32) : Option (Int32 × gM) :=
  ((fX9_in σ a1 (-1) 999).bind fun v1 =>
  (if v1 = 0 then
    some ((-1001), σ)
  else
    ((fX9_in σ a2 (-1) 999).bind fun v3 =>
    (if v3 = 0 then
      some ((-1001), σ)
    else
      ((fX9_in σ a3 (-1) 999).bind fun v5 =>
      (if v5 = 0 then
        some ((-1001), σ)
      else
        ((fX9_in σ a4 (-1) 999).bind fun v7 =>
        (if v7 = 0 then
          some ((-1001), σ)
        else
          ((fX9_in σ a5 0 1).bind fun v9 =>
          (if v9 = 0 then
            some ((-1001), σ)
          else
            (if ¬ ((0 : Int32) < 0 ∨ gln (t + 6) ≤ (0 : Int32).toNatClampNeg) then
            (gl (gset σ (t + 6) (upd (σ (t + 6)) (0 : Int32).toNatClampNeg a1)) fun σ12 =>
            (if ¬ ((1 : Int32) < 0 ∨ gln (t + 6) ≤ (1 : Int32).toNatClampNeg) then
            (gl (gset σ12 (t + 6) (upd (σ12 (t + 6)) (1 : Int32).toNatClampNeg a2)) fun σ14 =>
            (if ¬ ((2 : Int32) < 0 ∨ gln (t + 6) ≤ (2 : Int32).toNatClampNeg) then
            (gl (gset σ14 (t + 6) (upd (σ14 (t + 6)) (2 : Int32).toNatClampNeg a3)) fun σ16 =>
            (if ¬ ((3 : Int32) < 0 ∨ gln (t + 6) ≤ (3 : Int32).toNatClampNeg) then
            (gl (gset σ16 (t + 6) (upd (σ16 (t + 6)) (3 : Int32).toNatClampNeg a4)) fun σ18 =>
            fX9_addScrap_91 t a1 a2 a3 a4 a5 gF σ18 4)
            else none))
            else none))
            else none))
            else none)))))))))))
set_option maxHeartbeats 4000000 in
set_option maxRecDepth 100000 in
theorem mX9_addScrap (l : Launch) (X : gX) (σ σ' : gM) (t : Nat) (a1 : Int32) (a2 : Int32) (a3 : Int32) (a4 : Int32) (a5 : Int32) (r : Int32) (ok : gok9 X t) (h : fX9_addScrap σ t a1 a2 a3 a4 a5 = some (r, σ')) : Met l yX9_addScrap (Cond.code yX9_addScrap cX9_addScrap 7 (some .int) :: gBig) ({ frames := 2, cells := 0, slots := 0, locals := 43 }) (gPc X σ [.ref (xN X + t), .int a1, .int a2, .int a3, .int a4, .int a5]) (gQi X σ' r) 0 0 (xA X) := by
  refine g_meti (cc := cX9_addScrap) (maxL := 7) (own := RX9) (by decide) rfl rfl (Nat.le_of_ble_eq_true rfl) ?_
  intro p ev s m args below meth c Q C G ret ls hl
  obtain ⟨⟨hx, hb, hml, hown, hts⟩, hK⟩ := id C
  have hl : lv_has ls 7 [(0, .ref (xN X + t)), (1, .int a1), (2, .int a2), (3, .int a3), (4, .int a4), (5, .int a5)] := hl
  have L91 : ∀ (n : Nat) (H : Heap) (locs : List Loc) (ls : Array Slot) (σ : gM) (x6 : Int32), gG X σ s H locs → lv_has ls 7 [(0, .ref (xN X + t)), (5, .int a5), (6, .int x6)] → fX9_addScrap_91 t a1 a2 a3 a4 a5 n σ x6 = some (r, σ') → W p l ev ({ frames := 2, cells := 0, slots := 0, locals := 43 }) s m args below meth c H locs 0 0 Q (F0 m 91 ls []) := by
    intro n
    induction n with
    | zero =>
      intro H locs ls σ x6 G hl h
      rw [fX9_addScrap_91] at h
      cases h
    | succ n ih =>
      intro H locs ls σ x6 G hl h
      rw [fX9_addScrap_91] at h
      refine lv_iload hx hb dX9_addScrap_91 (lv_at hl 2 rfl) ?_
      refine lv_bipush (v := 8) hx hb dX9_addScrap_93 (by decide) ?_
      refine lv_icmp_ge (tgt := 112) hx hb dX9_addScrap_95 (by decide) (fun c19 => ?_) (fun c19 => ?_)
      · have h := g_it h c19
        refine lv_aload_n hx hb dX9_addScrap_112 rfl (lv_at hl 0 rfl) ?_
        refine gg9_7 C G ok.1 ok.2.1.2.2.2.2.2.1 u_fl_RX9_26 dX9_addScrap_113 ?_
        refine lv_bipush (v := 8) hx hb dX9_addScrap_116 (by decide) ?_
        refine lv_iload hx hb dX9_addScrap_118 (lv_at hl 1 rfl) ?_
        obtain ⟨c20, h⟩ := g_chk h
        obtain ⟨σ21, e_σ21, h⟩ := g_let h
        refine g_iast C G ok.2.2.2.2.2.2.2.1 c20 dX9_addScrap_120 (fun H locs G => ?_)
        rw [e_σ21] at G
        refine lv_aload_n hx hb dX9_addScrap_121 rfl (lv_at hl 0 rfl) ?_
        obtain ⟨⟨v22, σ23⟩, e_v22, h⟩ := g_bind h
        have h := g_let2 (v := v22) rfl h
        have h := g_let2 (v := σ23) rfl h
        refine g_calli (g_runV (n := 0) (As := []) (rest := []) C G (mX9_adds l X σ21 σ23 t v22 ok e_v22) ok.1.2 (gE_9 ok.1.1) rfl (g_goodV u_ml_RX9_80 u_im_yX9_adds u_se_yX9_adds u_in_RX9 u_co_yX9_adds) rfl rfl rfl (by decide +kernel) ⟨Nat.le_of_ble_eq_true rfl, Nat.le_of_ble_eq_true rfl⟩ rfl hl.1 rfl (Nat.le_of_ble_eq_true rfl) dX9_addScrap_122 ⟨Nat.zero_le _, Nat.zero_le _⟩) G (fun H locs G => ?_)
        exact ret dX9_addScrap_125 rfl G (Prod.mk.inj (Option.some.inj h))
      · have h := g_if h c19
        refine lv_aload_n hx hb dX9_addScrap_98 rfl (lv_at hl 0 rfl) ?_
        refine gg9_7 C G ok.1 ok.2.1.2.2.2.2.2.1 u_fl_RX9_26 dX9_addScrap_99 ?_
        refine lv_iload hx hb dX9_addScrap_102 (lv_at hl 2 rfl) ?_
        refine lv_iconst (v := 0) hx hb dX9_addScrap_104 (by decide) ?_
        obtain ⟨c24, h⟩ := g_chk h
        obtain ⟨σ25, e_σ25, h⟩ := g_let h
        refine g_iast C G ok.2.2.2.2.2.2.2.1 c24 dX9_addScrap_105 (fun H locs G => ?_)
        rw [e_σ25] at G
        obtain ⟨w26, e_w26⟩ : ∃ y : Int32, y = x6 + 1 := ⟨_, rfl⟩
        have h := g_let2 e_w26 h
        refine lv_iinc (v := w26) (lv' := [(6, .int w26), (0, .ref (xN X + t)), (5, .int a5)]) hx hb dX9_addScrap_106 hl (k := 2) rfl (by rw [e_w26]; rfl) (by decide) rfl (fun ls hl => ?_)
        refine lv_goto (tgt := 91) hx hb dX9_addScrap_109 (by decide) ?_
        exact ih _ _ _ σ25 w26 G (lv_sub hl [1, 2, 0] rfl) h
  unfold fX9_addScrap at h
  refine lv_iload_n hx hb dX9_addScrap_0 rfl (lv_at hl 1 rfl) ?_
  refine lv_iconst (v := (-1)) hx hb dX9_addScrap_1 (by decide) ?_
  refine lv_sipush (v := 999) hx hb dX9_addScrap_2 (by decide) ?_
  obtain ⟨v1, e_v1, h⟩ := g_bind h
  refine g_calli (g_runS (n := 3) (As := [.int a1, .int (-1), .int 999]) (rest := []) C G (mX9_in l X σ a1 (-1) 999 v1 e_v1) (g_goodS u_ml_RX9_38 u_st_yX9_in u_in_RX9 u_co_yX9_in) rfl rfl rfl (by decide +kernel) ⟨Nat.le_of_ble_eq_true rfl, Nat.le_of_ble_eq_true rfl⟩ rfl hl.1 rfl (Nat.le_of_ble_eq_true rfl) dX9_addScrap_5 ⟨Nat.zero_le _, Nat.zero_le _⟩) G (fun H locs G => ?_)
  refine lv_if_eq (tgt := 55) hx hb dX9_addScrap_8 (by decide) (fun c2 => ?_) (fun c2 => ?_)
  · have h := g_it h c2
    refine lv_sipush (v := (-1001)) hx hb dX9_addScrap_55 (by decide) ?_
    exact ret dX9_addScrap_58 rfl G (Prod.mk.inj (Option.some.inj h))
  · have h := g_if h c2
    refine lv_iload_n hx hb dX9_addScrap_11 rfl (lv_at hl 2 rfl) ?_
    refine lv_iconst (v := (-1)) hx hb dX9_addScrap_12 (by decide) ?_
    refine lv_sipush (v := 999) hx hb dX9_addScrap_13 (by decide) ?_
    obtain ⟨v3, e_v3, h⟩ := g_bind h
    refine g_calli (g_runS (n := 3) (As := [.int a2, .int (-1), .int 999]) (rest := []) C G (mX9_in l X σ a2 (-1) 999 v3 e_v3) (g_goodS u_ml_RX9_38 u_st_yX9_in u_in_RX9 u_co_yX9_in) rfl rfl rfl (by decide +kernel) ⟨Nat.le_of_ble_eq_true rfl, Nat.le_of_ble_eq_true rfl⟩ rfl hl.1 rfl (Nat.le_of_ble_eq_true rfl) dX9_addScrap_16 ⟨Nat.zero_le _, Nat.zero_le _⟩) G (fun H locs G => ?_)
    refine lv_if_eq (tgt := 55) hx hb dX9_addScrap_19 (by decide) (fun c4 => ?_) (fun c4 => ?_)
    · have h := g_it h c4
      refine lv_sipush (v := (-1001)) hx hb dX9_addScrap_55 (by decide) ?_
      exact ret dX9_addScrap_58 rfl G (Prod.mk.inj (Option.some.inj h))
    · have h := g_if h c4
      refine lv_iload_n hx hb dX9_addScrap_22 rfl (lv_at hl 3 rfl) ?_
      refine lv_iconst (v := (-1)) hx hb dX9_addScrap_23 (by decide) ?_
      refine lv_sipush (v := 999) hx hb dX9_addScrap_24 (by decide) ?_
      obtain ⟨v5, e_v5, h⟩ := g_bind h
      refine g_calli (g_runS (n := 3) (As := [.int a3, .int (-1), .int 999]) (rest := []) C G (mX9_in l X σ a3 (-1) 999 v5 e_v5) (g_goodS u_ml_RX9_38 u_st_yX9_in u_in_RX9 u_co_yX9_in) rfl rfl rfl (by decide +kernel) ⟨Nat.le_of_ble_eq_true rfl, Nat.le_of_ble_eq_true rfl⟩ rfl hl.1 rfl (Nat.le_of_ble_eq_true rfl) dX9_addScrap_27 ⟨Nat.zero_le _, Nat.zero_le _⟩) G (fun H locs G => ?_)
      refine lv_if_eq (tgt := 55) hx hb dX9_addScrap_30 (by decide) (fun c6 => ?_) (fun c6 => ?_)
      · have h := g_it h c6
        refine lv_sipush (v := (-1001)) hx hb dX9_addScrap_55 (by decide) ?_
        exact ret dX9_addScrap_58 rfl G (Prod.mk.inj (Option.some.inj h))
      · have h := g_if h c6
        refine lv_iload hx hb dX9_addScrap_33 (lv_at hl 4 rfl) ?_
        refine lv_iconst (v := (-1)) hx hb dX9_addScrap_35 (by decide) ?_
        refine lv_sipush (v := 999) hx hb dX9_addScrap_36 (by decide) ?_
        obtain ⟨v7, e_v7, h⟩ := g_bind h
        refine g_calli (g_runS (n := 3) (As := [.int a4, .int (-1), .int 999]) (rest := []) C G (mX9_in l X σ a4 (-1) 999 v7 e_v7) (g_goodS u_ml_RX9_38 u_st_yX9_in u_in_RX9 u_co_yX9_in) rfl rfl rfl (by decide +kernel) ⟨Nat.le_of_ble_eq_true rfl, Nat.le_of_ble_eq_true rfl⟩ rfl hl.1 rfl (Nat.le_of_ble_eq_true rfl) dX9_addScrap_39 ⟨Nat.zero_le _, Nat.zero_le _⟩) G (fun H locs G => ?_)
        refine lv_if_eq (tgt := 55) hx hb dX9_addScrap_42 (by decide) (fun c8 => ?_) (fun c8 => ?_)
        · have h := g_it h c8
          refine lv_sipush (v := (-1001)) hx hb dX9_addScrap_55 (by decide) ?_
          exact ret dX9_addScrap_58 rfl G (Prod.mk.inj (Option.some.inj h))
        · have h := g_if h c8
          refine lv_iload hx hb dX9_addScrap_45 (lv_at hl 5 rfl) ?_
          refine lv_iconst (v := 0) hx hb dX9_addScrap_47 (by decide) ?_
          refine lv_iconst (v := 1) hx hb dX9_addScrap_48 (by decide) ?_
          obtain ⟨v9, e_v9, h⟩ := g_bind h
          refine g_calli (g_runS (n := 3) (As := [.int a5, .int 0, .int 1]) (rest := []) C G (mX9_in l X σ a5 0 1 v9 e_v9) (g_goodS u_ml_RX9_38 u_st_yX9_in u_in_RX9 u_co_yX9_in) rfl rfl rfl (by decide +kernel) ⟨Nat.le_of_ble_eq_true rfl, Nat.le_of_ble_eq_true rfl⟩ rfl hl.1 rfl (Nat.le_of_ble_eq_true rfl) dX9_addScrap_49 ⟨Nat.zero_le _, Nat.zero_le _⟩) G (fun H locs G => ?_)
          refine lv_if_ne (tgt := 59) hx hb dX9_addScrap_52 (by decide) (fun c10 => ?_) (fun c10 => ?_)
          · have h := g_if h c10
            refine lv_aload_n hx hb dX9_addScrap_59 rfl (lv_at hl 0 rfl) ?_
            refine gg9_7 C G ok.1 ok.2.1.2.2.2.2.2.1 u_fl_RX9_26 dX9_addScrap_60 ?_
            refine lv_iconst (v := 0) hx hb dX9_addScrap_63 (by decide) ?_
            refine lv_iload_n hx hb dX9_addScrap_64 rfl (lv_at hl 1 rfl) ?_
            obtain ⟨c11, h⟩ := g_chk h
            obtain ⟨σ12, e_σ12, h⟩ := g_let h
            refine g_iast C G ok.2.2.2.2.2.2.2.1 c11 dX9_addScrap_65 (fun H locs G => ?_)
            rw [e_σ12] at G
            refine lv_aload_n hx hb dX9_addScrap_66 rfl (lv_at hl 0 rfl) ?_
            refine gg9_7 C G ok.1 ok.2.1.2.2.2.2.2.1 u_fl_RX9_26 dX9_addScrap_67 ?_
            refine lv_iconst (v := 1) hx hb dX9_addScrap_70 (by decide) ?_
            refine lv_iload_n hx hb dX9_addScrap_71 rfl (lv_at hl 2 rfl) ?_
            obtain ⟨c13, h⟩ := g_chk h
            obtain ⟨σ14, e_σ14, h⟩ := g_let h
            refine g_iast C G ok.2.2.2.2.2.2.2.1 c13 dX9_addScrap_72 (fun H locs G => ?_)
            rw [e_σ14] at G
            refine lv_aload_n hx hb dX9_addScrap_73 rfl (lv_at hl 0 rfl) ?_
            refine gg9_7 C G ok.1 ok.2.1.2.2.2.2.2.1 u_fl_RX9_26 dX9_addScrap_74 ?_
            refine lv_iconst (v := 2) hx hb dX9_addScrap_77 (by decide) ?_
            refine lv_iload_n hx hb dX9_addScrap_78 rfl (lv_at hl 3 rfl) ?_
            obtain ⟨c15, h⟩ := g_chk h
            obtain ⟨σ16, e_σ16, h⟩ := g_let h
            refine g_iast C G ok.2.2.2.2.2.2.2.1 c15 dX9_addScrap_79 (fun H locs G => ?_)
            rw [e_σ16] at G
            refine lv_aload_n hx hb dX9_addScrap_80 rfl (lv_at hl 0 rfl) ?_
            refine gg9_7 C G ok.1 ok.2.1.2.2.2.2.2.1 u_fl_RX9_26 dX9_addScrap_81 ?_
            refine lv_iconst (v := 3) hx hb dX9_addScrap_84 (by decide) ?_
            refine lv_iload hx hb dX9_addScrap_85 (lv_at hl 4 rfl) ?_
            obtain ⟨c17, h⟩ := g_chk h
            obtain ⟨σ18, e_σ18, h⟩ := g_let h
            refine g_iast C G ok.2.2.2.2.2.2.2.1 c17 dX9_addScrap_87 (fun H locs G => ?_)
            rw [e_σ18] at G
            refine lv_iconst (v := 4) hx hb dX9_addScrap_88 (by decide) ?_
            refine lv_istore (lv' := [(6, .int 4), (0, .ref (xN X + t)), (1, .int a1), (2, .int a2), (3, .int a3), (4, .int a4), (5, .int a5)]) hx hb dX9_addScrap_89 hl (by decide) rfl (fun ls hl => ?_)
            exact L91  gF _ _ _ σ18 4 G (lv_sub hl [1, 6, 0] rfl) h
          · have h := g_it h c10
            refine lv_sipush (v := (-1001)) hx hb dX9_addScrap_55 (by decide) ?_
            exact ret dX9_addScrap_58 rfl G (Prod.mk.inj (Option.some.inj h))

def fX9_signAt (σ : gM) (t : Nat) (a1 : Int32) : Option (Int32) :=
  (if (σ t 4) ≤ a1 then
    some 0
  else
    (if ¬ (a1 < 0 ∨ gln (t + 3) ≤ a1.toNatClampNeg) then
    some (σ (t + 3) a1.toNatClampNeg)
    else none))
set_option maxHeartbeats 4000000 in
set_option maxRecDepth 100000 in
theorem mX9_signAt (l : Launch) (X : gX) (σ : gM) (t : Nat) (a1 : Int32) (r : Int32) (ok : gok9 X t) (h : fX9_signAt σ t a1 = some r) : Met l yX9_signAt (Cond.code yX9_signAt cX9_signAt 2 (some .int) :: gBig) ({ frames := 0, cells := 0, slots := 0, locals := 0 }) (gPc X σ [.ref (xN X + t), .int a1]) (gQi X σ r) 0 0 (xA X) := by
  refine g_meti (cc := cX9_signAt) (maxL := 2) (own := RX9) (by decide) rfl rfl (Nat.le_of_ble_eq_true rfl) ?_
  intro p ev s m args below meth c Q C G ret ls hl
  obtain ⟨⟨hx, hb, hml, hown, hts⟩, hK⟩ := id C
  have hl : lv_has ls 2 [(0, .ref (xN X + t)), (1, .int a1)] := hl
  unfold fX9_signAt at h
  refine lv_iload_n hx hb dX9_signAt_0 rfl (lv_at hl 1 rfl) ?_
  refine lv_aload_n hx hb dX9_signAt_1 rfl (lv_at hl 0 rfl) ?_
  refine gg9_4 C G ok.1 u_fl_RX9_105 dX9_signAt_2 ?_
  refine lv_icmp_ge (tgt := 17) hx hb dX9_signAt_5 (by decide) (fun c1 => ?_) (fun c1 => ?_)
  · have h := g_it h c1
    refine lv_iconst (v := 0) hx hb dX9_signAt_17 (by decide) ?_
    exact ret dX9_signAt_18 rfl G ⟨Option.some.inj h, rfl⟩
  · have h := g_if h c1
    refine lv_aload_n hx hb dX9_signAt_8 rfl (lv_at hl 0 rfl) ?_
    refine gg9_3 C G ok.1 ok.2.1.2.2.1 u_fl_RX9_16 dX9_signAt_9 ?_
    refine lv_iload_n hx hb dX9_signAt_12 rfl (lv_at hl 1 rfl) ?_
    obtain ⟨c2, h⟩ := g_chk h
    refine g_cald C G ok.2.2.2.2.1 c2 dX9_signAt_13 ?_
    refine lv_goto (tgt := 18) hx hb dX9_signAt_14 (by decide) ?_
    exact ret dX9_signAt_18 rfl G ⟨Option.some.inj h, rfl⟩

def fX9_isDigit (σ : gM) (t : Nat) (a1 : Int32) : Option (Int32) :=
  ((fX9_signAt σ t a1).bind fun v1 =>
  ((fX9_in σ v1 48 57).bind fun v2 =>
  (if v2 = 0 ∨ v2 = 1 then
  some v2
  else none)))
set_option maxHeartbeats 4000000 in
set_option maxRecDepth 100000 in
theorem mX9_isDigit (l : Launch) (X : gX) (σ : gM) (t : Nat) (a1 : Int32) (r : Int32) (ok : gok9 X t) (h : fX9_isDigit σ t a1 = some r) : Met l yX9_isDigit (Cond.code yX9_isDigit cX9_isDigit 2 (some .boolean) :: gBig) ({ frames := 1, cells := 0, slots := 0, locals := 22 }) (gPc X σ [.ref (xN X + t), .int a1]) (gQi X σ r) 0 0 (xA X) := by
  refine g_meti (cc := cX9_isDigit) (maxL := 2) (own := RX9) (by decide) rfl rfl (Nat.le_of_ble_eq_true rfl) ?_
  intro p ev s m args below meth c Q C G ret ls hl
  obtain ⟨⟨hx, hb, hml, hown, hts⟩, hK⟩ := id C
  have hl : lv_has ls 2 [(0, .ref (xN X + t)), (1, .int a1)] := hl
  unfold fX9_isDigit at h
  refine lv_aload_n hx hb dX9_isDigit_0 rfl (lv_at hl 0 rfl) ?_
  refine lv_iload_n hx hb dX9_isDigit_1 rfl (lv_at hl 1 rfl) ?_
  obtain ⟨v1, e_v1, h⟩ := g_bind h
  refine g_calli (g_runV (n := 1) (As := [.int a1]) (rest := []) C G (mX9_signAt l X σ t a1 v1 ok e_v1) ok.1.2 (gE_9 ok.1.1) rfl (g_goodV u_ml_RX9_131 u_im_yX9_signAt u_se_yX9_signAt u_in_RX9 u_co_yX9_signAt) rfl rfl rfl (by decide +kernel) ⟨Nat.le_of_ble_eq_true rfl, Nat.le_of_ble_eq_true rfl⟩ rfl hl.1 rfl (Nat.le_of_ble_eq_true rfl) dX9_isDigit_2 ⟨Nat.zero_le _, Nat.zero_le _⟩) G (fun H locs G => ?_)
  refine lv_bipush (v := 48) hx hb dX9_isDigit_5 (by decide) ?_
  refine lv_bipush (v := 57) hx hb dX9_isDigit_7 (by decide) ?_
  obtain ⟨v2, e_v2, h⟩ := g_bind h
  refine g_calli (g_runS (n := 3) (As := [.int v1, .int 48, .int 57]) (rest := []) C G (mX9_in l X σ v1 48 57 v2 e_v2) (g_goodS u_ml_RX9_38 u_st_yX9_in u_in_RX9 u_co_yX9_in) rfl rfl rfl (by decide +kernel) ⟨Nat.le_of_ble_eq_true rfl, Nat.le_of_ble_eq_true rfl⟩ rfl hl.1 rfl (Nat.le_of_ble_eq_true rfl) dX9_isDigit_9 ⟨Nat.zero_le _, Nat.zero_le _⟩) G (fun H locs G => ?_)
  obtain ⟨c3, h⟩ := g_chk h
  exact ret dX9_isDigit_12 (g_z c3) G ⟨Option.some.inj h, rfl⟩
