def fX9_reason (σ : gM) (t : Nat) (a1 : Int32) (a2 : Int32) : Option (Int32 × gM) :=
  ((fX9_isPlace σ t a1).bind fun v1 =>
  (if v1 = 0 then
    some ((-1001), σ)
  else
    ((fX9_in σ a2 0 3).bind fun v3 =>
    (if v3 = 0 then
      some ((-1001), σ)
    else
      ((fX9_scrapAt σ t a1).bind fun v5 =>
      (if v5 = (-1) then
        some ((-1004), σ)
      else
        (if ¬ ((111 + v5) < 0 ∨ gln (t + 1) ≤ (111 + v5).toNatClampNeg) then
        ((fX9_reasonOf σ t v5 a1 (σ (t + 1) (111 + v5).toNatClampNeg) a2).bind fun pv9 => gl pv9.1 fun v9 => gl pv9.2 fun σ10 =>
        (if v9 = (-1) then
          some ((-1004), σ10)
        else
          some (v9, σ10)))
        else none)))))))
set_option maxHeartbeats 4000000 in
set_option maxRecDepth 100000 in
theorem mX9_reason (l : Launch) (X : gX) (σ σ' : gM) (t : Nat) (a1 : Int32) (a2 : Int32) (r : Int32) (ok : gok9 X t) (h : fX9_reason σ t a1 a2 = some (r, σ')) : Met l yX9_reason (Cond.code yX9_reason cX9_reason 5 (some .int) :: gBig) ({ frames := 4, cells := 0, slots := 0, locals := 99 }) (gPc X σ [.ref (xN X + t), .int a1, .int a2]) (gQi X σ' r) 0 0 (xA X) := by
  refine g_meti (cc := cX9_reason) (maxL := 5) (own := RX9) (by decide) rfl rfl (Nat.le_of_ble_eq_true rfl) ?_
  intro p ev s m args below meth c Q C G ret ls hl
  obtain ⟨⟨hx, hb, hml, hown, hts⟩, hK⟩ := id C
  have hl : lv_has ls 5 [(0, .ref (xN X + t)), (1, .int a1), (2, .int a2)] := hl
  unfold fX9_reason at h
  refine lv_aload_n hx hb dX9_reason_0 rfl (lv_at hl 0 rfl) ?_
  refine lv_iload_n hx hb dX9_reason_1 rfl (lv_at hl 1 rfl) ?_
  obtain ⟨v1, e_v1, h⟩ := g_bind h
  refine g_calli (g_runV (n := 1) (As := [.int a1]) (rest := []) C G (mX9_isPlace l X σ t a1 v1 ok e_v1) ok.1.2 (gE_9 ok.1.1) rfl (g_goodV u_ml_RX9_108 u_im_yX9_isPlace u_se_yX9_isPlace u_in_RX9 u_co_yX9_isPlace) rfl rfl rfl (by decide +kernel) ⟨Nat.le_of_ble_eq_true rfl, Nat.le_of_ble_eq_true rfl⟩ rfl hl.1 rfl (Nat.le_of_ble_eq_true rfl) dX9_reason_2 ⟨Nat.zero_le _, Nat.zero_le _⟩) G (fun H locs G => ?_)
  refine lv_if_eq (tgt := 17) hx hb dX9_reason_5 (by decide) (fun c2 => ?_) (fun c2 => ?_)
  · have h := g_it h c2
    refine lv_sipush (v := (-1001)) hx hb dX9_reason_17 (by decide) ?_
    exact ret dX9_reason_20 rfl G (Prod.mk.inj (Option.some.inj h))
  · have h := g_if h c2
    refine lv_iload_n hx hb dX9_reason_8 rfl (lv_at hl 2 rfl) ?_
    refine lv_iconst (v := 0) hx hb dX9_reason_9 (by decide) ?_
    refine lv_iconst (v := 3) hx hb dX9_reason_10 (by decide) ?_
    obtain ⟨v3, e_v3, h⟩ := g_bind h
    refine g_calli (g_runS (n := 3) (As := [.int a2, .int 0, .int 3]) (rest := []) C G (mX9_in l X σ a2 0 3 v3 e_v3) (g_goodS u_ml_RX9_38 u_st_yX9_in u_in_RX9 u_co_yX9_in) rfl rfl rfl (by decide +kernel) ⟨Nat.le_of_ble_eq_true rfl, Nat.le_of_ble_eq_true rfl⟩ rfl hl.1 rfl (Nat.le_of_ble_eq_true rfl) dX9_reason_11 ⟨Nat.zero_le _, Nat.zero_le _⟩) G (fun H locs G => ?_)
    refine lv_if_ne (tgt := 21) hx hb dX9_reason_14 (by decide) (fun c4 => ?_) (fun c4 => ?_)
    · have h := g_if h c4
      refine lv_aload_n hx hb dX9_reason_21 rfl (lv_at hl 0 rfl) ?_
      refine lv_iload_n hx hb dX9_reason_22 rfl (lv_at hl 1 rfl) ?_
      obtain ⟨v5, e_v5, h⟩ := g_bind h
      refine g_calli (g_runV (n := 1) (As := [.int a1]) (rest := []) C G (mX9_scrapAt l X σ t a1 v5 ok e_v5) ok.1.2 (gE_9 ok.1.1) rfl (g_goodV u_ml_RX9_66 u_im_yX9_scrapAt u_se_yX9_scrapAt u_in_RX9 u_co_yX9_scrapAt) rfl rfl rfl (by decide +kernel) ⟨Nat.le_of_ble_eq_true rfl, Nat.le_of_ble_eq_true rfl⟩ rfl hl.1 rfl (Nat.le_of_ble_eq_true rfl) dX9_reason_23 ⟨Nat.zero_le _, Nat.zero_le _⟩) G (fun H locs G => ?_)
      refine lv_istore_n (lv' := [(3, .int v5), (0, .ref (xN X + t)), (1, .int a1), (2, .int a2)]) hx hb dX9_reason_26 rfl hl (by decide) rfl (fun ls hl => ?_)
      refine lv_iload_n hx hb dX9_reason_27 rfl (lv_at hl 0 rfl) ?_
      refine lv_iconst (v := (-1)) hx hb dX9_reason_28 (by decide) ?_
      refine lv_icmp_ne (tgt := 36) hx hb dX9_reason_29 (by decide) (fun c6 => ?_) (fun c6 => ?_)
      · have h := g_if h c6
        refine lv_aload_n hx hb dX9_reason_36 rfl (lv_at hl 1 rfl) ?_
        refine lv_iload_n hx hb dX9_reason_37 rfl (lv_at hl 0 rfl) ?_
        refine lv_iload_n hx hb dX9_reason_38 rfl (lv_at hl 2 rfl) ?_
        refine lv_aload_n hx hb dX9_reason_39 rfl (lv_at hl 1 rfl) ?_
        refine gg9_0 C G ok.1 ok.2.1.1 u_fl_RX9_7 dX9_reason_40 ?_
        refine lv_bipush (v := 111) hx hb dX9_reason_43 (by decide) ?_
        refine lv_iload_n hx hb dX9_reason_45 rfl (lv_at hl 0 rfl) ?_
        refine lv_iadd hx hb dX9_reason_46 ?_
        obtain ⟨c8, h⟩ := g_chk h
        refine g_iald C G ok.2.2.1 c8 dX9_reason_47 ?_
        refine lv_iload_n hx hb dX9_reason_48 rfl (lv_at hl 3 rfl) ?_
        obtain ⟨⟨v9, σ10⟩, e_v9, h⟩ := g_bind h
        have h := g_let2 (v := v9) rfl h
        have h := g_let2 (v := σ10) rfl h
        refine g_calli (g_runV (n := 4) (As := [.int v5, .int a1, .int (σ (t + 1) (111 + v5).toNatClampNeg), .int a2]) (rest := []) C G (mX9_reasonOf l X σ σ10 t v5 a1 (σ (t + 1) (111 + v5).toNatClampNeg) a2 v9 ok e_v9) ok.1.2 (gE_9 ok.1.1) rfl (g_goodV u_ml_RX9_69 u_im_yX9_reasonOf u_se_yX9_reasonOf u_in_RX9 u_co_yX9_reasonOf) rfl rfl rfl (by decide +kernel) ⟨Nat.le_of_ble_eq_true rfl, Nat.le_of_ble_eq_true rfl⟩ rfl hl.1 rfl (Nat.le_of_ble_eq_true rfl) dX9_reason_49 ⟨Nat.zero_le _, Nat.zero_le _⟩) G (fun H locs G => ?_)
        refine lv_istore (lv' := [(4, .int v9), (3, .int v5), (0, .ref (xN X + t)), (1, .int a1), (2, .int a2)]) hx hb dX9_reason_52 hl (by decide) rfl (fun ls hl => ?_)
        refine lv_iload hx hb dX9_reason_54 (lv_at hl 0 rfl) ?_
        refine lv_iconst (v := (-1)) hx hb dX9_reason_56 (by decide) ?_
        refine lv_icmp_ne (tgt := 66) hx hb dX9_reason_57 (by decide) (fun c11 => ?_) (fun c11 => ?_)
        · have h := g_if h c11
          refine lv_iload hx hb dX9_reason_66 (lv_at hl 0 rfl) ?_
          exact ret dX9_reason_68 rfl G (Prod.mk.inj (Option.some.inj h))
        · have h := g_it h c11
          refine lv_sipush (v := (-1004)) hx hb dX9_reason_60 (by decide) ?_
          refine lv_goto (tgt := 68) hx hb dX9_reason_63 (by decide) ?_
          exact ret dX9_reason_68 rfl G (Prod.mk.inj (Option.some.inj h))
      · have h := g_it h c6
        refine lv_iconst (v := (-1)) hx hb dX9_reason_32 (by decide) ?_
        refine lv_goto (tgt := 52) hx hb dX9_reason_33 (by decide) ?_
        refine lv_istore (lv' := [(4, .int (-1)), (3, .int v5), (0, .ref (xN X + t)), (1, .int a1), (2, .int a2)]) hx hb dX9_reason_52 hl (by decide) rfl (fun ls hl => ?_)
        refine lv_iload hx hb dX9_reason_54 (lv_at hl 0 rfl) ?_
        refine lv_iconst (v := (-1)) hx hb dX9_reason_56 (by decide) ?_
        refine lv_icmp_ne (tgt := 66) hx hb dX9_reason_57 (by decide) (fun c7 => absurd c7 (by decide)) (fun _ => ?_)
        refine lv_sipush (v := (-1004)) hx hb dX9_reason_60 (by decide) ?_
        refine lv_goto (tgt := 68) hx hb dX9_reason_63 (by decide) ?_
        exact ret dX9_reason_68 rfl G (Prod.mk.inj (Option.some.inj h))
    · have h := g_it h c4
      refine lv_sipush (v := (-1001)) hx hb dX9_reason_17 (by decide) ?_
      exact ret dX9_reason_20 rfl G (Prod.mk.inj (Option.some.inj h))

def fX9_ways_46 (t : Nat) (a1 : Int32) (a2 : Int32) : Nat → gM → Int32 → Int32 → Option (Int32 × gM)
  | 0, _, _, _ => none
  | n + 1, σ, x4, x5 =>
    (if 8 ≤ x5 then
      some (x4, σ)
    else
      ((fX9_canLie σ t a1 a2 x5).bind fun pv8 => gl pv8.1 fun v8 => gl pv8.2 fun σ9 =>
      (if v8 = 0 then
        (gl (x4 + 0) fun w11 =>
        (gl (x5 + 1) fun w12 =>
        fX9_ways_46 t a1 a2 n σ9 w11 w12))
      else
        (gl (x4 + 1) fun w13 =>
        (gl (x5 + 1) fun w14 =>
        fX9_ways_46 t a1 a2 n σ9 w13 w14)))))

def fX9_ways (σ : gM) (t : Nat) (a1 : Int32) (a2 : Int32) : Option (Int32 × gM) :=
  ((fX9_isScrap σ t a1).bind fun v1 =>
  (if v1 = 0 then
    some ((-1001), σ)
  else
    ((fX9_isPlace σ t a2).bind fun v3 =>
    (if v3 = 0 then
      some ((-1001), σ)
    else
      ((fX9_scrapAt σ t a2).bind fun v5 =>
      (if v5 = (-1) then
        fX9_ways_46 t a1 a2 gF σ 0 0
      else
        (if v5 = a1 then
          fX9_ways_46 t a1 a2 gF σ 0 0
        else
          some ((-1002), σ))))))))
set_option maxHeartbeats 4000000 in
set_option maxRecDepth 100000 in
theorem mX9_ways (l : Launch) (X : gX) (σ σ' : gM) (t : Nat) (a1 : Int32) (a2 : Int32) (r : Int32) (ok : gok9 X t) (h : fX9_ways σ t a1 a2 = some (r, σ')) : Met l yX9_ways (Cond.code yX9_ways cX9_ways 6 (some .int) :: gBig) ({ frames := 6, cells := 0, slots := 0, locals := 149 }) (gPc X σ [.ref (xN X + t), .int a1, .int a2]) (gQi X σ' r) 0 0 (xA X) := by
  refine g_meti (cc := cX9_ways) (maxL := 6) (own := RX9) (by decide) rfl rfl (Nat.le_of_ble_eq_true rfl) ?_
  intro p ev s m args below meth c Q C G ret ls hl
  obtain ⟨⟨hx, hb, hml, hown, hts⟩, hK⟩ := id C
  have hl : lv_has ls 6 [(0, .ref (xN X + t)), (1, .int a1), (2, .int a2)] := hl
  have L46 : ∀ (n : Nat) (H : Heap) (locs : List Loc) (ls : Array Slot) (σ : gM) (x4 : Int32) (x5 : Int32), gG X σ s H locs → lv_has ls 6 [(0, .ref (xN X + t)), (1, .int a1), (2, .int a2), (4, .int x4), (5, .int x5)] → fX9_ways_46 t a1 a2 n σ x4 x5 = some (r, σ') → W p l ev ({ frames := 6, cells := 0, slots := 0, locals := 149 }) s m args below meth c H locs 0 0 Q (F0 m 46 ls []) := by
    intro n
    induction n with
    | zero =>
      intro H locs ls σ x4 x5 G hl h
      rw [fX9_ways_46] at h
      cases h
    | succ n ih =>
      intro H locs ls σ x4 x5 G hl h
      rw [fX9_ways_46] at h
      refine lv_iload hx hb dX9_ways_46 (lv_at hl 4 rfl) ?_
      refine lv_bipush (v := 8) hx hb dX9_ways_48 (by decide) ?_
      refine lv_icmp_ge (tgt := 80) hx hb dX9_ways_50 (by decide) (fun c7 => ?_) (fun c7 => ?_)
      · have h := g_it h c7
        refine lv_iload hx hb dX9_ways_80 (lv_at hl 3 rfl) ?_
        exact ret dX9_ways_82 rfl G (Prod.mk.inj (Option.some.inj h))
      · have h := g_if h c7
        refine lv_iload hx hb dX9_ways_53 (lv_at hl 3 rfl) ?_
        refine lv_aload_n hx hb dX9_ways_55 rfl (lv_at hl 0 rfl) ?_
        refine lv_iload_n hx hb dX9_ways_56 rfl (lv_at hl 1 rfl) ?_
        refine lv_iload_n hx hb dX9_ways_57 rfl (lv_at hl 2 rfl) ?_
        refine lv_iload hx hb dX9_ways_58 (lv_at hl 4 rfl) ?_
        obtain ⟨⟨v8, σ9⟩, e_v8, h⟩ := g_bind h
        have h := g_let2 (v := v8) rfl h
        have h := g_let2 (v := σ9) rfl h
        refine g_calli (g_runV (n := 3) (As := [.int a1, .int a2, .int x5]) (rest := [.int x4]) C G (mX9_canLie l X σ σ9 t a1 a2 x5 v8 ok e_v8) ok.1.2 (gE_9 ok.1.1) rfl (g_goodV u_ml_RX9_114 u_im_yX9_canLie u_se_yX9_canLie u_in_RX9 u_co_yX9_canLie) rfl rfl rfl (by decide +kernel) ⟨Nat.le_of_ble_eq_true rfl, Nat.le_of_ble_eq_true rfl⟩ rfl hl.1 rfl (Nat.le_of_ble_eq_true rfl) dX9_ways_60 ⟨Nat.zero_le _, Nat.zero_le _⟩) G (fun H locs G => ?_)
        refine lv_if_eq (tgt := 70) hx hb dX9_ways_63 (by decide) (fun c10 => ?_) (fun c10 => ?_)
        · have h := g_it h c10
          refine lv_iconst (v := 0) hx hb dX9_ways_70 (by decide) ?_
          refine lv_iadd hx hb dX9_ways_71 ?_
          refine lv_topi (fun w11 e_w11 => ?_)
          have h := g_let2 e_w11 h
          refine lv_istore (lv' := [(4, .int w11), (0, .ref (xN X + t)), (1, .int a1), (2, .int a2), (5, .int x5)]) hx hb dX9_ways_72 hl (by decide) rfl (fun ls hl => ?_)
          obtain ⟨w12, e_w12⟩ : ∃ y : Int32, y = x5 + 1 := ⟨_, rfl⟩
          have h := g_let2 e_w12 h
          refine lv_iinc (v := w12) (lv' := [(5, .int w12), (4, .int w11), (0, .ref (xN X + t)), (1, .int a1), (2, .int a2)]) hx hb dX9_ways_74 hl (k := 4) rfl (by rw [e_w12]; rfl) (by decide) rfl (fun ls hl => ?_)
          refine lv_goto (tgt := 46) hx hb dX9_ways_77 (by decide) ?_
          exact ih _ _ _ σ9 w11 w12 G (lv_sub hl [2, 3, 4, 1, 0] rfl) h
        · have h := g_if h c10
          refine lv_iconst (v := 1) hx hb dX9_ways_66 (by decide) ?_
          refine lv_goto (tgt := 71) hx hb dX9_ways_67 (by decide) ?_
          refine lv_iadd hx hb dX9_ways_71 ?_
          refine lv_topi (fun w13 e_w13 => ?_)
          have h := g_let2 e_w13 h
          refine lv_istore (lv' := [(4, .int w13), (0, .ref (xN X + t)), (1, .int a1), (2, .int a2), (5, .int x5)]) hx hb dX9_ways_72 hl (by decide) rfl (fun ls hl => ?_)
          obtain ⟨w14, e_w14⟩ : ∃ y : Int32, y = x5 + 1 := ⟨_, rfl⟩
          have h := g_let2 e_w14 h
          refine lv_iinc (v := w14) (lv' := [(5, .int w14), (4, .int w13), (0, .ref (xN X + t)), (1, .int a1), (2, .int a2)]) hx hb dX9_ways_74 hl (k := 4) rfl (by rw [e_w14]; rfl) (by decide) rfl (fun ls hl => ?_)
          refine lv_goto (tgt := 46) hx hb dX9_ways_77 (by decide) ?_
          exact ih _ _ _ σ9 w13 w14 G (lv_sub hl [2, 3, 4, 1, 0] rfl) h
  unfold fX9_ways at h
  refine lv_aload_n hx hb dX9_ways_0 rfl (lv_at hl 0 rfl) ?_
  refine lv_iload_n hx hb dX9_ways_1 rfl (lv_at hl 1 rfl) ?_
  obtain ⟨v1, e_v1, h⟩ := g_bind h
  refine g_calli (g_runV (n := 1) (As := [.int a1]) (rest := []) C G (mX9_isScrap l X σ t a1 v1 ok e_v1) ok.1.2 (gE_9 ok.1.1) rfl (g_goodV u_ml_RX9_86 u_im_yX9_isScrap u_se_yX9_isScrap u_in_RX9 u_co_yX9_isScrap) rfl rfl rfl (by decide +kernel) ⟨Nat.le_of_ble_eq_true rfl, Nat.le_of_ble_eq_true rfl⟩ rfl hl.1 rfl (Nat.le_of_ble_eq_true rfl) dX9_ways_2 ⟨Nat.zero_le _, Nat.zero_le _⟩) G (fun H locs G => ?_)
  refine lv_if_eq (tgt := 16) hx hb dX9_ways_5 (by decide) (fun c2 => ?_) (fun c2 => ?_)
  · have h := g_it h c2
    refine lv_sipush (v := (-1001)) hx hb dX9_ways_16 (by decide) ?_
    exact ret dX9_ways_19 rfl G (Prod.mk.inj (Option.some.inj h))
  · have h := g_if h c2
    refine lv_aload_n hx hb dX9_ways_8 rfl (lv_at hl 0 rfl) ?_
    refine lv_iload_n hx hb dX9_ways_9 rfl (lv_at hl 2 rfl) ?_
    obtain ⟨v3, e_v3, h⟩ := g_bind h
    refine g_calli (g_runV (n := 1) (As := [.int a2]) (rest := []) C G (mX9_isPlace l X σ t a2 v3 ok e_v3) ok.1.2 (gE_9 ok.1.1) rfl (g_goodV u_ml_RX9_108 u_im_yX9_isPlace u_se_yX9_isPlace u_in_RX9 u_co_yX9_isPlace) rfl rfl rfl (by decide +kernel) ⟨Nat.le_of_ble_eq_true rfl, Nat.le_of_ble_eq_true rfl⟩ rfl hl.1 rfl (Nat.le_of_ble_eq_true rfl) dX9_ways_10 ⟨Nat.zero_le _, Nat.zero_le _⟩) G (fun H locs G => ?_)
    refine lv_if_ne (tgt := 20) hx hb dX9_ways_13 (by decide) (fun c4 => ?_) (fun c4 => ?_)
    · have h := g_if h c4
      refine lv_aload_n hx hb dX9_ways_20 rfl (lv_at hl 0 rfl) ?_
      refine lv_iload_n hx hb dX9_ways_21 rfl (lv_at hl 2 rfl) ?_
      obtain ⟨v5, e_v5, h⟩ := g_bind h
      refine g_calli (g_runV (n := 1) (As := [.int a2]) (rest := []) C G (mX9_scrapAt l X σ t a2 v5 ok e_v5) ok.1.2 (gE_9 ok.1.1) rfl (g_goodV u_ml_RX9_66 u_im_yX9_scrapAt u_se_yX9_scrapAt u_in_RX9 u_co_yX9_scrapAt) rfl rfl rfl (by decide +kernel) ⟨Nat.le_of_ble_eq_true rfl, Nat.le_of_ble_eq_true rfl⟩ rfl hl.1 rfl (Nat.le_of_ble_eq_true rfl) dX9_ways_22 ⟨Nat.zero_le _, Nat.zero_le _⟩) G (fun H locs G => ?_)
      refine lv_istore_n (lv' := [(3, .int v5), (0, .ref (xN X + t)), (1, .int a1), (2, .int a2)]) hx hb dX9_ways_25 rfl hl (by decide) rfl (fun ls hl => ?_)
      refine lv_iload_n hx hb dX9_ways_26 rfl (lv_at hl 0 rfl) ?_
      refine lv_iconst (v := (-1)) hx hb dX9_ways_27 (by decide) ?_
      refine lv_icmp_eq (tgt := 40) hx hb dX9_ways_28 (by decide) (fun c6 => ?_) (fun c6 => ?_)
      · have h := g_it h c6
        refine lv_iconst (v := 0) hx hb dX9_ways_40 (by decide) ?_
        refine lv_istore (lv' := [(4, .int 0), (3, .int v5), (0, .ref (xN X + t)), (1, .int a1), (2, .int a2)]) hx hb dX9_ways_41 hl (by decide) rfl (fun ls hl => ?_)
        refine lv_iconst (v := 0) hx hb dX9_ways_43 (by decide) ?_
        refine lv_istore (lv' := [(5, .int 0), (4, .int 0), (3, .int v5), (0, .ref (xN X + t)), (1, .int a1), (2, .int a2)]) hx hb dX9_ways_44 hl (by decide) rfl (fun ls hl => ?_)
        exact L46  gF _ _ _ σ 0 0 G (lv_sub hl [3, 4, 5, 1, 0] rfl) h
      · have h := g_if h c6
        refine lv_iload_n hx hb dX9_ways_31 rfl (lv_at hl 0 rfl) ?_
        refine lv_iload_n hx hb dX9_ways_32 rfl (lv_at hl 2 rfl) ?_
        refine lv_icmp_eq (tgt := 40) hx hb dX9_ways_33 (by decide) (fun c15 => ?_) (fun c15 => ?_)
        · have h := g_it h c15
          refine lv_iconst (v := 0) hx hb dX9_ways_40 (by decide) ?_
          refine lv_istore (lv' := [(4, .int 0), (3, .int v5), (0, .ref (xN X + t)), (1, .int a1), (2, .int a2)]) hx hb dX9_ways_41 hl (by decide) rfl (fun ls hl => ?_)
          refine lv_iconst (v := 0) hx hb dX9_ways_43 (by decide) ?_
          refine lv_istore (lv' := [(5, .int 0), (4, .int 0), (3, .int v5), (0, .ref (xN X + t)), (1, .int a1), (2, .int a2)]) hx hb dX9_ways_44 hl (by decide) rfl (fun ls hl => ?_)
          exact L46  gF _ _ _ σ 0 0 G (lv_sub hl [3, 4, 5, 1, 0] rfl) h
        · have h := g_if h c15
          refine lv_sipush (v := (-1002)) hx hb dX9_ways_36 (by decide) ?_
          exact ret dX9_ways_39 rfl G (Prod.mk.inj (Option.some.inj h))
    · have h := g_it h c4
      refine lv_sipush (v := (-1001)) hx hb dX9_ways_16 (by decide) ?_
      exact ret dX9_ways_19 rfl G (Prod.mk.inj (Option.some.inj h))

def fX9_best_19 (K7 : gM → Int32 → Int32 → Int32 → Option (Int32 × gM)) (t : Nat) (a1 : Int32) : Nat → gM → Int32 → Int32 → Int32 → Int32 → Option (Int32 × gM)
  | 0, _, _, _, _, _ => none
  | n + 1, σ, x2, x3, x4, x5 =>
    (if 8 ≤ x5 then
      (gl (x4 + 1) fun w4 =>
      K7 σ x2 x3 w4)
    else
      ((fX9_scrapAt σ t x4).bind fun v5 =>
      (if v5 = (-1) then
        ((fX9_seams σ t a1 x4).bind fun v7 =>
        (if v7 ≤ x3 then
          (gl (x5 + 1) fun w9 =>
          fX9_best_19 K7 t a1 n σ x2 x3 x4 w9)
        else
          ((fX9_canLie σ t a1 x4 x5).bind fun pv10 => gl pv10.1 fun v10 => gl pv10.2 fun σ11 =>
          (if v10 = 0 then
            (gl (x5 + 1) fun w13 =>
            fX9_best_19 K7 t a1 n σ11 x2 x3 x4 w13)
          else
            (gl ((10 * x4) + x5) fun w14 =>
            ((fX9_seams σ11 t a1 x4).bind fun v15 =>
            (gl (x5 + 1) fun w16 =>
            fX9_best_19 K7 t a1 n σ11 w14 v15 x4 w16)))))))
      else
        (gl (x4 + 1) fun w17 =>
        K7 σ x2 x3 w17))))

def fX9_best_7 (t : Nat) (a1 : Int32) : Nat → gM → Int32 → Int32 → Int32 → Option (Int32 × gM)
  | 0, _, _, _, _ => none
  | n + 1, σ, x2, x3, x4 =>
    ((fX9_places σ t).bind fun v1 =>
    (if v1 ≤ x4 then
      some (x2, σ)
    else
      fX9_best_19 (fun σ2 y2 y3 y4 => fX9_best_7 t a1 n σ2 y2 y3 y4) t a1 gF σ x2 x3 x4 0))

def fX9_best (σ : gM) (t : Nat) (a1 : Int32) : Option (Int32 × gM) :=
  fX9_best_7 t a1 gF σ (-1) (-1) 0
set_option maxHeartbeats 4000000 in
set_option maxRecDepth 100000 in
theorem mX9_best (l : Launch) (X : gX) (σ σ' : gM) (t : Nat) (a1 : Int32) (r : Int32) (ok : gok9 X t) (h : fX9_best σ t a1 = some (r, σ')) : Met l yX9_best (Cond.code yX9_best cX9_best 6 (some .int) :: gBig) ({ frames := 6, cells := 0, slots := 0, locals := 149 }) (gPc X σ [.ref (xN X + t), .int a1]) (gQi X σ' r) 0 0 (xA X) := by
  refine g_meti (cc := cX9_best) (maxL := 6) (own := RX9) (by decide) rfl rfl (Nat.le_of_ble_eq_true rfl) ?_
  intro p ev s m args below meth c Q C G ret ls hl
  obtain ⟨⟨hx, hb, hml, hown, hts⟩, hK⟩ := id C
  have hl : lv_has ls 6 [(0, .ref (xN X + t)), (1, .int a1)] := hl
  have L19 : ∀ (K7 : gM → Int32 → Int32 → Int32 → Option (Int32 × gM)), (∀ (H : Heap) (locs : List Loc) (ls : Array Slot) (σ : gM) (x2 : Int32) (x3 : Int32) (x4 : Int32), gG X σ s H locs → lv_has ls 6 [(0, .ref (xN X + t)), (1, .int a1), (2, .int x2), (3, .int x3), (4, .int x4)] → K7 σ x2 x3 x4 = some (r, σ') → W p l ev ({ frames := 6, cells := 0, slots := 0, locals := 149 }) s m args below meth c H locs 0 0 Q (F0 m 7 ls [])) → ∀ (n : Nat) (H : Heap) (locs : List Loc) (ls : Array Slot) (σ : gM) (x2 : Int32) (x3 : Int32) (x4 : Int32) (x5 : Int32), gG X σ s H locs → lv_has ls 6 [(0, .ref (xN X + t)), (1, .int a1), (2, .int x2), (3, .int x3), (4, .int x4), (5, .int x5)] → fX9_best_19 K7 t a1 n σ x2 x3 x4 x5 = some (r, σ') → W p l ev ({ frames := 6, cells := 0, slots := 0, locals := 149 }) s m args below meth c H locs 0 0 Q (F0 m 19 ls []) := by
    intro K7 hK7 n
    induction n with
    | zero =>
      intro H locs ls σ x2 x3 x4 x5 G hl h
      rw [fX9_best_19] at h
      cases h
    | succ n ih =>
      intro H locs ls σ x2 x3 x4 x5 G hl h
      rw [fX9_best_19] at h
      refine lv_iload hx hb dX9_best_19 (lv_at hl 5 rfl) ?_
      refine lv_bipush (v := 8) hx hb dX9_best_21 (by decide) ?_
      refine lv_icmp_ge (tgt := 82) hx hb dX9_best_23 (by decide) (fun c3 => ?_) (fun c3 => ?_)
      · have h := g_it h c3
        obtain ⟨w4, e_w4⟩ : ∃ y : Int32, y = x4 + 1 := ⟨_, rfl⟩
        have h := g_let2 e_w4 h
        refine lv_iinc (v := w4) (lv' := [(4, .int w4), (0, .ref (xN X + t)), (1, .int a1), (2, .int x2), (3, .int x3), (5, .int x5)]) hx hb dX9_best_82 hl (k := 4) rfl (by rw [e_w4]; rfl) (by decide) rfl (fun ls hl => ?_)
        refine lv_goto (tgt := 7) hx hb dX9_best_85 (by decide) ?_
        exact hK7 _ _ _ σ x2 x3 w4 G (lv_sub hl [1, 2, 3, 4, 0] rfl) h
      · have h := g_if h c3
        refine lv_aload_n hx hb dX9_best_26 rfl (lv_at hl 0 rfl) ?_
        refine lv_iload hx hb dX9_best_27 (lv_at hl 4 rfl) ?_
        obtain ⟨v5, e_v5, h⟩ := g_bind h
        refine g_calli (g_runV (n := 1) (As := [.int x4]) (rest := []) C G (mX9_scrapAt l X σ t x4 v5 ok e_v5) ok.1.2 (gE_9 ok.1.1) rfl (g_goodV u_ml_RX9_66 u_im_yX9_scrapAt u_se_yX9_scrapAt u_in_RX9 u_co_yX9_scrapAt) rfl rfl rfl (by decide +kernel) ⟨Nat.le_of_ble_eq_true rfl, Nat.le_of_ble_eq_true rfl⟩ rfl hl.1 rfl (Nat.le_of_ble_eq_true rfl) dX9_best_29 ⟨Nat.zero_le _, Nat.zero_le _⟩) G (fun H locs G => ?_)
        refine lv_iconst (v := (-1)) hx hb dX9_best_32 (by decide) ?_
        refine lv_icmp_ne (tgt := 82) hx hb dX9_best_33 (by decide) (fun c6 => ?_) (fun c6 => ?_)
        · have h := g_if h c6
          obtain ⟨w17, e_w17⟩ : ∃ y : Int32, y = x4 + 1 := ⟨_, rfl⟩
          have h := g_let2 e_w17 h
          refine lv_iinc (v := w17) (lv' := [(4, .int w17), (0, .ref (xN X + t)), (1, .int a1), (2, .int x2), (3, .int x3), (5, .int x5)]) hx hb dX9_best_82 hl (k := 4) rfl (by rw [e_w17]; rfl) (by decide) rfl (fun ls hl => ?_)
          refine lv_goto (tgt := 7) hx hb dX9_best_85 (by decide) ?_
          exact hK7 _ _ _ σ x2 x3 w17 G (lv_sub hl [1, 2, 3, 4, 0] rfl) h
        · have h := g_it h c6
          refine lv_aload_n hx hb dX9_best_36 rfl (lv_at hl 0 rfl) ?_
          refine lv_iload_n hx hb dX9_best_37 rfl (lv_at hl 1 rfl) ?_
          refine lv_iload hx hb dX9_best_38 (lv_at hl 4 rfl) ?_
          obtain ⟨v7, e_v7, h⟩ := g_bind h
          refine g_calli (g_runV (n := 2) (As := [.int a1, .int x4]) (rest := []) C G (mX9_seams l X σ t a1 x4 v7 ok e_v7) ok.1.2 (gE_9 ok.1.1) rfl (g_goodV u_ml_RX9_121 u_im_yX9_seams u_se_yX9_seams u_in_RX9 u_co_yX9_seams) rfl rfl rfl (by decide +kernel) ⟨Nat.le_of_ble_eq_true rfl, Nat.le_of_ble_eq_true rfl⟩ rfl hl.1 rfl (Nat.le_of_ble_eq_true rfl) dX9_best_40 ⟨Nat.zero_le _, Nat.zero_le _⟩) G (fun H locs G => ?_)
          refine lv_iload_n hx hb dX9_best_43 rfl (lv_at hl 3 rfl) ?_
          refine lv_icmp_le (tgt := 76) hx hb dX9_best_44 (by decide) (fun c8 => ?_) (fun c8 => ?_)
          · have h := g_it h c8
            obtain ⟨w9, e_w9⟩ : ∃ y : Int32, y = x5 + 1 := ⟨_, rfl⟩
            have h := g_let2 e_w9 h
            refine lv_iinc (v := w9) (lv' := [(5, .int w9), (0, .ref (xN X + t)), (1, .int a1), (2, .int x2), (3, .int x3), (4, .int x4)]) hx hb dX9_best_76 hl (k := 5) rfl (by rw [e_w9]; rfl) (by decide) rfl (fun ls hl => ?_)
            refine lv_goto (tgt := 19) hx hb dX9_best_79 (by decide) ?_
            exact ih _ _ _ σ x2 x3 x4 w9 G (lv_sub hl [1, 2, 3, 4, 5, 0] rfl) h
          · have h := g_if h c8
            refine lv_aload_n hx hb dX9_best_47 rfl (lv_at hl 0 rfl) ?_
            refine lv_iload_n hx hb dX9_best_48 rfl (lv_at hl 1 rfl) ?_
            refine lv_iload hx hb dX9_best_49 (lv_at hl 4 rfl) ?_
            refine lv_iload hx hb dX9_best_51 (lv_at hl 5 rfl) ?_
            obtain ⟨⟨v10, σ11⟩, e_v10, h⟩ := g_bind h
            have h := g_let2 (v := v10) rfl h
            have h := g_let2 (v := σ11) rfl h
            refine g_calli (g_runV (n := 3) (As := [.int a1, .int x4, .int x5]) (rest := []) C G (mX9_canLie l X σ σ11 t a1 x4 x5 v10 ok e_v10) ok.1.2 (gE_9 ok.1.1) rfl (g_goodV u_ml_RX9_114 u_im_yX9_canLie u_se_yX9_canLie u_in_RX9 u_co_yX9_canLie) rfl rfl rfl (by decide +kernel) ⟨Nat.le_of_ble_eq_true rfl, Nat.le_of_ble_eq_true rfl⟩ rfl hl.1 rfl (Nat.le_of_ble_eq_true rfl) dX9_best_53 ⟨Nat.zero_le _, Nat.zero_le _⟩) G (fun H locs G => ?_)
            refine lv_if_eq (tgt := 76) hx hb dX9_best_56 (by decide) (fun c12 => ?_) (fun c12 => ?_)
            · have h := g_it h c12
              obtain ⟨w13, e_w13⟩ : ∃ y : Int32, y = x5 + 1 := ⟨_, rfl⟩
              have h := g_let2 e_w13 h
              refine lv_iinc (v := w13) (lv' := [(5, .int w13), (0, .ref (xN X + t)), (1, .int a1), (2, .int x2), (3, .int x3), (4, .int x4)]) hx hb dX9_best_76 hl (k := 5) rfl (by rw [e_w13]; rfl) (by decide) rfl (fun ls hl => ?_)
              refine lv_goto (tgt := 19) hx hb dX9_best_79 (by decide) ?_
              exact ih _ _ _ σ11 x2 x3 x4 w13 G (lv_sub hl [1, 2, 3, 4, 5, 0] rfl) h
            · have h := g_if h c12
              refine lv_bipush (v := 10) hx hb dX9_best_59 (by decide) ?_
              refine lv_iload hx hb dX9_best_61 (lv_at hl 4 rfl) ?_
              refine lv_imul hx hb dX9_best_63 ?_
              refine lv_iload hx hb dX9_best_64 (lv_at hl 5 rfl) ?_
              refine lv_iadd hx hb dX9_best_66 ?_
              refine lv_topi (fun w14 e_w14 => ?_)
              have h := g_let2 e_w14 h
              refine lv_istore_n (lv' := [(2, .int w14), (0, .ref (xN X + t)), (1, .int a1), (3, .int x3), (4, .int x4), (5, .int x5)]) hx hb dX9_best_67 rfl hl (by decide) rfl (fun ls hl => ?_)
              refine lv_aload_n hx hb dX9_best_68 rfl (lv_at hl 1 rfl) ?_
              refine lv_iload_n hx hb dX9_best_69 rfl (lv_at hl 2 rfl) ?_
              refine lv_iload hx hb dX9_best_70 (lv_at hl 4 rfl) ?_
              obtain ⟨v15, e_v15, h⟩ := g_bind h
              refine g_calli (g_runV (n := 2) (As := [.int a1, .int x4]) (rest := []) C G (mX9_seams l X σ11 t a1 x4 v15 ok e_v15) ok.1.2 (gE_9 ok.1.1) rfl (g_goodV u_ml_RX9_121 u_im_yX9_seams u_se_yX9_seams u_in_RX9 u_co_yX9_seams) rfl rfl rfl (by decide +kernel) ⟨Nat.le_of_ble_eq_true rfl, Nat.le_of_ble_eq_true rfl⟩ rfl hl.1 rfl (Nat.le_of_ble_eq_true rfl) dX9_best_72 ⟨Nat.zero_le _, Nat.zero_le _⟩) G (fun H locs G => ?_)
              refine lv_istore_n (lv' := [(3, .int v15), (2, .int w14), (0, .ref (xN X + t)), (1, .int a1), (4, .int x4), (5, .int x5)]) hx hb dX9_best_75 rfl hl (by decide) rfl (fun ls hl => ?_)
              obtain ⟨w16, e_w16⟩ : ∃ y : Int32, y = x5 + 1 := ⟨_, rfl⟩
              have h := g_let2 e_w16 h
              refine lv_iinc (v := w16) (lv' := [(5, .int w16), (3, .int v15), (2, .int w14), (0, .ref (xN X + t)), (1, .int a1), (4, .int x4)]) hx hb dX9_best_76 hl (k := 5) rfl (by rw [e_w16]; rfl) (by decide) rfl (fun ls hl => ?_)
              refine lv_goto (tgt := 19) hx hb dX9_best_79 (by decide) ?_
              exact ih _ _ _ σ11 w14 v15 x4 w16 G (lv_sub hl [3, 4, 2, 1, 5, 0] rfl) h
  have L7 : ∀ (n : Nat) (H : Heap) (locs : List Loc) (ls : Array Slot) (σ : gM) (x2 : Int32) (x3 : Int32) (x4 : Int32), gG X σ s H locs → lv_has ls 6 [(0, .ref (xN X + t)), (1, .int a1), (2, .int x2), (3, .int x3), (4, .int x4)] → fX9_best_7 t a1 n σ x2 x3 x4 = some (r, σ') → W p l ev ({ frames := 6, cells := 0, slots := 0, locals := 149 }) s m args below meth c H locs 0 0 Q (F0 m 7 ls []) := by
    intro n
    induction n with
    | zero =>
      intro H locs ls σ x2 x3 x4 G hl h
      rw [fX9_best_7] at h
      cases h
    | succ n ih =>
      intro H locs ls σ x2 x3 x4 G hl h
      rw [fX9_best_7] at h
      refine lv_iload hx hb dX9_best_7 (lv_at hl 4 rfl) ?_
      refine lv_aload_n hx hb dX9_best_9 rfl (lv_at hl 0 rfl) ?_
      obtain ⟨v1, e_v1, h⟩ := g_bind h
      refine g_calli (g_runV (n := 0) (As := []) (rest := [.int x4]) C G (mX9_places l X σ t v1 ok e_v1) ok.1.2 (gE_9 ok.1.1) rfl (g_goodV u_ml_RX9_42 u_im_yX9_places u_se_yX9_places u_in_RX9 u_co_yX9_places) rfl rfl rfl (by decide +kernel) ⟨Nat.le_of_ble_eq_true rfl, Nat.le_of_ble_eq_true rfl⟩ rfl hl.1 rfl (Nat.le_of_ble_eq_true rfl) dX9_best_10 ⟨Nat.zero_le _, Nat.zero_le _⟩) G (fun H locs G => ?_)
      refine lv_icmp_ge (tgt := 88) hx hb dX9_best_13 (by decide) (fun c2 => ?_) (fun c2 => ?_)
      · have h := g_it h c2
        refine lv_iload_n hx hb dX9_best_88 rfl (lv_at hl 2 rfl) ?_
        exact ret dX9_best_89 rfl G (Prod.mk.inj (Option.some.inj h))
      · have h := g_if h c2
        refine lv_iconst (v := 0) hx hb dX9_best_16 (by decide) ?_
        refine lv_istore (lv' := [(5, .int 0), (0, .ref (xN X + t)), (1, .int a1), (2, .int x2), (3, .int x3), (4, .int x4)]) hx hb dX9_best_17 hl (by decide) rfl (fun ls hl => ?_)
        exact L19 (fun σ2 y2 y3 y4 => fX9_best_7 t a1 n σ2 y2 y3 y4) (fun H locs ls σ2 y2 y3 y4 G hl h => ih H locs ls σ2 y2 y3 y4 G hl h) gF _ _ _ σ x2 x3 x4 0 G (lv_sub hl [1, 2, 3, 4, 5, 0] rfl) h
  unfold fX9_best at h
  refine lv_iconst (v := (-1)) hx hb dX9_best_0 (by decide) ?_
  refine lv_istore_n (lv' := [(2, .int (-1)), (0, .ref (xN X + t)), (1, .int a1)]) hx hb dX9_best_1 rfl hl (by decide) rfl (fun ls hl => ?_)
  refine lv_iconst (v := (-1)) hx hb dX9_best_2 (by decide) ?_
  refine lv_istore_n (lv' := [(3, .int (-1)), (2, .int (-1)), (0, .ref (xN X + t)), (1, .int a1)]) hx hb dX9_best_3 rfl hl (by decide) rfl (fun ls hl => ?_)
  refine lv_iconst (v := 0) hx hb dX9_best_4 (by decide) ?_
  refine lv_istore (lv' := [(4, .int 0), (3, .int (-1)), (2, .int (-1)), (0, .ref (xN X + t)), (1, .int a1)]) hx hb dX9_best_5 hl (by decide) rfl (fun ls hl => ?_)
  exact L7  gF _ _ _ σ (-1) (-1) 0 G (lv_sub hl [3, 4, 2, 1, 0] rfl) h

def fX9_bestFor (σ : gM) (t : Nat) (a1 : Int32) : Option (Int32 × gM) :=
  ((fX9_isScrap σ t a1).bind fun v1 =>
  (if v1 = 0 then
    some ((-1001), σ)
  else
    ((fX9_isOn σ t a1).bind fun v3 =>
    (if v3 = 0 then
      ((fX9_best σ t a1).bind fun pv5 => gl pv5.1 fun v5 => gl pv5.2 fun σ6 =>
      (if v5 = (-1) then
        some ((-1004), σ6)
      else
        some (v5, σ6)))
    else
      some ((-1002), σ)))))
set_option maxHeartbeats 4000000 in
set_option maxRecDepth 100000 in
theorem mX9_bestFor (l : Launch) (X : gX) (σ σ' : gM) (t : Nat) (a1 : Int32) (r : Int32) (ok : gok9 X t) (h : fX9_bestFor σ t a1 = some (r, σ')) : Met l yX9_bestFor (Cond.code yX9_bestFor cX9_bestFor 3 (some .int) :: gBig) ({ frames := 7, cells := 0, slots := 0, locals := 174 }) (gPc X σ [.ref (xN X + t), .int a1]) (gQi X σ' r) 0 0 (xA X) := by
  refine g_meti (cc := cX9_bestFor) (maxL := 3) (own := RX9) (by decide) rfl rfl (Nat.le_of_ble_eq_true rfl) ?_
  intro p ev s m args below meth c Q C G ret ls hl
  obtain ⟨⟨hx, hb, hml, hown, hts⟩, hK⟩ := id C
  have hl : lv_has ls 3 [(0, .ref (xN X + t)), (1, .int a1)] := hl
  unfold fX9_bestFor at h
  refine lv_aload_n hx hb dX9_bestFor_0 rfl (lv_at hl 0 rfl) ?_
  refine lv_iload_n hx hb dX9_bestFor_1 rfl (lv_at hl 1 rfl) ?_
  obtain ⟨v1, e_v1, h⟩ := g_bind h
  refine g_calli (g_runV (n := 1) (As := [.int a1]) (rest := []) C G (mX9_isScrap l X σ t a1 v1 ok e_v1) ok.1.2 (gE_9 ok.1.1) rfl (g_goodV u_ml_RX9_86 u_im_yX9_isScrap u_se_yX9_isScrap u_in_RX9 u_co_yX9_isScrap) rfl rfl rfl (by decide +kernel) ⟨Nat.le_of_ble_eq_true rfl, Nat.le_of_ble_eq_true rfl⟩ rfl hl.1 rfl (Nat.le_of_ble_eq_true rfl) dX9_bestFor_2 ⟨Nat.zero_le _, Nat.zero_le _⟩) G (fun H locs G => ?_)
  refine lv_if_ne (tgt := 12) hx hb dX9_bestFor_5 (by decide) (fun c2 => ?_) (fun c2 => ?_)
  · have h := g_if h c2
    refine lv_aload_n hx hb dX9_bestFor_12 rfl (lv_at hl 0 rfl) ?_
    refine lv_iload_n hx hb dX9_bestFor_13 rfl (lv_at hl 1 rfl) ?_
    obtain ⟨v3, e_v3, h⟩ := g_bind h
    refine g_calli (g_runV (n := 1) (As := [.int a1]) (rest := []) C G (mX9_isOn l X σ t a1 v3 ok e_v3) ok.1.2 (gE_9 ok.1.1) rfl (g_goodV u_ml_RX9_76 u_im_yX9_isOn u_se_yX9_isOn u_in_RX9 u_co_yX9_isOn) rfl rfl rfl (by decide +kernel) ⟨Nat.le_of_ble_eq_true rfl, Nat.le_of_ble_eq_true rfl⟩ rfl hl.1 rfl (Nat.le_of_ble_eq_true rfl) dX9_bestFor_14 ⟨Nat.zero_le _, Nat.zero_le _⟩) G (fun H locs G => ?_)
    refine lv_if_eq (tgt := 24) hx hb dX9_bestFor_17 (by decide) (fun c4 => ?_) (fun c4 => ?_)
    · have h := g_it h c4
      refine lv_aload_n hx hb dX9_bestFor_24 rfl (lv_at hl 0 rfl) ?_
      refine lv_iload_n hx hb dX9_bestFor_25 rfl (lv_at hl 1 rfl) ?_
      obtain ⟨⟨v5, σ6⟩, e_v5, h⟩ := g_bind h
      have h := g_let2 (v := v5) rfl h
      have h := g_let2 (v := σ6) rfl h
      refine g_calli (g_runV (n := 1) (As := [.int a1]) (rest := []) C G (mX9_best l X σ σ6 t a1 v5 ok e_v5) ok.1.2 (gE_9 ok.1.1) rfl (g_goodV u_ml_RX9_124 u_im_yX9_best u_se_yX9_best u_in_RX9 u_co_yX9_best) rfl rfl rfl (by decide +kernel) ⟨Nat.le_of_ble_eq_true rfl, Nat.le_of_ble_eq_true rfl⟩ rfl hl.1 rfl (Nat.le_of_ble_eq_true rfl) dX9_bestFor_26 ⟨Nat.zero_le _, Nat.zero_le _⟩) G (fun H locs G => ?_)
      refine lv_istore_n (lv' := [(2, .int v5), (0, .ref (xN X + t)), (1, .int a1)]) hx hb dX9_bestFor_29 rfl hl (by decide) rfl (fun ls hl => ?_)
      refine lv_iload_n hx hb dX9_bestFor_30 rfl (lv_at hl 0 rfl) ?_
      refine lv_iconst (v := (-1)) hx hb dX9_bestFor_31 (by decide) ?_
      refine lv_icmp_ne (tgt := 41) hx hb dX9_bestFor_32 (by decide) (fun c7 => ?_) (fun c7 => ?_)
      · have h := g_if h c7
        refine lv_iload_n hx hb dX9_bestFor_41 rfl (lv_at hl 0 rfl) ?_
        exact ret dX9_bestFor_42 rfl G (Prod.mk.inj (Option.some.inj h))
      · have h := g_it h c7
        refine lv_sipush (v := (-1004)) hx hb dX9_bestFor_35 (by decide) ?_
        refine lv_goto (tgt := 42) hx hb dX9_bestFor_38 (by decide) ?_
        exact ret dX9_bestFor_42 rfl G (Prod.mk.inj (Option.some.inj h))
    · have h := g_if h c4
      refine lv_sipush (v := (-1002)) hx hb dX9_bestFor_20 (by decide) ?_
      exact ret dX9_bestFor_23 rfl G (Prod.mk.inj (Option.some.inj h))
  · have h := g_it h c2
    refine lv_sipush (v := (-1001)) hx hb dX9_bestFor_8 (by decide) ?_
    exact ret dX9_bestFor_11 rfl G (Prod.mk.inj (Option.some.inj h))

def fX9_fill_8 (t : Nat) : Nat → gM → Int32 → Int32 → Option (Int32 × gM)
  | 0, _, _, _ => none
  | n + 1, σ, x1, x2 =>
    (if ¬ ((2 : Int32) < 0 ∨ gln (t + 1) ≤ (2 : Int32).toNatClampNeg) then
    (if (σ (t + 1) (2 : Int32).toNatClampNeg) ≤ x2 then
      some (x1, σ)
    else
      ((fX9_isOn σ t x2).bind fun v5 =>
      (if v5 = 0 then
        ((fX9_best σ t x2).bind fun pv7 => gl pv7.1 fun v7 => gl pv7.2 fun σ8 =>
        (if v7 = (-1) then
          (gl (x2 + 1) fun w11 =>
          fX9_fill_8 t n σ8 x1 w11)
        else
          ((fX9_puts σ8 t x2 (v7 / 10) (v7 - v7 / 10 * 10)).bind fun σ13 =>
          (gl (x1 + 1) fun w14 =>
          fX9_fill_8 t n σ13 w14 0))))
      else
        (gl (x2 + 1) fun w18 =>
        fX9_fill_8 t n σ x1 w18))))
    else none)

def fX9_fill (σ : gM) (t : Nat) : Option (Int32 × gM) :=
  ((fX9_records σ t).bind fun σ2 =>
  fX9_fill_8 t gF σ2 0 0)
set_option maxHeartbeats 4000000 in
set_option maxRecDepth 100000 in
theorem mX9_fill (l : Launch) (X : gX) (σ σ' : gM) (t : Nat) (r : Int32) (ok : gok9 X t) (h : fX9_fill σ t = some (r, σ')) : Met l yX9_fill (Cond.code yX9_fill cX9_fill 4 (some .int) :: gBig) ({ frames := 7, cells := 0, slots := 0, locals := 174 }) (gPc X σ [.ref (xN X + t)]) (gQi X σ' r) 0 0 (xA X) := by
  refine g_meti (cc := cX9_fill) (maxL := 4) (own := RX9) (by decide) rfl rfl (Nat.le_of_ble_eq_true rfl) ?_
  intro p ev s m args below meth c Q C G ret ls hl
  obtain ⟨⟨hx, hb, hml, hown, hts⟩, hK⟩ := id C
  have hl : lv_has ls 4 [(0, .ref (xN X + t))] := hl
  have L8 : ∀ (n : Nat) (H : Heap) (locs : List Loc) (ls : Array Slot) (σ : gM) (x1 : Int32) (x2 : Int32), gG X σ s H locs → lv_has ls 4 [(0, .ref (xN X + t)), (1, .int x1), (2, .int x2)] → fX9_fill_8 t n σ x1 x2 = some (r, σ') → W p l ev ({ frames := 7, cells := 0, slots := 0, locals := 174 }) s m args below meth c H locs 0 0 Q (F0 m 8 ls []) := by
    intro n
    induction n with
    | zero =>
      intro H locs ls σ x1 x2 G hl h
      rw [fX9_fill_8] at h
      cases h
    | succ n ih =>
      intro H locs ls σ x1 x2 G hl h
      rw [fX9_fill_8] at h
      refine lv_iload_n hx hb dX9_fill_8 rfl (lv_at hl 2 rfl) ?_
      refine lv_aload_n hx hb dX9_fill_9 rfl (lv_at hl 0 rfl) ?_
      refine gg9_0 C G ok.1 ok.2.1.1 u_fl_RX9_7 dX9_fill_10 ?_
      refine lv_iconst (v := 2) hx hb dX9_fill_13 (by decide) ?_
      obtain ⟨c3, h⟩ := g_chk h
      refine g_iald C G ok.2.2.1 c3 dX9_fill_14 ?_
      refine lv_icmp_ge (tgt := 73) hx hb dX9_fill_15 (by decide) (fun c4 => ?_) (fun c4 => ?_)
      · have h := g_it h c4
        refine lv_iload_n hx hb dX9_fill_73 rfl (lv_at hl 1 rfl) ?_
        exact ret dX9_fill_74 rfl G (Prod.mk.inj (Option.some.inj h))
      · have h := g_if h c4
        refine lv_aload_n hx hb dX9_fill_18 rfl (lv_at hl 0 rfl) ?_
        refine lv_iload_n hx hb dX9_fill_19 rfl (lv_at hl 2 rfl) ?_
        obtain ⟨v5, e_v5, h⟩ := g_bind h
        refine g_calli (g_runV (n := 1) (As := [.int x2]) (rest := []) C G (mX9_isOn l X σ t x2 v5 ok e_v5) ok.1.2 (gE_9 ok.1.1) rfl (g_goodV u_ml_RX9_76 u_im_yX9_isOn u_se_yX9_isOn u_in_RX9 u_co_yX9_isOn) rfl rfl rfl (by decide +kernel) ⟨Nat.le_of_ble_eq_true rfl, Nat.le_of_ble_eq_true rfl⟩ rfl hl.1 rfl (Nat.le_of_ble_eq_true rfl) dX9_fill_20 ⟨Nat.zero_le _, Nat.zero_le _⟩) G (fun H locs G => ?_)
        refine lv_if_eq (tgt := 30) hx hb dX9_fill_23 (by decide) (fun c6 => ?_) (fun c6 => ?_)
        · have h := g_it h c6
          refine lv_aload_n hx hb dX9_fill_30 rfl (lv_at hl 0 rfl) ?_
          refine lv_iload_n hx hb dX9_fill_31 rfl (lv_at hl 2 rfl) ?_
          obtain ⟨⟨v7, σ8⟩, e_v7, h⟩ := g_bind h
          have h := g_let2 (v := v7) rfl h
          have h := g_let2 (v := σ8) rfl h
          refine g_calli (g_runV (n := 1) (As := [.int x2]) (rest := []) C G (mX9_best l X σ σ8 t x2 v7 ok e_v7) ok.1.2 (gE_9 ok.1.1) rfl (g_goodV u_ml_RX9_124 u_im_yX9_best u_se_yX9_best u_in_RX9 u_co_yX9_best) rfl rfl rfl (by decide +kernel) ⟨Nat.le_of_ble_eq_true rfl, Nat.le_of_ble_eq_true rfl⟩ rfl hl.1 rfl (Nat.le_of_ble_eq_true rfl) dX9_fill_32 ⟨Nat.zero_le _, Nat.zero_le _⟩) G (fun H locs G => ?_)
          refine lv_istore_n (lv' := [(3, .int v7), (0, .ref (xN X + t)), (1, .int x1), (2, .int x2)]) hx hb dX9_fill_35 rfl hl (by decide) rfl (fun ls hl => ?_)
          refine lv_iload_n hx hb dX9_fill_36 rfl (lv_at hl 0 rfl) ?_
          refine lv_iconst (v := (-1)) hx hb dX9_fill_37 (by decide) ?_
          refine lv_icmp_eq (tgt := 57) hx hb dX9_fill_38 (by decide) (fun c9 => ?_) (fun c9 => ?_)
          · have h := g_it h c9
            refine lv_iload_n hx hb dX9_fill_57 rfl (lv_at hl 0 rfl) ?_
            refine lv_iconst (v := (-1)) hx hb dX9_fill_58 (by decide) ?_
            refine lv_icmp_ne (tgt := 68) hx hb dX9_fill_59 (by decide) (fun c10 => absurd c9 c10) (fun _ => ?_)
            refine lv_iload_n hx hb dX9_fill_62 rfl (lv_at hl 3 rfl) ?_
            refine lv_iconst (v := 1) hx hb dX9_fill_63 (by decide) ?_
            refine lv_iadd hx hb dX9_fill_64 ?_
            refine lv_goto (tgt := 69) hx hb dX9_fill_65 (by decide) ?_
            refine lv_topi (fun w11 e_w11 => ?_)
            have h := g_let2 e_w11 h
            refine lv_istore_n (lv' := [(2, .int w11), (3, .int v7), (0, .ref (xN X + t)), (1, .int x1)]) hx hb dX9_fill_69 rfl hl (by decide) rfl (fun ls hl => ?_)
            refine lv_goto (tgt := 8) hx hb dX9_fill_70 (by decide) ?_
            exact ih _ _ _ σ8 x1 w11 G (lv_sub hl [2, 3, 0] rfl) h
          · have h := g_if h c9
            refine lv_aload_n hx hb dX9_fill_41 rfl (lv_at hl 1 rfl) ?_
            refine lv_iload_n hx hb dX9_fill_42 rfl (lv_at hl 3 rfl) ?_
            refine lv_iload_n hx hb dX9_fill_43 rfl (lv_at hl 0 rfl) ?_
            refine lv_bipush (v := 10) hx hb dX9_fill_44 (by decide) ?_
            refine lv_idiv hx hb dX9_fill_46 (by decide) ?_
            refine lv_iload_n hx hb dX9_fill_47 rfl (lv_at hl 0 rfl) ?_
            refine lv_bipush (v := 10) hx hb dX9_fill_48 (by decide) ?_
            refine lv_irem hx hb dX9_fill_50 (by decide) ?_
            obtain ⟨σ13, e_σ13, h⟩ := g_bind h
            refine g_callv (g_runV (n := 3) (As := [.int x2, .int (v7 / 10), .int (v7 - v7 / 10 * 10)]) (rest := []) C G (mX9_puts l X σ8 σ13 t x2 (v7 / 10) (v7 - v7 / 10 * 10) ok e_σ13) ok.1.2 (gE_9 ok.1.1) rfl (g_goodV u_ml_RX9_117 u_im_yX9_puts u_se_yX9_puts u_in_RX9 u_co_yX9_puts) rfl rfl rfl (by decide +kernel) ⟨Nat.le_of_ble_eq_true rfl, Nat.le_of_ble_eq_true rfl⟩ rfl hl.1 rfl (Nat.le_of_ble_eq_true rfl) dX9_fill_51 ⟨Nat.zero_le _, Nat.zero_le _⟩) G (fun H locs G => ?_)
            obtain ⟨w14, e_w14⟩ : ∃ y : Int32, y = x1 + 1 := ⟨_, rfl⟩
            have h := g_let2 e_w14 h
            refine lv_iinc (v := w14) (lv' := [(1, .int w14), (3, .int v7), (0, .ref (xN X + t)), (2, .int x2)]) hx hb dX9_fill_54 hl (k := 2) rfl (by rw [e_w14]; rfl) (by decide) rfl (fun ls hl => ?_)
            refine lv_iload_n hx hb dX9_fill_57 rfl (lv_at hl 1 rfl) ?_
            refine lv_iconst (v := (-1)) hx hb dX9_fill_58 (by decide) ?_
            refine lv_icmp_ne (tgt := 68) hx hb dX9_fill_59 (by decide) (fun _ => ?_) (fun c15 => absurd c15 c9)
            refine lv_iconst (v := 0) hx hb dX9_fill_68 (by decide) ?_
            refine lv_istore_n (lv' := [(2, .int 0), (1, .int w14), (3, .int v7), (0, .ref (xN X + t))]) hx hb dX9_fill_69 rfl hl (by decide) rfl (fun ls hl => ?_)
            refine lv_goto (tgt := 8) hx hb dX9_fill_70 (by decide) ?_
            exact ih _ _ _ σ13 w14 0 G (lv_sub hl [3, 1, 0] rfl) h
        · have h := g_if h c6
          refine lv_iconst (v := (-1)) hx hb dX9_fill_26 (by decide) ?_
          refine lv_goto (tgt := 35) hx hb dX9_fill_27 (by decide) ?_
          refine lv_istore_n (lv' := [(3, .int (-1)), (0, .ref (xN X + t)), (1, .int x1), (2, .int x2)]) hx hb dX9_fill_35 rfl hl (by decide) rfl (fun ls hl => ?_)
          refine lv_iload_n hx hb dX9_fill_36 rfl (lv_at hl 0 rfl) ?_
          refine lv_iconst (v := (-1)) hx hb dX9_fill_37 (by decide) ?_
          refine lv_icmp_eq (tgt := 57) hx hb dX9_fill_38 (by decide) (fun _ => ?_) (fun c16 => absurd c16 (by decide))
          refine lv_iload_n hx hb dX9_fill_57 rfl (lv_at hl 0 rfl) ?_
          refine lv_iconst (v := (-1)) hx hb dX9_fill_58 (by decide) ?_
          refine lv_icmp_ne (tgt := 68) hx hb dX9_fill_59 (by decide) (fun c17 => absurd c17 (by decide)) (fun _ => ?_)
          refine lv_iload_n hx hb dX9_fill_62 rfl (lv_at hl 3 rfl) ?_
          refine lv_iconst (v := 1) hx hb dX9_fill_63 (by decide) ?_
          refine lv_iadd hx hb dX9_fill_64 ?_
          refine lv_goto (tgt := 69) hx hb dX9_fill_65 (by decide) ?_
          refine lv_topi (fun w18 e_w18 => ?_)
          have h := g_let2 e_w18 h
          refine lv_istore_n (lv' := [(2, .int w18), (3, .int (-1)), (0, .ref (xN X + t)), (1, .int x1)]) hx hb dX9_fill_69 rfl hl (by decide) rfl (fun ls hl => ?_)
          refine lv_goto (tgt := 8) hx hb dX9_fill_70 (by decide) ?_
          exact ih _ _ _ σ x1 w18 G (lv_sub hl [2, 3, 0] rfl) h
  unfold fX9_fill at h
  refine lv_aload_n hx hb dX9_fill_0 rfl (lv_at hl 0 rfl) ?_
  obtain ⟨σ2, e_σ2, h⟩ := g_bind h
  refine g_callv (g_runV (n := 0) (As := []) (rest := []) C G (mX9_records l X σ σ2 t ok e_σ2) ok.1.2 (gE_9 ok.1.1) rfl (g_goodV u_ml_RX9_73 u_im_yX9_records u_se_yX9_records u_in_RX9 u_co_yX9_records) rfl rfl rfl (by decide +kernel) ⟨Nat.le_of_ble_eq_true rfl, Nat.le_of_ble_eq_true rfl⟩ rfl hl.1 rfl (Nat.le_of_ble_eq_true rfl) dX9_fill_1 ⟨Nat.zero_le _, Nat.zero_le _⟩) G (fun H locs G => ?_)
  refine lv_iconst (v := 0) hx hb dX9_fill_4 (by decide) ?_
  refine lv_istore_n (lv' := [(1, .int 0), (0, .ref (xN X + t))]) hx hb dX9_fill_5 rfl hl (by decide) rfl (fun ls hl => ?_)
  refine lv_iconst (v := 0) hx hb dX9_fill_6 (by decide) ?_
  refine lv_istore_n (lv' := [(2, .int 0), (1, .int 0), (0, .ref (xN X + t))]) hx hb dX9_fill_7 rfl hl (by decide) rfl (fun ls hl => ?_)
  exact L8  gF _ _ _ σ2 0 0 G (lv_sub hl [2, 1, 0] rfl) h

def fX9_member_31 (t : Nat) (a1 : Int32) (a2 : Int32) : Nat → gM → Int32 → Int32 → Option (Int32 × gM)
  | 0, _, _, _ => none
  | n + 1, σ, x3, x4 =>
    (if ¬ ((2 : Int32) < 0 ∨ gln (t + 1) ≤ (2 : Int32).toNatClampNeg) then
    (if (σ (t + 1) (2 : Int32).toNatClampNeg) ≤ x4 then
      some ((-1004), σ)
    else
      (if ¬ (x4 < 0 ∨ gln (t + 7) ≤ x4.toNatClampNeg) then
      (if (σ (t + 7) x4.toNatClampNeg) = a1 then
        (if x3 = 0 then
          some (x4, σ)
        else
          (gl (x3 + (-1)) fun w11 =>
          (gl (x4 + 1) fun w12 =>
          fX9_member_31 t a1 a2 n σ w11 w12)))
      else
        (gl (x4 + 1) fun w13 =>
        fX9_member_31 t a1 a2 n σ x3 w13))
      else none))
    else none)

def fX9_member (σ : gM) (t : Nat) (a1 : Int32) (a2 : Int32) : Option (Int32 × gM) :=
  ((fX9_gathers σ t).bind fun σ2 =>
  ((fX9_in σ2 a1 0 ((σ2 t 9) - 1)).bind fun v3 =>
  (if v3 = 0 then
    some ((-1001), σ2)
  else
    (if 0 ≤ a2 then
      fX9_member_31 t a1 a2 gF σ2 a2 0
    else
      some ((-1001), σ2)))))
set_option maxHeartbeats 4000000 in
set_option maxRecDepth 100000 in
theorem mX9_member (l : Launch) (X : gX) (σ σ' : gM) (t : Nat) (a1 : Int32) (a2 : Int32) (r : Int32) (ok : gok9 X t) (h : fX9_member σ t a1 a2 = some (r, σ')) : Met l yX9_member (Cond.code yX9_member cX9_member 5 (some .int) :: gBig) ({ frames := 6, cells := 0, slots := 0, locals := 145 }) (gPc X σ [.ref (xN X + t), .int a1, .int a2]) (gQi X σ' r) 0 0 (xA X) := by
  refine g_meti (cc := cX9_member) (maxL := 5) (own := RX9) (by decide) rfl rfl (Nat.le_of_ble_eq_true rfl) ?_
  intro p ev s m args below meth c Q C G ret ls hl
  obtain ⟨⟨hx, hb, hml, hown, hts⟩, hK⟩ := id C
  have hl : lv_has ls 5 [(0, .ref (xN X + t)), (1, .int a1), (2, .int a2)] := hl
  have L31 : ∀ (n : Nat) (H : Heap) (locs : List Loc) (ls : Array Slot) (σ : gM) (x3 : Int32) (x4 : Int32), gG X σ s H locs → lv_has ls 5 [(0, .ref (xN X + t)), (1, .int a1), (3, .int x3), (4, .int x4)] → fX9_member_31 t a1 a2 n σ x3 x4 = some (r, σ') → W p l ev ({ frames := 6, cells := 0, slots := 0, locals := 145 }) s m args below meth c H locs 0 0 Q (F0 m 31 ls []) := by
    intro n
    induction n with
    | zero =>
      intro H locs ls σ x3 x4 G hl h
      rw [fX9_member_31] at h
      cases h
    | succ n ih =>
      intro H locs ls σ x3 x4 G hl h
      rw [fX9_member_31] at h
      refine lv_iload hx hb dX9_member_31 (lv_at hl 3 rfl) ?_
      refine lv_aload_n hx hb dX9_member_33 rfl (lv_at hl 0 rfl) ?_
      refine gg9_0 C G ok.1 ok.2.1.1 u_fl_RX9_7 dX9_member_34 ?_
      refine lv_iconst (v := 2) hx hb dX9_member_37 (by decide) ?_
      obtain ⟨c6, h⟩ := g_chk h
      refine g_iald C G ok.2.2.1 c6 dX9_member_38 ?_
      refine lv_icmp_ge (tgt := 69) hx hb dX9_member_39 (by decide) (fun c7 => ?_) (fun c7 => ?_)
      · have h := g_it h c7
        refine lv_sipush (v := (-1004)) hx hb dX9_member_69 (by decide) ?_
        exact ret dX9_member_72 rfl G (Prod.mk.inj (Option.some.inj h))
      · have h := g_if h c7
        refine lv_aload_n hx hb dX9_member_42 rfl (lv_at hl 0 rfl) ?_
        refine gg9_8 C G ok.1 ok.2.1.2.2.2.2.2.2.1 u_fl_RX9_29 dX9_member_43 ?_
        refine lv_iload hx hb dX9_member_46 (lv_at hl 3 rfl) ?_
        obtain ⟨c8, h⟩ := g_chk h
        refine g_iald C G ok.2.2.2.2.2.2.2.2.1 c8 dX9_member_48 ?_
        refine lv_iload_n hx hb dX9_member_49 rfl (lv_at hl 1 rfl) ?_
        refine lv_icmp_ne (tgt := 63) hx hb dX9_member_50 (by decide) (fun c9 => ?_) (fun c9 => ?_)
        · have h := g_if h c9
          obtain ⟨w13, e_w13⟩ : ∃ y : Int32, y = x4 + 1 := ⟨_, rfl⟩
          have h := g_let2 e_w13 h
          refine lv_iinc (v := w13) (lv' := [(4, .int w13), (0, .ref (xN X + t)), (1, .int a1), (3, .int x3)]) hx hb dX9_member_63 hl (k := 3) rfl (by rw [e_w13]; rfl) (by decide) rfl (fun ls hl => ?_)
          refine lv_goto (tgt := 31) hx hb dX9_member_66 (by decide) ?_
          exact ih _ _ _ σ x3 w13 G (lv_sub hl [1, 2, 3, 0] rfl) h
        · have h := g_it h c9
          refine lv_iload_n hx hb dX9_member_53 rfl (lv_at hl 2 rfl) ?_
          refine lv_if_ne (tgt := 60) hx hb dX9_member_54 (by decide) (fun c10 => ?_) (fun c10 => ?_)
          · have h := g_if h c10
            obtain ⟨w11, e_w11⟩ : ∃ y : Int32, y = x3 + (-1) := ⟨_, rfl⟩
            have h := g_let2 e_w11 h
            refine lv_iinc (v := w11) (lv' := [(3, .int w11), (0, .ref (xN X + t)), (1, .int a1), (4, .int x4)]) hx hb dX9_member_60 hl (k := 2) rfl (by rw [e_w11]; rfl) (by decide) rfl (fun ls hl => ?_)
            obtain ⟨w12, e_w12⟩ : ∃ y : Int32, y = x4 + 1 := ⟨_, rfl⟩
            have h := g_let2 e_w12 h
            refine lv_iinc (v := w12) (lv' := [(4, .int w12), (3, .int w11), (0, .ref (xN X + t)), (1, .int a1)]) hx hb dX9_member_63 hl (k := 3) rfl (by rw [e_w12]; rfl) (by decide) rfl (fun ls hl => ?_)
            refine lv_goto (tgt := 31) hx hb dX9_member_66 (by decide) ?_
            exact ih _ _ _ σ w11 w12 G (lv_sub hl [2, 3, 1, 0] rfl) h
          · have h := g_it h c10
            refine lv_iload hx hb dX9_member_57 (lv_at hl 3 rfl) ?_
            exact ret dX9_member_59 rfl G (Prod.mk.inj (Option.some.inj h))
  unfold fX9_member at h
  refine lv_aload_n hx hb dX9_member_0 rfl (lv_at hl 0 rfl) ?_
  obtain ⟨σ2, e_σ2, h⟩ := g_bind h
  refine g_callv (g_runV (n := 0) (As := []) (rest := []) C G (mX9_gathers l X σ σ2 t ok e_σ2) ok.1.2 (gE_9 ok.1.1) rfl (g_goodV u_ml_RX9_89 u_im_yX9_gathers u_se_yX9_gathers u_in_RX9 u_co_yX9_gathers) rfl rfl rfl (by decide +kernel) ⟨Nat.le_of_ble_eq_true rfl, Nat.le_of_ble_eq_true rfl⟩ rfl hl.1 rfl (Nat.le_of_ble_eq_true rfl) dX9_member_1 ⟨Nat.zero_le _, Nat.zero_le _⟩) G (fun H locs G => ?_)
  refine lv_iload_n hx hb dX9_member_4 rfl (lv_at hl 1 rfl) ?_
  refine lv_iconst (v := 0) hx hb dX9_member_5 (by decide) ?_
  refine lv_aload_n hx hb dX9_member_6 rfl (lv_at hl 0 rfl) ?_
  refine gg9_9 C G ok.1 u_fl_RX9_99 dX9_member_7 ?_
  refine lv_iconst (v := 1) hx hb dX9_member_10 (by decide) ?_
  refine lv_isub hx hb dX9_member_11 ?_
  obtain ⟨v3, e_v3, h⟩ := g_bind h
  refine g_calli (g_runS (n := 3) (As := [.int a1, .int 0, .int ((σ2 t 9) - 1)]) (rest := []) C G (mX9_in l X σ2 a1 0 ((σ2 t 9) - 1) v3 e_v3) (g_goodS u_ml_RX9_38 u_st_yX9_in u_in_RX9 u_co_yX9_in) rfl rfl rfl (by decide +kernel) ⟨Nat.le_of_ble_eq_true rfl, Nat.le_of_ble_eq_true rfl⟩ rfl hl.1 rfl (Nat.le_of_ble_eq_true rfl) dX9_member_12 ⟨Nat.zero_le _, Nat.zero_le _⟩) G (fun H locs G => ?_)
  refine lv_if_eq (tgt := 22) hx hb dX9_member_15 (by decide) (fun c4 => ?_) (fun c4 => ?_)
  · have h := g_it h c4
    refine lv_sipush (v := (-1001)) hx hb dX9_member_22 (by decide) ?_
    exact ret dX9_member_25 rfl G (Prod.mk.inj (Option.some.inj h))
  · have h := g_if h c4
    refine lv_iload_n hx hb dX9_member_18 rfl (lv_at hl 2 rfl) ?_
    refine lv_if_ge (tgt := 26) hx hb dX9_member_19 (by decide) (fun c5 => ?_) (fun c5 => ?_)
    · have h := g_it h c5
      refine lv_iload_n hx hb dX9_member_26 rfl (lv_at hl 2 rfl) ?_
      refine lv_istore_n (lv' := [(3, .int a2), (0, .ref (xN X + t)), (1, .int a1), (2, .int a2)]) hx hb dX9_member_27 rfl hl (by decide) rfl (fun ls hl => ?_)
      refine lv_iconst (v := 0) hx hb dX9_member_28 (by decide) ?_
      refine lv_istore (lv' := [(4, .int 0), (3, .int a2), (0, .ref (xN X + t)), (1, .int a1), (2, .int a2)]) hx hb dX9_member_29 hl (by decide) rfl (fun ls hl => ?_)
      exact L31  gF _ _ _ σ2 a2 0 G (lv_sub hl [2, 3, 1, 0] rfl) h
    · have h := g_if h c5
      refine lv_sipush (v := (-1001)) hx hb dX9_member_22 (by decide) ?_
      exact ret dX9_member_25 rfl G (Prod.mk.inj (Option.some.inj h))

def fX9_fillsAll_9 (t : Nat) : Nat → gM → Int32 → Option (Int32 × gM)
  | 0, _, _ => none
  | n + 1, σ, x1 =>
    ((fX9_places σ t).bind fun v3 =>
    ((fX9_in σ x1 0 (v3 - 1)).bind fun v4 =>
    (if v4 = 0 then
      ((fX9_places σ t).bind fun v6 =>
      (if x1 = v6 then
        some (1, σ)
      else
        some (0, σ)))
    else
      ((fX9_scrapAt σ t x1).bind fun v8 =>
      (if v8 = (-1) then
        (if ¬ (x1 < 0 ∨ gln (t + 8) ≤ x1.toNatClampNeg) then
        (if ¬ (x1 < 0 ∨ gln (t + 8) ≤ x1.toNatClampNeg) then
        (gl (gset σ (t + 8) (upd (σ (t + 8)) x1.toNatClampNeg ((σ (t + 8) x1.toNatClampNeg) + 1))) fun σ12 =>
        (if ¬ (x1 < 0 ∨ gln (t + 8) ≤ x1.toNatClampNeg) then
        (gl ((σ12 (t + 8) x1.toNatClampNeg) / 8) fun w14 =>
        (if ¬ ((2 : Int32) < 0 ∨ gln (t + 1) ≤ (2 : Int32).toNatClampNeg) then
        (if w14 = (σ12 (t + 1) (2 : Int32).toNatClampNeg) then
          (gl (x1 + (-1)) fun w17 =>
          fX9_fillsAll_9 t n σ12 w17)
        else
          ((fX9_isOn σ12 t w14).bind fun v18 =>
          (if v18 = 0 then
            (if ¬ (x1 < 0 ∨ gln (t + 8) ≤ x1.toNatClampNeg) then
            ((fX9_canLie σ12 t w14 x1 ((σ12 (t + 8) x1.toNatClampNeg) - (σ12 (t + 8) x1.toNatClampNeg) / 8 * 8)).bind fun pv21 => gl pv21.1 fun v21 => gl pv21.2 fun σ22 =>
            (if v21 = 0 then
              fX9_fillsAll_9 t n σ22 x1
            else
              (if ¬ (x1 < 0 ∨ gln (t + 8) ≤ x1.toNatClampNeg) then
              ((fX9_puts σ22 t w14 x1 ((σ22 (t + 8) x1.toNatClampNeg) - (σ22 (t + 8) x1.toNatClampNeg) / 8 * 8)).bind fun σ26 =>
              (gl (x1 + 1) fun w27 =>
              ((fX9_places σ26 t).bind fun v28 =>
              (if v28 ≤ w27 then
                fX9_fillsAll_9 t n σ26 w27
              else
                (if ¬ (w27 < 0 ∨ gln (t + 8) ≤ w27.toNatClampNeg) then
                (gl (gset σ26 (t + 8) (upd (σ26 (t + 8)) w27.toNatClampNeg (-1))) fun σ31 =>
                fX9_fillsAll_9 t n σ31 w27)
                else none)))))
              else none)))
            else none)
          else
            fX9_fillsAll_9 t n σ12 x1)))
        else none))
        else none))
        else none)
        else none)
      else
        ((fX9_puts σ t v8 (-1) 0).bind fun σ33 =>
        (if ¬ (x1 < 0 ∨ gln (t + 8) ≤ x1.toNatClampNeg) then
        (if ¬ (x1 < 0 ∨ gln (t + 8) ≤ x1.toNatClampNeg) then
        (gl (gset σ33 (t + 8) (upd (σ33 (t + 8)) x1.toNatClampNeg ((σ33 (t + 8) x1.toNatClampNeg) + 1))) fun σ36 =>
        (if ¬ (x1 < 0 ∨ gln (t + 8) ≤ x1.toNatClampNeg) then
        (gl ((σ36 (t + 8) x1.toNatClampNeg) / 8) fun w38 =>
        (if ¬ ((2 : Int32) < 0 ∨ gln (t + 1) ≤ (2 : Int32).toNatClampNeg) then
        (if w38 = (σ36 (t + 1) (2 : Int32).toNatClampNeg) then
          (gl (x1 + (-1)) fun w41 =>
          fX9_fillsAll_9 t n σ36 w41)
        else
          ((fX9_isOn σ36 t w38).bind fun v42 =>
          (if v42 = 0 then
            (if ¬ (x1 < 0 ∨ gln (t + 8) ≤ x1.toNatClampNeg) then
            ((fX9_canLie σ36 t w38 x1 ((σ36 (t + 8) x1.toNatClampNeg) - (σ36 (t + 8) x1.toNatClampNeg) / 8 * 8)).bind fun pv45 => gl pv45.1 fun v45 => gl pv45.2 fun σ46 =>
            (if v45 = 0 then
              fX9_fillsAll_9 t n σ46 x1
            else
              (if ¬ (x1 < 0 ∨ gln (t + 8) ≤ x1.toNatClampNeg) then
              ((fX9_puts σ46 t w38 x1 ((σ46 (t + 8) x1.toNatClampNeg) - (σ46 (t + 8) x1.toNatClampNeg) / 8 * 8)).bind fun σ50 =>
              (gl (x1 + 1) fun w51 =>
              ((fX9_places σ50 t).bind fun v52 =>
              (if v52 ≤ w51 then
                fX9_fillsAll_9 t n σ50 w51
              else
                (if ¬ (w51 < 0 ∨ gln (t + 8) ≤ w51.toNatClampNeg) then
                (gl (gset σ50 (t + 8) (upd (σ50 (t + 8)) w51.toNatClampNeg (-1))) fun σ55 =>
                fX9_fillsAll_9 t n σ55 w51)
                else none)))))
              else none)))
            else none)
          else
            fX9_fillsAll_9 t n σ36 x1)))
        else none))
        else none))
        else none)
        else none)))))))

def fX9_fillsAll (σ : gM) (t : Nat) : Option (Int32 × gM) :=
  (if ¬ ((0 : Int32) < 0 ∨ gln (t + 8) ≤ (0 : Int32).toNatClampNeg) then
  (gl (gset σ (t + 8) (upd (σ (t + 8)) (0 : Int32).toNatClampNeg (-1))) fun σ2 =>
  fX9_fillsAll_9 t gF σ2 0)
  else none)
set_option maxHeartbeats 4000000 in
set_option maxRecDepth 100000 in
theorem mX9_fillsAll (l : Launch) (X : gX) (σ σ' : gM) (t : Nat) (r : Int32) (ok : gok9 X t) (h : fX9_fillsAll σ t = some (r, σ')) : Met l yX9_fillsAll (Cond.code yX9_fillsAll cX9_fillsAll 4 (some .boolean) :: gBig) ({ frames := 6, cells := 0, slots := 0, locals := 149 }) (gPc X σ [.ref (xN X + t)]) (gQi X σ' r) 0 0 (xA X) := by
  refine g_meti (cc := cX9_fillsAll) (maxL := 4) (own := RX9) (by decide) rfl rfl (Nat.le_of_ble_eq_true rfl) ?_
  intro p ev s m args below meth c Q C G ret ls hl
  obtain ⟨⟨hx, hb, hml, hown, hts⟩, hK⟩ := id C
  have hl : lv_has ls 4 [(0, .ref (xN X + t))] := hl
  have L9 : ∀ (n : Nat) (H : Heap) (locs : List Loc) (ls : Array Slot) (σ : gM) (x1 : Int32), gG X σ s H locs → lv_has ls 4 [(0, .ref (xN X + t)), (1, .int x1)] → fX9_fillsAll_9 t n σ x1 = some (r, σ') → W p l ev ({ frames := 6, cells := 0, slots := 0, locals := 149 }) s m args below meth c H locs 0 0 Q (F0 m 9 ls []) := by
    intro n
    induction n with
    | zero =>
      intro H locs ls σ x1 G hl h
      rw [fX9_fillsAll_9] at h
      cases h
    | succ n ih =>
      intro H locs ls σ x1 G hl h
      rw [fX9_fillsAll_9] at h
      refine lv_iload_n hx hb dX9_fillsAll_9 rfl (lv_at hl 1 rfl) ?_
      refine lv_iconst (v := 0) hx hb dX9_fillsAll_10 (by decide) ?_
      refine lv_aload_n hx hb dX9_fillsAll_11 rfl (lv_at hl 0 rfl) ?_
      obtain ⟨v3, e_v3, h⟩ := g_bind h
      refine g_calli (g_runV (n := 0) (As := []) (rest := [.int 0, .int x1]) C G (mX9_places l X σ t v3 ok e_v3) ok.1.2 (gE_9 ok.1.1) rfl (g_goodV u_ml_RX9_42 u_im_yX9_places u_se_yX9_places u_in_RX9 u_co_yX9_places) rfl rfl rfl (by decide +kernel) ⟨Nat.le_of_ble_eq_true rfl, Nat.le_of_ble_eq_true rfl⟩ rfl hl.1 rfl (Nat.le_of_ble_eq_true rfl) dX9_fillsAll_12 ⟨Nat.zero_le _, Nat.zero_le _⟩) G (fun H locs G => ?_)
      refine lv_iconst (v := 1) hx hb dX9_fillsAll_15 (by decide) ?_
      refine lv_isub hx hb dX9_fillsAll_16 ?_
      obtain ⟨v4, e_v4, h⟩ := g_bind h
      refine g_calli (g_runS (n := 3) (As := [.int x1, .int 0, .int (v3 - 1)]) (rest := []) C G (mX9_in l X σ x1 0 (v3 - 1) v4 e_v4) (g_goodS u_ml_RX9_38 u_st_yX9_in u_in_RX9 u_co_yX9_in) rfl rfl rfl (by decide +kernel) ⟨Nat.le_of_ble_eq_true rfl, Nat.le_of_ble_eq_true rfl⟩ rfl hl.1 rfl (Nat.le_of_ble_eq_true rfl) dX9_fillsAll_17 ⟨Nat.zero_le _, Nat.zero_le _⟩) G (fun H locs G => ?_)
      refine lv_if_eq (tgt := 139) hx hb dX9_fillsAll_20 (by decide) (fun c5 => ?_) (fun c5 => ?_)
      · have h := g_it h c5
        refine lv_iload_n hx hb dX9_fillsAll_139 rfl (lv_at hl 1 rfl) ?_
        refine lv_aload_n hx hb dX9_fillsAll_140 rfl (lv_at hl 0 rfl) ?_
        obtain ⟨v6, e_v6, h⟩ := g_bind h
        refine g_calli (g_runV (n := 0) (As := []) (rest := [.int x1]) C G (mX9_places l X σ t v6 ok e_v6) ok.1.2 (gE_9 ok.1.1) rfl (g_goodV u_ml_RX9_42 u_im_yX9_places u_se_yX9_places u_in_RX9 u_co_yX9_places) rfl rfl rfl (by decide +kernel) ⟨Nat.le_of_ble_eq_true rfl, Nat.le_of_ble_eq_true rfl⟩ rfl hl.1 rfl (Nat.le_of_ble_eq_true rfl) dX9_fillsAll_141 ⟨Nat.zero_le _, Nat.zero_le _⟩) G (fun H locs G => ?_)
        refine lv_icmp_ne (tgt := 151) hx hb dX9_fillsAll_144 (by decide) (fun c7 => ?_) (fun c7 => ?_)
        · have h := g_if h c7
          refine lv_iconst (v := 0) hx hb dX9_fillsAll_151 (by decide) ?_
          exact ret dX9_fillsAll_152 rfl G (Prod.mk.inj (Option.some.inj h))
        · have h := g_it h c7
          refine lv_iconst (v := 1) hx hb dX9_fillsAll_147 (by decide) ?_
          refine lv_goto (tgt := 152) hx hb dX9_fillsAll_148 (by decide) ?_
          exact ret dX9_fillsAll_152 rfl G (Prod.mk.inj (Option.some.inj h))
      · have h := g_if h c5
        refine lv_aload_n hx hb dX9_fillsAll_23 rfl (lv_at hl 0 rfl) ?_
        refine lv_iload_n hx hb dX9_fillsAll_24 rfl (lv_at hl 1 rfl) ?_
        obtain ⟨v8, e_v8, h⟩ := g_bind h
        refine g_calli (g_runV (n := 1) (As := [.int x1]) (rest := []) C G (mX9_scrapAt l X σ t x1 v8 ok e_v8) ok.1.2 (gE_9 ok.1.1) rfl (g_goodV u_ml_RX9_66 u_im_yX9_scrapAt u_se_yX9_scrapAt u_in_RX9 u_co_yX9_scrapAt) rfl rfl rfl (by decide +kernel) ⟨Nat.le_of_ble_eq_true rfl, Nat.le_of_ble_eq_true rfl⟩ rfl hl.1 rfl (Nat.le_of_ble_eq_true rfl) dX9_fillsAll_25 ⟨Nat.zero_le _, Nat.zero_le _⟩) G (fun H locs G => ?_)
        refine lv_istore_n (lv' := [(2, .int v8), (0, .ref (xN X + t)), (1, .int x1)]) hx hb dX9_fillsAll_28 rfl hl (by decide) rfl (fun ls hl => ?_)
        refine lv_iload_n hx hb dX9_fillsAll_29 rfl (lv_at hl 0 rfl) ?_
        refine lv_iconst (v := (-1)) hx hb dX9_fillsAll_30 (by decide) ?_
        refine lv_icmp_eq (tgt := 41) hx hb dX9_fillsAll_31 (by decide) (fun c9 => ?_) (fun c9 => ?_)
        · have h := g_it h c9
          refine lv_aload_n hx hb dX9_fillsAll_41 rfl (lv_at hl 1 rfl) ?_
          refine gg9_10 C G ok.1 ok.2.1.2.2.2.2.2.2.2.1 u_fl_RX9_32 dX9_fillsAll_42 ?_
          refine lv_iload_n hx hb dX9_fillsAll_45 rfl (lv_at hl 2 rfl) ?_
          refine lv_dup2_11 hx hb dX9_fillsAll_46 rfl rfl ?_
          obtain ⟨c10, h⟩ := g_chk h
          refine g_iald C G ok.2.2.2.2.2.2.2.2.2.1 c10 dX9_fillsAll_47 ?_
          refine lv_iconst (v := 1) hx hb dX9_fillsAll_48 (by decide) ?_
          refine lv_iadd hx hb dX9_fillsAll_49 ?_
          obtain ⟨c11, h⟩ := g_chk h
          obtain ⟨σ12, e_σ12, h⟩ := g_let h
          refine g_iast C G ok.2.2.2.2.2.2.2.2.2.1 c11 dX9_fillsAll_50 (fun H locs G => ?_)
          rw [e_σ12] at G
          refine lv_aload_n hx hb dX9_fillsAll_51 rfl (lv_at hl 1 rfl) ?_
          refine gg9_10 C G ok.1 ok.2.1.2.2.2.2.2.2.2.1 u_fl_RX9_32 dX9_fillsAll_52 ?_
          refine lv_iload_n hx hb dX9_fillsAll_55 rfl (lv_at hl 2 rfl) ?_
          obtain ⟨c13, h⟩ := g_chk h
          refine g_iald C G ok.2.2.2.2.2.2.2.2.2.1 c13 dX9_fillsAll_56 ?_
          refine lv_bipush (v := 8) hx hb dX9_fillsAll_57 (by decide) ?_
          refine lv_idiv hx hb dX9_fillsAll_59 (by decide) ?_
          refine lv_topi (fun w14 e_w14 => ?_)
          have h := g_let2 e_w14 h
          refine lv_istore_n (lv' := [(3, .int w14), (2, .int v8), (0, .ref (xN X + t)), (1, .int x1)]) hx hb dX9_fillsAll_60 rfl hl (by decide) rfl (fun ls hl => ?_)
          refine lv_iload_n hx hb dX9_fillsAll_61 rfl (lv_at hl 0 rfl) ?_
          refine lv_aload_n hx hb dX9_fillsAll_62 rfl (lv_at hl 2 rfl) ?_
          refine gg9_0 C G ok.1 ok.2.1.1 u_fl_RX9_7 dX9_fillsAll_63 ?_
          refine lv_iconst (v := 2) hx hb dX9_fillsAll_66 (by decide) ?_
          obtain ⟨c15, h⟩ := g_chk h
          refine g_iald C G ok.2.2.1 c15 dX9_fillsAll_67 ?_
          refine lv_icmp_ne (tgt := 77) hx hb dX9_fillsAll_68 (by decide) (fun c16 => ?_) (fun c16 => ?_)
          · have h := g_if h c16
            refine lv_aload_n hx hb dX9_fillsAll_77 rfl (lv_at hl 2 rfl) ?_
            refine lv_iload_n hx hb dX9_fillsAll_78 rfl (lv_at hl 0 rfl) ?_
            obtain ⟨v18, e_v18, h⟩ := g_bind h
            refine g_calli (g_runV (n := 1) (As := [.int w14]) (rest := []) C G (mX9_isOn l X σ12 t w14 v18 ok e_v18) ok.1.2 (gE_9 ok.1.1) rfl (g_goodV u_ml_RX9_76 u_im_yX9_isOn u_se_yX9_isOn u_in_RX9 u_co_yX9_isOn) rfl rfl rfl (by decide +kernel) ⟨Nat.le_of_ble_eq_true rfl, Nat.le_of_ble_eq_true rfl⟩ rfl hl.1 rfl (Nat.le_of_ble_eq_true rfl) dX9_fillsAll_79 ⟨Nat.zero_le _, Nat.zero_le _⟩) G (fun H locs G => ?_)
            refine lv_if_ne (tgt := 136) hx hb dX9_fillsAll_82 (by decide) (fun c19 => ?_) (fun c19 => ?_)
            · have h := g_if h c19
              refine lv_goto (tgt := 9) hx hb dX9_fillsAll_136 (by decide) ?_
              exact ih _ _ _ σ12 x1 G (lv_sub hl [2, 3] rfl) h
            · have h := g_it h c19
              refine lv_aload_n hx hb dX9_fillsAll_85 rfl (lv_at hl 2 rfl) ?_
              refine lv_iload_n hx hb dX9_fillsAll_86 rfl (lv_at hl 0 rfl) ?_
              refine lv_iload_n hx hb dX9_fillsAll_87 rfl (lv_at hl 3 rfl) ?_
              refine lv_aload_n hx hb dX9_fillsAll_88 rfl (lv_at hl 2 rfl) ?_
              refine gg9_10 C G ok.1 ok.2.1.2.2.2.2.2.2.2.1 u_fl_RX9_32 dX9_fillsAll_89 ?_
              refine lv_iload_n hx hb dX9_fillsAll_92 rfl (lv_at hl 3 rfl) ?_
              obtain ⟨c20, h⟩ := g_chk h
              refine g_iald C G ok.2.2.2.2.2.2.2.2.2.1 c20 dX9_fillsAll_93 ?_
              refine lv_bipush (v := 8) hx hb dX9_fillsAll_94 (by decide) ?_
              refine lv_irem hx hb dX9_fillsAll_96 (by decide) ?_
              obtain ⟨⟨v21, σ22⟩, e_v21, h⟩ := g_bind h
              have h := g_let2 (v := v21) rfl h
              have h := g_let2 (v := σ22) rfl h
              refine g_calli (g_runV (n := 3) (As := [.int w14, .int x1, .int ((σ12 (t + 8) x1.toNatClampNeg) - (σ12 (t + 8) x1.toNatClampNeg) / 8 * 8)]) (rest := []) C G (mX9_canLie l X σ12 σ22 t w14 x1 ((σ12 (t + 8) x1.toNatClampNeg) - (σ12 (t + 8) x1.toNatClampNeg) / 8 * 8) v21 ok e_v21) ok.1.2 (gE_9 ok.1.1) rfl (g_goodV u_ml_RX9_114 u_im_yX9_canLie u_se_yX9_canLie u_in_RX9 u_co_yX9_canLie) rfl rfl rfl (by decide +kernel) ⟨Nat.le_of_ble_eq_true rfl, Nat.le_of_ble_eq_true rfl⟩ rfl hl.1 rfl (Nat.le_of_ble_eq_true rfl) dX9_fillsAll_97 ⟨Nat.zero_le _, Nat.zero_le _⟩) G (fun H locs G => ?_)
              refine lv_if_eq (tgt := 136) hx hb dX9_fillsAll_100 (by decide) (fun c23 => ?_) (fun c23 => ?_)
              · have h := g_it h c23
                refine lv_goto (tgt := 9) hx hb dX9_fillsAll_136 (by decide) ?_
                exact ih _ _ _ σ22 x1 G (lv_sub hl [2, 3] rfl) h
              · have h := g_if h c23
                refine lv_aload_n hx hb dX9_fillsAll_103 rfl (lv_at hl 2 rfl) ?_
                refine lv_iload_n hx hb dX9_fillsAll_104 rfl (lv_at hl 0 rfl) ?_
                refine lv_iload_n hx hb dX9_fillsAll_105 rfl (lv_at hl 3 rfl) ?_
                refine lv_aload_n hx hb dX9_fillsAll_106 rfl (lv_at hl 2 rfl) ?_
                refine gg9_10 C G ok.1 ok.2.1.2.2.2.2.2.2.2.1 u_fl_RX9_32 dX9_fillsAll_107 ?_
                refine lv_iload_n hx hb dX9_fillsAll_110 rfl (lv_at hl 3 rfl) ?_
                obtain ⟨c24, h⟩ := g_chk h
                refine g_iald C G ok.2.2.2.2.2.2.2.2.2.1 c24 dX9_fillsAll_111 ?_
                refine lv_bipush (v := 8) hx hb dX9_fillsAll_112 (by decide) ?_
                refine lv_irem hx hb dX9_fillsAll_114 (by decide) ?_
                obtain ⟨σ26, e_σ26, h⟩ := g_bind h
                refine g_callv (g_runV (n := 3) (As := [.int w14, .int x1, .int ((σ22 (t + 8) x1.toNatClampNeg) - (σ22 (t + 8) x1.toNatClampNeg) / 8 * 8)]) (rest := []) C G (mX9_puts l X σ22 σ26 t w14 x1 ((σ22 (t + 8) x1.toNatClampNeg) - (σ22 (t + 8) x1.toNatClampNeg) / 8 * 8) ok e_σ26) ok.1.2 (gE_9 ok.1.1) rfl (g_goodV u_ml_RX9_117 u_im_yX9_puts u_se_yX9_puts u_in_RX9 u_co_yX9_puts) rfl rfl rfl (by decide +kernel) ⟨Nat.le_of_ble_eq_true rfl, Nat.le_of_ble_eq_true rfl⟩ rfl hl.1 rfl (Nat.le_of_ble_eq_true rfl) dX9_fillsAll_115 ⟨Nat.zero_le _, Nat.zero_le _⟩) G (fun H locs G => ?_)
                obtain ⟨w27, e_w27⟩ : ∃ y : Int32, y = x1 + 1 := ⟨_, rfl⟩
                have h := g_let2 e_w27 h
                refine lv_iinc (v := w27) (lv' := [(1, .int w27), (3, .int w14), (2, .int v8), (0, .ref (xN X + t))]) hx hb dX9_fillsAll_118 hl (k := 3) rfl (by rw [e_w27]; rfl) (by decide) rfl (fun ls hl => ?_)
                refine lv_iload_n hx hb dX9_fillsAll_121 rfl (lv_at hl 0 rfl) ?_
                refine lv_aload_n hx hb dX9_fillsAll_122 rfl (lv_at hl 3 rfl) ?_
                obtain ⟨v28, e_v28, h⟩ := g_bind h
                refine g_calli (g_runV (n := 0) (As := []) (rest := [.int w27]) C G (mX9_places l X σ26 t v28 ok e_v28) ok.1.2 (gE_9 ok.1.1) rfl (g_goodV u_ml_RX9_42 u_im_yX9_places u_se_yX9_places u_in_RX9 u_co_yX9_places) rfl rfl rfl (by decide +kernel) ⟨Nat.le_of_ble_eq_true rfl, Nat.le_of_ble_eq_true rfl⟩ rfl hl.1 rfl (Nat.le_of_ble_eq_true rfl) dX9_fillsAll_123 ⟨Nat.zero_le _, Nat.zero_le _⟩) G (fun H locs G => ?_)
                refine lv_icmp_ge (tgt := 136) hx hb dX9_fillsAll_126 (by decide) (fun c29 => ?_) (fun c29 => ?_)
                · have h := g_it h c29
                  refine lv_goto (tgt := 9) hx hb dX9_fillsAll_136 (by decide) ?_
                  exact ih _ _ _ σ26 w27 G (lv_sub hl [3, 0] rfl) h
                · have h := g_if h c29
                  refine lv_aload_n hx hb dX9_fillsAll_129 rfl (lv_at hl 3 rfl) ?_
                  refine gg9_10 C G ok.1 ok.2.1.2.2.2.2.2.2.2.1 u_fl_RX9_32 dX9_fillsAll_130 ?_
                  refine lv_iload_n hx hb dX9_fillsAll_133 rfl (lv_at hl 0 rfl) ?_
                  refine lv_iconst (v := (-1)) hx hb dX9_fillsAll_134 (by decide) ?_
                  obtain ⟨c30, h⟩ := g_chk h
                  obtain ⟨σ31, e_σ31, h⟩ := g_let h
                  refine g_iast C G ok.2.2.2.2.2.2.2.2.2.1 c30 dX9_fillsAll_135 (fun H locs G => ?_)
                  rw [e_σ31] at G
                  refine lv_goto (tgt := 9) hx hb dX9_fillsAll_136 (by decide) ?_
                  exact ih _ _ _ σ31 w27 G (lv_sub hl [3, 0] rfl) h
          · have h := g_it h c16
            obtain ⟨w17, e_w17⟩ : ∃ y : Int32, y = x1 + (-1) := ⟨_, rfl⟩
            have h := g_let2 e_w17 h
            refine lv_iinc (v := w17) (lv' := [(1, .int w17), (3, .int w14), (2, .int v8), (0, .ref (xN X + t))]) hx hb dX9_fillsAll_71 hl (k := 3) rfl (by rw [e_w17]; rfl) (by decide) rfl (fun ls hl => ?_)
            refine lv_goto (tgt := 136) hx hb dX9_fillsAll_74 (by decide) ?_
            refine lv_goto (tgt := 9) hx hb dX9_fillsAll_136 (by decide) ?_
            exact ih _ _ _ σ12 w17 G (lv_sub hl [3, 0] rfl) h
        · have h := g_if h c9
          refine lv_aload_n hx hb dX9_fillsAll_34 rfl (lv_at hl 1 rfl) ?_
          refine lv_iload_n hx hb dX9_fillsAll_35 rfl (lv_at hl 0 rfl) ?_
          refine lv_iconst (v := (-1)) hx hb dX9_fillsAll_36 (by decide) ?_
          refine lv_iconst (v := 0) hx hb dX9_fillsAll_37 (by decide) ?_
          obtain ⟨σ33, e_σ33, h⟩ := g_bind h
          refine g_callv (g_runV (n := 3) (As := [.int v8, .int (-1), .int 0]) (rest := []) C G (mX9_puts l X σ σ33 t v8 (-1) 0 ok e_σ33) ok.1.2 (gE_9 ok.1.1) rfl (g_goodV u_ml_RX9_117 u_im_yX9_puts u_se_yX9_puts u_in_RX9 u_co_yX9_puts) rfl rfl rfl (by decide +kernel) ⟨Nat.le_of_ble_eq_true rfl, Nat.le_of_ble_eq_true rfl⟩ rfl hl.1 rfl (Nat.le_of_ble_eq_true rfl) dX9_fillsAll_38 ⟨Nat.zero_le _, Nat.zero_le _⟩) G (fun H locs G => ?_)
          refine lv_aload_n hx hb dX9_fillsAll_41 rfl (lv_at hl 1 rfl) ?_
          refine gg9_10 C G ok.1 ok.2.1.2.2.2.2.2.2.2.1 u_fl_RX9_32 dX9_fillsAll_42 ?_
          refine lv_iload_n hx hb dX9_fillsAll_45 rfl (lv_at hl 2 rfl) ?_
          refine lv_dup2_11 hx hb dX9_fillsAll_46 rfl rfl ?_
          obtain ⟨c34, h⟩ := g_chk h
          refine g_iald C G ok.2.2.2.2.2.2.2.2.2.1 c34 dX9_fillsAll_47 ?_
          refine lv_iconst (v := 1) hx hb dX9_fillsAll_48 (by decide) ?_
          refine lv_iadd hx hb dX9_fillsAll_49 ?_
          obtain ⟨c35, h⟩ := g_chk h
          obtain ⟨σ36, e_σ36, h⟩ := g_let h
          refine g_iast C G ok.2.2.2.2.2.2.2.2.2.1 c35 dX9_fillsAll_50 (fun H locs G => ?_)
          rw [e_σ36] at G
          refine lv_aload_n hx hb dX9_fillsAll_51 rfl (lv_at hl 1 rfl) ?_
          refine gg9_10 C G ok.1 ok.2.1.2.2.2.2.2.2.2.1 u_fl_RX9_32 dX9_fillsAll_52 ?_
          refine lv_iload_n hx hb dX9_fillsAll_55 rfl (lv_at hl 2 rfl) ?_
          obtain ⟨c37, h⟩ := g_chk h
          refine g_iald C G ok.2.2.2.2.2.2.2.2.2.1 c37 dX9_fillsAll_56 ?_
          refine lv_bipush (v := 8) hx hb dX9_fillsAll_57 (by decide) ?_
          refine lv_idiv hx hb dX9_fillsAll_59 (by decide) ?_
          refine lv_topi (fun w38 e_w38 => ?_)
          have h := g_let2 e_w38 h
          refine lv_istore_n (lv' := [(3, .int w38), (2, .int v8), (0, .ref (xN X + t)), (1, .int x1)]) hx hb dX9_fillsAll_60 rfl hl (by decide) rfl (fun ls hl => ?_)
          refine lv_iload_n hx hb dX9_fillsAll_61 rfl (lv_at hl 0 rfl) ?_
          refine lv_aload_n hx hb dX9_fillsAll_62 rfl (lv_at hl 2 rfl) ?_
          refine gg9_0 C G ok.1 ok.2.1.1 u_fl_RX9_7 dX9_fillsAll_63 ?_
          refine lv_iconst (v := 2) hx hb dX9_fillsAll_66 (by decide) ?_
          obtain ⟨c39, h⟩ := g_chk h
          refine g_iald C G ok.2.2.1 c39 dX9_fillsAll_67 ?_
          refine lv_icmp_ne (tgt := 77) hx hb dX9_fillsAll_68 (by decide) (fun c40 => ?_) (fun c40 => ?_)
          · have h := g_if h c40
            refine lv_aload_n hx hb dX9_fillsAll_77 rfl (lv_at hl 2 rfl) ?_
            refine lv_iload_n hx hb dX9_fillsAll_78 rfl (lv_at hl 0 rfl) ?_
            obtain ⟨v42, e_v42, h⟩ := g_bind h
            refine g_calli (g_runV (n := 1) (As := [.int w38]) (rest := []) C G (mX9_isOn l X σ36 t w38 v42 ok e_v42) ok.1.2 (gE_9 ok.1.1) rfl (g_goodV u_ml_RX9_76 u_im_yX9_isOn u_se_yX9_isOn u_in_RX9 u_co_yX9_isOn) rfl rfl rfl (by decide +kernel) ⟨Nat.le_of_ble_eq_true rfl, Nat.le_of_ble_eq_true rfl⟩ rfl hl.1 rfl (Nat.le_of_ble_eq_true rfl) dX9_fillsAll_79 ⟨Nat.zero_le _, Nat.zero_le _⟩) G (fun H locs G => ?_)
            refine lv_if_ne (tgt := 136) hx hb dX9_fillsAll_82 (by decide) (fun c43 => ?_) (fun c43 => ?_)
            · have h := g_if h c43
              refine lv_goto (tgt := 9) hx hb dX9_fillsAll_136 (by decide) ?_
              exact ih _ _ _ σ36 x1 G (lv_sub hl [2, 3] rfl) h
            · have h := g_it h c43
              refine lv_aload_n hx hb dX9_fillsAll_85 rfl (lv_at hl 2 rfl) ?_
              refine lv_iload_n hx hb dX9_fillsAll_86 rfl (lv_at hl 0 rfl) ?_
              refine lv_iload_n hx hb dX9_fillsAll_87 rfl (lv_at hl 3 rfl) ?_
              refine lv_aload_n hx hb dX9_fillsAll_88 rfl (lv_at hl 2 rfl) ?_
              refine gg9_10 C G ok.1 ok.2.1.2.2.2.2.2.2.2.1 u_fl_RX9_32 dX9_fillsAll_89 ?_
              refine lv_iload_n hx hb dX9_fillsAll_92 rfl (lv_at hl 3 rfl) ?_
              obtain ⟨c44, h⟩ := g_chk h
              refine g_iald C G ok.2.2.2.2.2.2.2.2.2.1 c44 dX9_fillsAll_93 ?_
              refine lv_bipush (v := 8) hx hb dX9_fillsAll_94 (by decide) ?_
              refine lv_irem hx hb dX9_fillsAll_96 (by decide) ?_
              obtain ⟨⟨v45, σ46⟩, e_v45, h⟩ := g_bind h
              have h := g_let2 (v := v45) rfl h
              have h := g_let2 (v := σ46) rfl h
              refine g_calli (g_runV (n := 3) (As := [.int w38, .int x1, .int ((σ36 (t + 8) x1.toNatClampNeg) - (σ36 (t + 8) x1.toNatClampNeg) / 8 * 8)]) (rest := []) C G (mX9_canLie l X σ36 σ46 t w38 x1 ((σ36 (t + 8) x1.toNatClampNeg) - (σ36 (t + 8) x1.toNatClampNeg) / 8 * 8) v45 ok e_v45) ok.1.2 (gE_9 ok.1.1) rfl (g_goodV u_ml_RX9_114 u_im_yX9_canLie u_se_yX9_canLie u_in_RX9 u_co_yX9_canLie) rfl rfl rfl (by decide +kernel) ⟨Nat.le_of_ble_eq_true rfl, Nat.le_of_ble_eq_true rfl⟩ rfl hl.1 rfl (Nat.le_of_ble_eq_true rfl) dX9_fillsAll_97 ⟨Nat.zero_le _, Nat.zero_le _⟩) G (fun H locs G => ?_)
              refine lv_if_eq (tgt := 136) hx hb dX9_fillsAll_100 (by decide) (fun c47 => ?_) (fun c47 => ?_)
              · have h := g_it h c47
                refine lv_goto (tgt := 9) hx hb dX9_fillsAll_136 (by decide) ?_
                exact ih _ _ _ σ46 x1 G (lv_sub hl [2, 3] rfl) h
              · have h := g_if h c47
                refine lv_aload_n hx hb dX9_fillsAll_103 rfl (lv_at hl 2 rfl) ?_
                refine lv_iload_n hx hb dX9_fillsAll_104 rfl (lv_at hl 0 rfl) ?_
                refine lv_iload_n hx hb dX9_fillsAll_105 rfl (lv_at hl 3 rfl) ?_
                refine lv_aload_n hx hb dX9_fillsAll_106 rfl (lv_at hl 2 rfl) ?_
                refine gg9_10 C G ok.1 ok.2.1.2.2.2.2.2.2.2.1 u_fl_RX9_32 dX9_fillsAll_107 ?_
                refine lv_iload_n hx hb dX9_fillsAll_110 rfl (lv_at hl 3 rfl) ?_
                obtain ⟨c48, h⟩ := g_chk h
                refine g_iald C G ok.2.2.2.2.2.2.2.2.2.1 c48 dX9_fillsAll_111 ?_
                refine lv_bipush (v := 8) hx hb dX9_fillsAll_112 (by decide) ?_
                refine lv_irem hx hb dX9_fillsAll_114 (by decide) ?_
                obtain ⟨σ50, e_σ50, h⟩ := g_bind h
                refine g_callv (g_runV (n := 3) (As := [.int w38, .int x1, .int ((σ46 (t + 8) x1.toNatClampNeg) - (σ46 (t + 8) x1.toNatClampNeg) / 8 * 8)]) (rest := []) C G (mX9_puts l X σ46 σ50 t w38 x1 ((σ46 (t + 8) x1.toNatClampNeg) - (σ46 (t + 8) x1.toNatClampNeg) / 8 * 8) ok e_σ50) ok.1.2 (gE_9 ok.1.1) rfl (g_goodV u_ml_RX9_117 u_im_yX9_puts u_se_yX9_puts u_in_RX9 u_co_yX9_puts) rfl rfl rfl (by decide +kernel) ⟨Nat.le_of_ble_eq_true rfl, Nat.le_of_ble_eq_true rfl⟩ rfl hl.1 rfl (Nat.le_of_ble_eq_true rfl) dX9_fillsAll_115 ⟨Nat.zero_le _, Nat.zero_le _⟩) G (fun H locs G => ?_)
                obtain ⟨w51, e_w51⟩ : ∃ y : Int32, y = x1 + 1 := ⟨_, rfl⟩
                have h := g_let2 e_w51 h
                refine lv_iinc (v := w51) (lv' := [(1, .int w51), (3, .int w38), (2, .int v8), (0, .ref (xN X + t))]) hx hb dX9_fillsAll_118 hl (k := 3) rfl (by rw [e_w51]; rfl) (by decide) rfl (fun ls hl => ?_)
                refine lv_iload_n hx hb dX9_fillsAll_121 rfl (lv_at hl 0 rfl) ?_
                refine lv_aload_n hx hb dX9_fillsAll_122 rfl (lv_at hl 3 rfl) ?_
                obtain ⟨v52, e_v52, h⟩ := g_bind h
                refine g_calli (g_runV (n := 0) (As := []) (rest := [.int w51]) C G (mX9_places l X σ50 t v52 ok e_v52) ok.1.2 (gE_9 ok.1.1) rfl (g_goodV u_ml_RX9_42 u_im_yX9_places u_se_yX9_places u_in_RX9 u_co_yX9_places) rfl rfl rfl (by decide +kernel) ⟨Nat.le_of_ble_eq_true rfl, Nat.le_of_ble_eq_true rfl⟩ rfl hl.1 rfl (Nat.le_of_ble_eq_true rfl) dX9_fillsAll_123 ⟨Nat.zero_le _, Nat.zero_le _⟩) G (fun H locs G => ?_)
                refine lv_icmp_ge (tgt := 136) hx hb dX9_fillsAll_126 (by decide) (fun c53 => ?_) (fun c53 => ?_)
                · have h := g_it h c53
                  refine lv_goto (tgt := 9) hx hb dX9_fillsAll_136 (by decide) ?_
                  exact ih _ _ _ σ50 w51 G (lv_sub hl [3, 0] rfl) h
                · have h := g_if h c53
                  refine lv_aload_n hx hb dX9_fillsAll_129 rfl (lv_at hl 3 rfl) ?_
                  refine gg9_10 C G ok.1 ok.2.1.2.2.2.2.2.2.2.1 u_fl_RX9_32 dX9_fillsAll_130 ?_
                  refine lv_iload_n hx hb dX9_fillsAll_133 rfl (lv_at hl 0 rfl) ?_
                  refine lv_iconst (v := (-1)) hx hb dX9_fillsAll_134 (by decide) ?_
                  obtain ⟨c54, h⟩ := g_chk h
                  obtain ⟨σ55, e_σ55, h⟩ := g_let h
                  refine g_iast C G ok.2.2.2.2.2.2.2.2.2.1 c54 dX9_fillsAll_135 (fun H locs G => ?_)
                  rw [e_σ55] at G
                  refine lv_goto (tgt := 9) hx hb dX9_fillsAll_136 (by decide) ?_
                  exact ih _ _ _ σ55 w51 G (lv_sub hl [3, 0] rfl) h
          · have h := g_it h c40
            obtain ⟨w41, e_w41⟩ : ∃ y : Int32, y = x1 + (-1) := ⟨_, rfl⟩
            have h := g_let2 e_w41 h
            refine lv_iinc (v := w41) (lv' := [(1, .int w41), (3, .int w38), (2, .int v8), (0, .ref (xN X + t))]) hx hb dX9_fillsAll_71 hl (k := 3) rfl (by rw [e_w41]; rfl) (by decide) rfl (fun ls hl => ?_)
            refine lv_goto (tgt := 136) hx hb dX9_fillsAll_74 (by decide) ?_
            refine lv_goto (tgt := 9) hx hb dX9_fillsAll_136 (by decide) ?_
            exact ih _ _ _ σ36 w41 G (lv_sub hl [3, 0] rfl) h
  unfold fX9_fillsAll at h
  refine lv_iconst (v := 0) hx hb dX9_fillsAll_0 (by decide) ?_
  refine lv_istore_n (lv' := [(1, .int 0), (0, .ref (xN X + t))]) hx hb dX9_fillsAll_1 rfl hl (by decide) rfl (fun ls hl => ?_)
  refine lv_aload_n hx hb dX9_fillsAll_2 rfl (lv_at hl 1 rfl) ?_
  refine gg9_10 C G ok.1 ok.2.1.2.2.2.2.2.2.2.1 u_fl_RX9_32 dX9_fillsAll_3 ?_
  refine lv_iconst (v := 0) hx hb dX9_fillsAll_6 (by decide) ?_
  refine lv_iconst (v := (-1)) hx hb dX9_fillsAll_7 (by decide) ?_
  obtain ⟨c1, h⟩ := g_chk h
  obtain ⟨σ2, e_σ2, h⟩ := g_let h
  refine g_iast C G ok.2.2.2.2.2.2.2.2.2.1 c1 dX9_fillsAll_8 (fun H locs G => ?_)
  rw [e_σ2] at G
  exact L9  gF _ _ _ σ2 0 G (lv_sub hl [1, 0] rfl) h

def fX9_canFill_85 (t : Nat) : Nat → gM → Int32 → Int32 → Option (Int32 × gM)
  | 0, _, _, _ => none
  | n + 1, σ, x1, x2 =>
    (if 135 ≤ x2 then
      (if x1 = 0 then
        some (0, σ)
      else
        some (1, σ))
    else
      (if ¬ (x2 < 0 ∨ gln (t + 9) ≤ x2.toNatClampNeg) then
      (if ¬ (x2 < 0 ∨ gln (t + 1) ≤ x2.toNatClampNeg) then
      (gl (gset σ (t + 1) (upd (σ (t + 1)) x2.toNatClampNeg (σ (t + 9) x2.toNatClampNeg))) fun σ15 =>
      (gl (x2 + 1) fun w16 =>
      fX9_canFill_85 t n σ15 x1 w16))
      else none)
      else none))

def fX9_canFill_55 (t : Nat) : Nat → gM → Int32 → Option (Int32 × gM)
  | 0, _, _ => none
  | n + 1, σ, x1 =>
    (if ¬ ((2 : Int32) < 0 ∨ gln (t + 1) ≤ (2 : Int32).toNatClampNeg) then
    (if (σ (t + 1) (2 : Int32).toNatClampNeg) ≤ x1 then
      ((fX9_fillsAll σ t).bind fun pv9 => gl pv9.1 fun v9 => gl pv9.2 fun σ10 =>
      fX9_canFill_85 t gF σ10 v9 0)
    else
      ((fX9_puts σ t x1 (-1) 0).bind fun σ18 =>
      (gl (x1 + 1) fun w19 =>
      fX9_canFill_55 t n σ18 w19)))
    else none)

def fX9_canFill_28 (t : Nat) : Nat → gM → Int32 → Option (Int32 × gM)
  | 0, _, _ => none
  | n + 1, σ, x1 =>
    (if 135 ≤ x1 then
      fX9_canFill_55 t gF σ 0
    else
      (if ¬ (x1 < 0 ∨ gln (t + 1) ≤ x1.toNatClampNeg) then
      (if ¬ (x1 < 0 ∨ gln (t + 9) ≤ x1.toNatClampNeg) then
      (gl (gset σ (t + 9) (upd (σ (t + 9)) x1.toNatClampNeg (σ (t + 1) x1.toNatClampNeg))) fun σ22 =>
      (gl (x1 + 1) fun w23 =>
      fX9_canFill_28 t n σ22 w23))
      else none)
      else none))

def fX9_canFill (σ : gM) (t : Nat) : Option (Int32 × gM) :=
  (if ¬ ((2 : Int32) < 0 ∨ gln (t + 1) ≤ (2 : Int32).toNatClampNeg) then
  ((fX9_places σ t).bind fun v2 =>
  (if (σ (t + 1) (2 : Int32).toNatClampNeg) = v2 then
    ((fX9_places σ t).bind fun v4 =>
    (if v4 ≤ 6 then
      fX9_canFill_28 t gF σ 0
    else
      some ((-1002), σ)))
  else
    some ((-1002), σ)))
  else none)
set_option maxHeartbeats 4000000 in
set_option maxRecDepth 100000 in
theorem mX9_canFill (l : Launch) (X : gX) (σ σ' : gM) (t : Nat) (r : Int32) (ok : gok9 X t) (h : fX9_canFill σ t = some (r, σ')) : Met l yX9_canFill (Cond.code yX9_canFill cX9_canFill 3 (some .int) :: gBig) ({ frames := 7, cells := 0, slots := 0, locals := 172 }) (gPc X σ [.ref (xN X + t)]) (gQi X σ' r) 0 0 (xA X) := by
  refine g_meti (cc := cX9_canFill) (maxL := 3) (own := RX9) (by decide) rfl rfl (Nat.le_of_ble_eq_true rfl) ?_
  intro p ev s m args below meth c Q C G ret ls hl
  obtain ⟨⟨hx, hb, hml, hown, hts⟩, hK⟩ := id C
  have hl : lv_has ls 3 [(0, .ref (xN X + t))] := hl
  have L85 : ∀ (n : Nat) (H : Heap) (locs : List Loc) (ls : Array Slot) (σ : gM) (x1 : Int32) (x2 : Int32), gG X σ s H locs → lv_has ls 3 [(0, .ref (xN X + t)), (1, .int x1), (2, .int x2)] → fX9_canFill_85 t n σ x1 x2 = some (r, σ') → W p l ev ({ frames := 7, cells := 0, slots := 0, locals := 172 }) s m args below meth c H locs 0 0 Q (F0 m 85 ls []) := by
    intro n
    induction n with
    | zero =>
      intro H locs ls σ x1 x2 G hl h
      rw [fX9_canFill_85] at h
      cases h
    | succ n ih =>
      intro H locs ls σ x1 x2 G hl h
      rw [fX9_canFill_85] at h
      refine lv_iload_n hx hb dX9_canFill_85 rfl (lv_at hl 2 rfl) ?_
      refine lv_sipush (v := 135) hx hb dX9_canFill_86 (by decide) ?_
      refine lv_icmp_ge (tgt := 110) hx hb dX9_canFill_89 (by decide) (fun c11 => ?_) (fun c11 => ?_)
      · have h := g_it h c11
        refine lv_iload_n hx hb dX9_canFill_110 rfl (lv_at hl 1 rfl) ?_
        refine lv_if_eq (tgt := 118) hx hb dX9_canFill_111 (by decide) (fun c12 => ?_) (fun c12 => ?_)
        · have h := g_it h c12
          refine lv_iconst (v := 0) hx hb dX9_canFill_118 (by decide) ?_
          exact ret dX9_canFill_119 rfl G (Prod.mk.inj (Option.some.inj h))
        · have h := g_if h c12
          refine lv_iconst (v := 1) hx hb dX9_canFill_114 (by decide) ?_
          refine lv_goto (tgt := 119) hx hb dX9_canFill_115 (by decide) ?_
          exact ret dX9_canFill_119 rfl G (Prod.mk.inj (Option.some.inj h))
      · have h := g_if h c11
        refine lv_aload_n hx hb dX9_canFill_92 rfl (lv_at hl 0 rfl) ?_
        refine gg9_0 C G ok.1 ok.2.1.1 u_fl_RX9_7 dX9_canFill_93 ?_
        refine lv_iload_n hx hb dX9_canFill_96 rfl (lv_at hl 2 rfl) ?_
        refine lv_aload_n hx hb dX9_canFill_97 rfl (lv_at hl 0 rfl) ?_
        refine gg9_11 C G ok.1 ok.2.1.2.2.2.2.2.2.2.2 u_fl_RX9_35 dX9_canFill_98 ?_
        refine lv_iload_n hx hb dX9_canFill_101 rfl (lv_at hl 2 rfl) ?_
        obtain ⟨c13, h⟩ := g_chk h
        refine g_iald C G ok.2.2.2.2.2.2.2.2.2.2 c13 dX9_canFill_102 ?_
        obtain ⟨c14, h⟩ := g_chk h
        obtain ⟨σ15, e_σ15, h⟩ := g_let h
        refine g_iast C G ok.2.2.1 c14 dX9_canFill_103 (fun H locs G => ?_)
        rw [e_σ15] at G
        obtain ⟨w16, e_w16⟩ : ∃ y : Int32, y = x2 + 1 := ⟨_, rfl⟩
        have h := g_let2 e_w16 h
        refine lv_iinc (v := w16) (lv' := [(2, .int w16), (0, .ref (xN X + t)), (1, .int x1)]) hx hb dX9_canFill_104 hl (k := 2) rfl (by rw [e_w16]; rfl) (by decide) rfl (fun ls hl => ?_)
        refine lv_goto (tgt := 85) hx hb dX9_canFill_107 (by decide) ?_
        exact ih _ _ _ σ15 x1 w16 G (lv_sub hl [1, 2, 0] rfl) h
  have L55 : ∀ (n : Nat) (H : Heap) (locs : List Loc) (ls : Array Slot) (σ : gM) (x1 : Int32), gG X σ s H locs → lv_has ls 3 [(0, .ref (xN X + t)), (1, .int x1)] → fX9_canFill_55 t n σ x1 = some (r, σ') → W p l ev ({ frames := 7, cells := 0, slots := 0, locals := 172 }) s m args below meth c H locs 0 0 Q (F0 m 55 ls []) := by
    intro n
    induction n with
    | zero =>
      intro H locs ls σ x1 G hl h
      rw [fX9_canFill_55] at h
      cases h
    | succ n ih =>
      intro H locs ls σ x1 G hl h
      rw [fX9_canFill_55] at h
      refine lv_iload_n hx hb dX9_canFill_55 rfl (lv_at hl 1 rfl) ?_
      refine lv_aload_n hx hb dX9_canFill_56 rfl (lv_at hl 0 rfl) ?_
      refine gg9_0 C G ok.1 ok.2.1.1 u_fl_RX9_7 dX9_canFill_57 ?_
      refine lv_iconst (v := 2) hx hb dX9_canFill_60 (by decide) ?_
      obtain ⟨c7, h⟩ := g_chk h
      refine g_iald C G ok.2.2.1 c7 dX9_canFill_61 ?_
      refine lv_icmp_ge (tgt := 78) hx hb dX9_canFill_62 (by decide) (fun c8 => ?_) (fun c8 => ?_)
      · have h := g_it h c8
        refine lv_aload_n hx hb dX9_canFill_78 rfl (lv_at hl 0 rfl) ?_
        obtain ⟨⟨v9, σ10⟩, e_v9, h⟩ := g_bind h
        have h := g_let2 (v := v9) rfl h
        have h := g_let2 (v := σ10) rfl h
        refine g_calli (g_runV (n := 0) (As := []) (rest := []) C G (mX9_fillsAll l X σ σ10 t v9 ok e_v9) ok.1.2 (gE_9 ok.1.1) rfl (g_goodV u_ml_RX9_127 u_im_yX9_fillsAll u_se_yX9_fillsAll u_in_RX9 u_co_yX9_fillsAll) rfl rfl rfl (by decide +kernel) ⟨Nat.le_of_ble_eq_true rfl, Nat.le_of_ble_eq_true rfl⟩ rfl hl.1 rfl (Nat.le_of_ble_eq_true rfl) dX9_canFill_79 ⟨Nat.zero_le _, Nat.zero_le _⟩) G (fun H locs G => ?_)
        refine lv_istore_n (lv' := [(1, .int v9), (0, .ref (xN X + t))]) hx hb dX9_canFill_82 rfl hl (by decide) rfl (fun ls hl => ?_)
        refine lv_iconst (v := 0) hx hb dX9_canFill_83 (by decide) ?_
        refine lv_istore_n (lv' := [(2, .int 0), (1, .int v9), (0, .ref (xN X + t))]) hx hb dX9_canFill_84 rfl hl (by decide) rfl (fun ls hl => ?_)
        exact L85  gF _ _ _ σ10 v9 0 G (lv_sub hl [2, 1, 0] rfl) h
      · have h := g_if h c8
        refine lv_aload_n hx hb dX9_canFill_65 rfl (lv_at hl 0 rfl) ?_
        refine lv_iload_n hx hb dX9_canFill_66 rfl (lv_at hl 1 rfl) ?_
        refine lv_iconst (v := (-1)) hx hb dX9_canFill_67 (by decide) ?_
        refine lv_iconst (v := 0) hx hb dX9_canFill_68 (by decide) ?_
        obtain ⟨σ18, e_σ18, h⟩ := g_bind h
        refine g_callv (g_runV (n := 3) (As := [.int x1, .int (-1), .int 0]) (rest := []) C G (mX9_puts l X σ σ18 t x1 (-1) 0 ok e_σ18) ok.1.2 (gE_9 ok.1.1) rfl (g_goodV u_ml_RX9_117 u_im_yX9_puts u_se_yX9_puts u_in_RX9 u_co_yX9_puts) rfl rfl rfl (by decide +kernel) ⟨Nat.le_of_ble_eq_true rfl, Nat.le_of_ble_eq_true rfl⟩ rfl hl.1 rfl (Nat.le_of_ble_eq_true rfl) dX9_canFill_69 ⟨Nat.zero_le _, Nat.zero_le _⟩) G (fun H locs G => ?_)
        obtain ⟨w19, e_w19⟩ : ∃ y : Int32, y = x1 + 1 := ⟨_, rfl⟩
        have h := g_let2 e_w19 h
        refine lv_iinc (v := w19) (lv' := [(1, .int w19), (0, .ref (xN X + t))]) hx hb dX9_canFill_72 hl (k := 1) rfl (by rw [e_w19]; rfl) (by decide) rfl (fun ls hl => ?_)
        refine lv_goto (tgt := 55) hx hb dX9_canFill_75 (by decide) ?_
        exact ih _ _ _ σ18 w19 G (lv_sub hl [1, 0] rfl) h
  have L28 : ∀ (n : Nat) (H : Heap) (locs : List Loc) (ls : Array Slot) (σ : gM) (x1 : Int32), gG X σ s H locs → lv_has ls 3 [(0, .ref (xN X + t)), (1, .int x1)] → fX9_canFill_28 t n σ x1 = some (r, σ') → W p l ev ({ frames := 7, cells := 0, slots := 0, locals := 172 }) s m args below meth c H locs 0 0 Q (F0 m 28 ls []) := by
    intro n
    induction n with
    | zero =>
      intro H locs ls σ x1 G hl h
      rw [fX9_canFill_28] at h
      cases h
    | succ n ih =>
      intro H locs ls σ x1 G hl h
      rw [fX9_canFill_28] at h
      refine lv_iload_n hx hb dX9_canFill_28 rfl (lv_at hl 1 rfl) ?_
      refine lv_sipush (v := 135) hx hb dX9_canFill_29 (by decide) ?_
      refine lv_icmp_ge (tgt := 53) hx hb dX9_canFill_32 (by decide) (fun c6 => ?_) (fun c6 => ?_)
      · have h := g_it h c6
        refine lv_iconst (v := 0) hx hb dX9_canFill_53 (by decide) ?_
        refine lv_istore_n (lv' := [(1, .int 0), (0, .ref (xN X + t))]) hx hb dX9_canFill_54 rfl hl (by decide) rfl (fun ls hl => ?_)
        exact L55  gF _ _ _ σ 0 G (lv_sub hl [1, 0] rfl) h
      · have h := g_if h c6
        refine lv_aload_n hx hb dX9_canFill_35 rfl (lv_at hl 0 rfl) ?_
        refine gg9_11 C G ok.1 ok.2.1.2.2.2.2.2.2.2.2 u_fl_RX9_35 dX9_canFill_36 ?_
        refine lv_iload_n hx hb dX9_canFill_39 rfl (lv_at hl 1 rfl) ?_
        refine lv_aload_n hx hb dX9_canFill_40 rfl (lv_at hl 0 rfl) ?_
        refine gg9_0 C G ok.1 ok.2.1.1 u_fl_RX9_7 dX9_canFill_41 ?_
        refine lv_iload_n hx hb dX9_canFill_44 rfl (lv_at hl 1 rfl) ?_
        obtain ⟨c20, h⟩ := g_chk h
        refine g_iald C G ok.2.2.1 c20 dX9_canFill_45 ?_
        obtain ⟨c21, h⟩ := g_chk h
        obtain ⟨σ22, e_σ22, h⟩ := g_let h
        refine g_iast C G ok.2.2.2.2.2.2.2.2.2.2 c21 dX9_canFill_46 (fun H locs G => ?_)
        rw [e_σ22] at G
        obtain ⟨w23, e_w23⟩ : ∃ y : Int32, y = x1 + 1 := ⟨_, rfl⟩
        have h := g_let2 e_w23 h
        refine lv_iinc (v := w23) (lv' := [(1, .int w23), (0, .ref (xN X + t))]) hx hb dX9_canFill_47 hl (k := 1) rfl (by rw [e_w23]; rfl) (by decide) rfl (fun ls hl => ?_)
        refine lv_goto (tgt := 28) hx hb dX9_canFill_50 (by decide) ?_
        exact ih _ _ _ σ22 w23 G (lv_sub hl [1, 0] rfl) h
  unfold fX9_canFill at h
  refine lv_aload_n hx hb dX9_canFill_0 rfl (lv_at hl 0 rfl) ?_
  refine gg9_0 C G ok.1 ok.2.1.1 u_fl_RX9_7 dX9_canFill_1 ?_
  refine lv_iconst (v := 2) hx hb dX9_canFill_4 (by decide) ?_
  obtain ⟨c1, h⟩ := g_chk h
  refine g_iald C G ok.2.2.1 c1 dX9_canFill_5 ?_
  refine lv_aload_n hx hb dX9_canFill_6 rfl (lv_at hl 0 rfl) ?_
  obtain ⟨v2, e_v2, h⟩ := g_bind h
  refine g_calli (g_runV (n := 0) (As := []) (rest := [.int (σ (t + 1) (2 : Int32).toNatClampNeg)]) C G (mX9_places l X σ t v2 ok e_v2) ok.1.2 (gE_9 ok.1.1) rfl (g_goodV u_ml_RX9_42 u_im_yX9_places u_se_yX9_places u_in_RX9 u_co_yX9_places) rfl rfl rfl (by decide +kernel) ⟨Nat.le_of_ble_eq_true rfl, Nat.le_of_ble_eq_true rfl⟩ rfl hl.1 rfl (Nat.le_of_ble_eq_true rfl) dX9_canFill_7 ⟨Nat.zero_le _, Nat.zero_le _⟩) G (fun H locs G => ?_)
  refine lv_icmp_ne (tgt := 22) hx hb dX9_canFill_10 (by decide) (fun c3 => ?_) (fun c3 => ?_)
  · have h := g_if h c3
    refine lv_sipush (v := (-1002)) hx hb dX9_canFill_22 (by decide) ?_
    exact ret dX9_canFill_25 rfl G (Prod.mk.inj (Option.some.inj h))
  · have h := g_it h c3
    refine lv_aload_n hx hb dX9_canFill_13 rfl (lv_at hl 0 rfl) ?_
    obtain ⟨v4, e_v4, h⟩ := g_bind h
    refine g_calli (g_runV (n := 0) (As := []) (rest := []) C G (mX9_places l X σ t v4 ok e_v4) ok.1.2 (gE_9 ok.1.1) rfl (g_goodV u_ml_RX9_42 u_im_yX9_places u_se_yX9_places u_in_RX9 u_co_yX9_places) rfl rfl rfl (by decide +kernel) ⟨Nat.le_of_ble_eq_true rfl, Nat.le_of_ble_eq_true rfl⟩ rfl hl.1 rfl (Nat.le_of_ble_eq_true rfl) dX9_canFill_14 ⟨Nat.zero_le _, Nat.zero_le _⟩) G (fun H locs G => ?_)
    refine lv_bipush (v := 6) hx hb dX9_canFill_17 (by decide) ?_
    refine lv_icmp_le (tgt := 26) hx hb dX9_canFill_19 (by decide) (fun c5 => ?_) (fun c5 => ?_)
    · have h := g_it h c5
      refine lv_iconst (v := 0) hx hb dX9_canFill_26 (by decide) ?_
      refine lv_istore_n (lv' := [(1, .int 0), (0, .ref (xN X + t))]) hx hb dX9_canFill_27 rfl hl (by decide) rfl (fun ls hl => ?_)
      exact L28  gF _ _ _ σ 0 G (lv_sub hl [1, 0] rfl) h
    · have h := g_if h c5
      refine lv_sipush (v := (-1002)) hx hb dX9_canFill_22 (by decide) ?_
      exact ret dX9_canFill_25 rfl G (Prod.mk.inj (Option.some.inj h))

def fX9_type (σ : gM) (t : Nat) (a1 : Int32) : Option (Int32 × gM) :=
  ((fX9_in σ a1 32 126).bind fun v1 =>
  (if v1 = 0 then
    some ((-1001), σ)
  else
    (if (σ t 4) = 60 then
      some ((-1003), σ)
    else
      (if ¬ ((σ t 4) < 0 ∨ gln (t + 3) ≤ (σ t 4).toNatClampNeg) then
      (gl (gset σ (t + 3) (upd (σ (t + 3)) (σ t 4).toNatClampNeg (vp_nar .char ((a1.toUInt32 % 65536).toInt32)))) fun σ5 =>
      (gl (gset σ5 t (upd (σ5 t) 4 ((σ5 t 4) + 1))) fun σ6 =>
      some ((σ6 t 4), σ6)))
      else none))))
set_option maxHeartbeats 4000000 in
set_option maxRecDepth 100000 in
theorem mX9_type (l : Launch) (X : gX) (σ σ' : gM) (t : Nat) (a1 : Int32) (r : Int32) (ok : gok9 X t) (h : fX9_type σ t a1 = some (r, σ')) : Met l yX9_type (Cond.code yX9_type cX9_type 2 (some .int) :: gBig) ({ frames := 1, cells := 0, slots := 0, locals := 22 }) (gPc X σ [.ref (xN X + t), .int a1]) (gQi X σ' r) 0 0 (xA X) := by
  refine g_meti (cc := cX9_type) (maxL := 2) (own := RX9) (by decide) rfl rfl (Nat.le_of_ble_eq_true rfl) ?_
  intro p ev s m args below meth c Q C G ret ls hl
  obtain ⟨⟨hx, hb, hml, hown, hts⟩, hK⟩ := id C
  have hl : lv_has ls 2 [(0, .ref (xN X + t)), (1, .int a1)] := hl
  unfold fX9_type at h
  refine lv_iload_n hx hb dX9_type_0 rfl (lv_at hl 1 rfl) ?_
  refine lv_bipush (v := 32) hx hb dX9_type_1 (by decide) ?_
  refine lv_bipush (v := 126) hx hb dX9_type_3 (by decide) ?_
  obtain ⟨v1, e_v1, h⟩ := g_bind h
  refine g_calli (g_runS (n := 3) (As := [.int a1, .int 32, .int 126]) (rest := []) C G (mX9_in l X σ a1 32 126 v1 e_v1) (g_goodS u_ml_RX9_38 u_st_yX9_in u_in_RX9 u_co_yX9_in) rfl rfl rfl (by decide +kernel) ⟨Nat.le_of_ble_eq_true rfl, Nat.le_of_ble_eq_true rfl⟩ rfl hl.1 rfl (Nat.le_of_ble_eq_true rfl) dX9_type_5 ⟨Nat.zero_le _, Nat.zero_le _⟩) G (fun H locs G => ?_)
  refine lv_if_ne (tgt := 15) hx hb dX9_type_8 (by decide) (fun c2 => ?_) (fun c2 => ?_)
  · have h := g_if h c2
    refine lv_aload_n hx hb dX9_type_15 rfl (lv_at hl 0 rfl) ?_
    refine gg9_4 C G ok.1 u_fl_RX9_105 dX9_type_16 ?_
    refine lv_bipush (v := 60) hx hb dX9_type_19 (by decide) ?_
    refine lv_icmp_ne (tgt := 28) hx hb dX9_type_21 (by decide) (fun c3 => ?_) (fun c3 => ?_)
    · have h := g_if h c3
      refine lv_aload_n hx hb dX9_type_28 rfl (lv_at hl 0 rfl) ?_
      refine gg9_3 C G ok.1 ok.2.1.2.2.1 u_fl_RX9_16 dX9_type_29 ?_
      refine lv_aload_n hx hb dX9_type_32 rfl (lv_at hl 0 rfl) ?_
      refine gg9_4 C G ok.1 u_fl_RX9_105 dX9_type_33 ?_
      refine lv_iload_n hx hb dX9_type_36 rfl (lv_at hl 1 rfl) ?_
      refine lv_i2c hx hb dX9_type_37 rfl ?_
      obtain ⟨c4, h⟩ := g_chk h
      obtain ⟨σ5, e_σ5, h⟩ := g_let h
      refine g_cast C G ok.2.2.2.2.1 c4 dX9_type_38 (fun H locs G => ?_)
      rw [e_σ5] at G
      refine lv_aload_n hx hb dX9_type_39 rfl (lv_at hl 0 rfl) ?_
      refine lv_dup hx hb dX9_type_40 rfl ?_
      refine gg9_4 C G ok.1 u_fl_RX9_105 dX9_type_41 ?_
      refine lv_iconst (v := 1) hx hb dX9_type_44 (by decide) ?_
      refine lv_iadd hx hb dX9_type_45 ?_
      obtain ⟨σ6, e_σ6, h⟩ := g_let h
      refine gp9_4 C G ok.1 u_fl_RX9_105 dX9_type_46 (fun H locs G => ?_)
      rw [e_σ6] at G
      refine lv_aload_n hx hb dX9_type_49 rfl (lv_at hl 0 rfl) ?_
      refine gg9_4 C G ok.1 u_fl_RX9_105 dX9_type_50 ?_
      exact ret dX9_type_53 rfl G (Prod.mk.inj (Option.some.inj h))
    · have h := g_it h c3
      refine lv_sipush (v := (-1003)) hx hb dX9_type_24 (by decide) ?_
      exact ret dX9_type_27 rfl G (Prod.mk.inj (Option.some.inj h))
  · have h := g_it h c2
    refine lv_sipush (v := (-1001)) hx hb dX9_type_11 (by decide) ?_
    exact ret dX9_type_14 rfl G (Prod.mk.inj (Option.some.inj h))

def fX9_clearText (σ : gM) (t : Nat) : Option (Int32 × gM) :=
  (gl (σ t 4) fun w1 =>
  (gl (gset σ t (upd (σ t) 4 0)) fun σ2 =>
  some (w1, σ2)))
set_option maxHeartbeats 4000000 in
set_option maxRecDepth 100000 in
theorem mX9_clearText (l : Launch) (X : gX) (σ σ' : gM) (t : Nat) (r : Int32) (ok : gok9 X t) (h : fX9_clearText σ t = some (r, σ')) : Met l yX9_clearText (Cond.code yX9_clearText cX9_clearText 2 (some .int) :: gBig) ({ frames := 0, cells := 0, slots := 0, locals := 0 }) (gPc X σ [.ref (xN X + t)]) (gQi X σ' r) 0 0 (xA X) := by
  refine g_meti (cc := cX9_clearText) (maxL := 2) (own := RX9) (by decide) rfl rfl (Nat.le_of_ble_eq_true rfl) ?_
  intro p ev s m args below meth c Q C G ret ls hl
  obtain ⟨⟨hx, hb, hml, hown, hts⟩, hK⟩ := id C
  have hl : lv_has ls 2 [(0, .ref (xN X + t))] := hl
  unfold fX9_clearText at h
  refine lv_aload_n hx hb dX9_clearText_0 rfl (lv_at hl 0 rfl) ?_
  refine gg9_4 C G ok.1 u_fl_RX9_105 dX9_clearText_1 ?_
  refine lv_topi (fun w1 e_w1 => ?_)
  have h := g_let2 e_w1 h
  refine lv_istore_n (lv' := [(1, .int w1), (0, .ref (xN X + t))]) hx hb dX9_clearText_4 rfl hl (by decide) rfl (fun ls hl => ?_)
  refine lv_aload_n hx hb dX9_clearText_5 rfl (lv_at hl 1 rfl) ?_
  refine lv_iconst (v := 0) hx hb dX9_clearText_6 (by decide) ?_
  obtain ⟨σ2, e_σ2, h⟩ := g_let h
  refine gp9_4 C G ok.1 u_fl_RX9_105 dX9_clearText_7 (fun H locs G => ?_)
  rw [e_σ2] at G
  refine lv_iload_n hx hb dX9_clearText_10 rfl (lv_at hl 0 rfl) ?_
  exact ret dX9_clearText_11 rfl G (Prod.mk.inj (Option.some.inj h))
