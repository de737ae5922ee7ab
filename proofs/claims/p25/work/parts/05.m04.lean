def fX8_isPlace (σ : gM) (t : Nat) (a1 : Int32) : Option (Int32) :=
  ((fX4_places σ ((t + 1) + 8)).bind fun v1 =>
  ((fX8_isWithin σ a1 0 (v1 - 1)).bind fun v2 =>
  (if v2 = 0 ∨ v2 = 1 then
  some v2
  else none)))
set_option maxHeartbeats 4000000 in
set_option maxRecDepth 100000 in
theorem mX8_isPlace (l : Launch) (X : gX) (σ : gM) (t : Nat) (a1 : Int32) (r : Int32) (ok : gok8 X t) (h : fX8_isPlace σ t a1 = some r) : Met l yX8_isPlace (Cond.code yX8_isPlace cX8_isPlace 2 (some .boolean) :: gBig) ({ frames := 1, cells := 0, slots := 0, locals := 22 }) (gPc X σ [.ref (xN X + t), .int a1]) (gQi X σ r) 0 0 (xA X) := by
  refine g_meti (cc := cX8_isPlace) (maxL := 2) (own := RX8) (by decide) rfl rfl (Nat.le_of_ble_eq_true rfl) ?_
  intro p ev s m args below meth c Q C G ret ls hl
  obtain ⟨⟨hx, hb, hml, hown, hts⟩, hK⟩ := id C
  have hl : lv_has ls 2 [(0, .ref (xN X + t)), (1, .int a1)] := hl
  unfold fX8_isPlace at h
  refine lv_iload_n hx hb dX8_isPlace_0 rfl (lv_at hl 1 rfl) ?_
  refine lv_iconst (v := 0) hx hb dX8_isPlace_1 (by decide) ?_
  refine lv_aload_n hx hb dX8_isPlace_2 rfl (lv_at hl 0 rfl) ?_
  refine gg8_0 C G ok.1 ok.2.1.1 u_fl_RX8_10 dX8_isPlace_3 ?_
  refine gn0_1 C G ok.2.2.1.1 ok.2.2.1.2.1.2 (List.mem_of_getElem? (i := 3) rfl) dX8_isPlace_6 ?_
  obtain ⟨v1, e_v1, h⟩ := g_bind h
  refine g_calli (g_runV (n := 0) (As := []) (rest := [.int 0, .int a1]) C G (mX4_places l X σ ((t + 1) + 8) v1 ok.2.2.1.2.2.2 e_v1) ok.2.2.1.2.2.2.1.2 (gE_4 ok.2.2.1.2.2.2.1.1) rfl (g_goodV u_ml_RX8_168 u_im_yX4_places u_se_yX4_places u_in_RX4 u_co_yX4_places) rfl rfl rfl (by decide +kernel) ⟨Nat.le_of_ble_eq_true rfl, Nat.le_of_ble_eq_true rfl⟩ rfl hl.1 rfl (Nat.le_of_ble_eq_true rfl) dX8_isPlace_9 ⟨Nat.zero_le _, Nat.zero_le _⟩) G (fun H locs G => ?_)
  refine lv_iconst (v := 1) hx hb dX8_isPlace_12 (by decide) ?_
  refine lv_isub hx hb dX8_isPlace_13 ?_
  obtain ⟨v2, e_v2, h⟩ := g_bind h
  refine g_calli (g_runS (n := 3) (As := [.int a1, .int 0, .int (v1 - 1)]) (rest := []) C G (mX8_isWithin l X σ a1 0 (v1 - 1) v2 e_v2) (g_goodS u_ml_RX8_47 u_st_yX8_isWithin u_in_RX8 u_co_yX8_isWithin) rfl rfl rfl (by decide +kernel) ⟨Nat.le_of_ble_eq_true rfl, Nat.le_of_ble_eq_true rfl⟩ rfl hl.1 rfl (Nat.le_of_ble_eq_true rfl) dX8_isPlace_14 ⟨Nat.zero_le _, Nat.zero_le _⟩) G (fun H locs G => ?_)
  obtain ⟨c3, h⟩ := g_chk h
  exact ret dX8_isPlace_17 (g_z c3) G ⟨Option.some.inj h, rfl⟩

def fX8_isFree (σ : gM) (t : Nat) (a1 : Int32) (a2 : Int32) : Option (Int32) :=
  ((fX4_lies σ ((t + 1) + 8) a1).bind fun v1 =>
  (if v1 = 0 then
    ((fX4_scrapAt σ ((t + 1) + 8) a2).bind fun v3 =>
    (if v3 = (-1) then
      some 1
    else
      some 0))
  else
    some 0))
set_option maxHeartbeats 4000000 in
set_option maxRecDepth 100000 in
theorem mX8_isFree (l : Launch) (X : gX) (σ : gM) (t : Nat) (a1 : Int32) (a2 : Int32) (r : Int32) (ok : gok8 X t) (h : fX8_isFree σ t a1 a2 = some r) : Met l yX8_isFree (Cond.code yX8_isFree cX8_isFree 3 (some .boolean) :: gBig) ({ frames := 2, cells := 0, slots := 0, locals := 42 }) (gPc X σ [.ref (xN X + t), .int a1, .int a2]) (gQi X σ r) 0 0 (xA X) := by
  refine g_meti (cc := cX8_isFree) (maxL := 3) (own := RX8) (by decide) rfl rfl (Nat.le_of_ble_eq_true rfl) ?_
  intro p ev s m args below meth c Q C G ret ls hl
  obtain ⟨⟨hx, hb, hml, hown, hts⟩, hK⟩ := id C
  have hl : lv_has ls 3 [(0, .ref (xN X + t)), (1, .int a1), (2, .int a2)] := hl
  unfold fX8_isFree at h
  refine lv_aload_n hx hb dX8_isFree_0 rfl (lv_at hl 0 rfl) ?_
  refine gg8_0 C G ok.1 ok.2.1.1 u_fl_RX8_10 dX8_isFree_1 ?_
  refine gn0_1 C G ok.2.2.1.1 ok.2.2.1.2.1.2 (List.mem_of_getElem? (i := 3) rfl) dX8_isFree_4 ?_
  refine lv_iload_n hx hb dX8_isFree_7 rfl (lv_at hl 1 rfl) ?_
  obtain ⟨v1, e_v1, h⟩ := g_bind h
  refine g_calli (g_runV (n := 1) (As := [.int a1]) (rest := []) C G (mX4_lies l X σ ((t + 1) + 8) a1 v1 ok.2.2.1.2.2.2 e_v1) ok.2.2.1.2.2.2.1.2 (gE_4 ok.2.2.1.2.2.2.1.1) rfl (g_goodV u_ml_RX8_110 u_im_yX4_lies u_se_yX4_lies u_in_RX4 u_co_yX4_lies) rfl rfl rfl (by decide +kernel) ⟨Nat.le_of_ble_eq_true rfl, Nat.le_of_ble_eq_true rfl⟩ rfl hl.1 rfl (Nat.le_of_ble_eq_true rfl) dX8_isFree_8 ⟨Nat.zero_le _, Nat.zero_le _⟩) G (fun H locs G => ?_)
  refine lv_if_ne (tgt := 33) hx hb dX8_isFree_11 (by decide) (fun c2 => ?_) (fun c2 => ?_)
  · have h := g_if h c2
    refine lv_iconst (v := 0) hx hb dX8_isFree_33 (by decide) ?_
    exact ret dX8_isFree_34 rfl G ⟨Option.some.inj h, rfl⟩
  · have h := g_it h c2
    refine lv_aload_n hx hb dX8_isFree_14 rfl (lv_at hl 0 rfl) ?_
    refine gg8_0 C G ok.1 ok.2.1.1 u_fl_RX8_10 dX8_isFree_15 ?_
    refine gn0_1 C G ok.2.2.1.1 ok.2.2.1.2.1.2 (List.mem_of_getElem? (i := 3) rfl) dX8_isFree_18 ?_
    refine lv_iload_n hx hb dX8_isFree_21 rfl (lv_at hl 2 rfl) ?_
    obtain ⟨v3, e_v3, h⟩ := g_bind h
    refine g_calli (g_runV (n := 1) (As := [.int a2]) (rest := []) C G (mX4_scrapAt l X σ ((t + 1) + 8) a2 v3 ok.2.2.1.2.2.2 e_v3) ok.2.2.1.2.2.2.1.2 (gE_4 ok.2.2.1.2.2.2.1.1) rfl (g_goodV u_ml_RX8_194 u_im_yX4_scrapAt u_se_yX4_scrapAt u_in_RX4 u_co_yX4_scrapAt) rfl rfl rfl (by decide +kernel) ⟨Nat.le_of_ble_eq_true rfl, Nat.le_of_ble_eq_true rfl⟩ rfl hl.1 rfl (Nat.le_of_ble_eq_true rfl) dX8_isFree_22 ⟨Nat.zero_le _, Nat.zero_le _⟩) G (fun H locs G => ?_)
    refine lv_iconst (v := (-1)) hx hb dX8_isFree_25 (by decide) ?_
    refine lv_icmp_ne (tgt := 33) hx hb dX8_isFree_26 (by decide) (fun c4 => ?_) (fun c4 => ?_)
    · have h := g_if h c4
      refine lv_iconst (v := 0) hx hb dX8_isFree_33 (by decide) ?_
      exact ret dX8_isFree_34 rfl G ⟨Option.some.inj h, rfl⟩
    · have h := g_it h c4
      refine lv_iconst (v := 1) hx hb dX8_isFree_29 (by decide) ?_
      refine lv_goto (tgt := 34) hx hb dX8_isFree_30 (by decide) ?_
      exact ret dX8_isFree_34 rfl G ⟨Option.some.inj h, rfl⟩

def fX0_canLie_3 (σ : gM) (t : Nat) (a1 : Int32) (a2 : Int32) (a3 : Int32) : Nat → Int32 → Option (Int32)
  | 0, _ => none
  | n + 1, x4 =>
    (if 4 ≤ x4 then
      some 1
    else
      ((fX0_verdict σ t a1 a2 a3 x4).bind fun v2 =>
      (if v2 ≤ 0 then
        (gl (x4 + 1) fun w4 =>
        fX0_canLie_3 σ t a1 a2 a3 n w4)
      else
        some 0)))

def fX0_canLie (σ : gM) (t : Nat) (a1 : Int32) (a2 : Int32) (a3 : Int32) : Option (Int32) :=
  fX0_canLie_3 σ t a1 a2 a3 gF 0
set_option maxHeartbeats 4000000 in
set_option maxRecDepth 100000 in
theorem mX0_canLie (l : Launch) (X : gX) (σ : gM) (t : Nat) (a1 : Int32) (a2 : Int32) (a3 : Int32) (r : Int32) (ok : gok0 X t) (h : fX0_canLie σ t a1 a2 a3 = some r) : Met l yX0_canLie (Cond.code yX0_canLie cX0_canLie 5 (some .boolean) :: gBig) ({ frames := 3, cells := 0, slots := 0, locals := 75 }) (gPc X σ [.ref (xN X + t), .int a1, .int a2, .int a3]) (gQi X σ r) 0 0 (xA X) := by
  refine g_meti (cc := cX0_canLie) (maxL := 5) (own := RX0) (by decide) rfl rfl (Nat.le_of_ble_eq_true rfl) ?_
  intro p ev s m args below meth c Q C G ret ls hl
  obtain ⟨⟨hx, hb, hml, hown, hts⟩, hK⟩ := id C
  have hl : lv_has ls 5 [(0, .ref (xN X + t)), (1, .int a1), (2, .int a2), (3, .int a3)] := hl
  have L3 : ∀ (n : Nat) (H : Heap) (locs : List Loc) (ls : Array Slot) (x4 : Int32), gG X σ s H locs → lv_has ls 5 [(0, .ref (xN X + t)), (1, .int a1), (2, .int a2), (3, .int a3), (4, .int x4)] → fX0_canLie_3 σ t a1 a2 a3 n x4 = some r → W p l ev ({ frames := 3, cells := 0, slots := 0, locals := 75 }) s m args below meth c H locs 0 0 Q (F0 m 3 ls []) := by
    intro n
    induction n with
    | zero =>
      intro H locs ls x4 G hl h
      rw [fX0_canLie_3] at h
      cases h
    | succ n ih =>
      intro H locs ls x4 G hl h
      rw [fX0_canLie_3] at h
      refine lv_iload hx hb dX0_canLie_3 (lv_at hl 4 rfl) ?_
      refine lv_iconst (v := 4) hx hb dX0_canLie_5 (by decide) ?_
      refine lv_icmp_ge (tgt := 29) hx hb dX0_canLie_6 (by decide) (fun c1 => ?_) (fun c1 => ?_)
      · have h := g_it h c1
        refine lv_iconst (v := 1) hx hb dX0_canLie_29 (by decide) ?_
        exact ret dX0_canLie_30 rfl G ⟨Option.some.inj h, rfl⟩
      · have h := g_if h c1
        refine lv_aload_n hx hb dX0_canLie_9 rfl (lv_at hl 0 rfl) ?_
        refine lv_iload_n hx hb dX0_canLie_10 rfl (lv_at hl 1 rfl) ?_
        refine lv_iload_n hx hb dX0_canLie_11 rfl (lv_at hl 2 rfl) ?_
        refine lv_iload_n hx hb dX0_canLie_12 rfl (lv_at hl 3 rfl) ?_
        refine lv_iload hx hb dX0_canLie_13 (lv_at hl 4 rfl) ?_
        obtain ⟨v2, e_v2, h⟩ := g_bind h
        refine g_calli (g_runV (n := 4) (As := [.int a1, .int a2, .int a3, .int x4]) (rest := []) C G (mX0_verdict l X σ t a1 a2 a3 x4 v2 ok e_v2) ok.1.2 (gE_0 ok.1.1) rfl (g_goodV u_ml_RX0_63 u_im_yX0_verdict u_se_yX0_verdict u_in_RX0 u_co_yX0_verdict) rfl rfl rfl (by decide +kernel) ⟨Nat.le_of_ble_eq_true rfl, Nat.le_of_ble_eq_true rfl⟩ rfl hl.1 rfl (Nat.le_of_ble_eq_true rfl) dX0_canLie_15 ⟨Nat.zero_le _, Nat.zero_le _⟩) G (fun H locs G => ?_)
        refine lv_if_le (tgt := 23) hx hb dX0_canLie_18 (by decide) (fun c3 => ?_) (fun c3 => ?_)
        · have h := g_it h c3
          obtain ⟨w4, e_w4⟩ : ∃ y : Int32, y = x4 + 1 := ⟨_, rfl⟩
          have h := g_let2 e_w4 h
          refine lv_iinc (v := w4) (lv' := [(4, .int w4), (0, .ref (xN X + t)), (1, .int a1), (2, .int a2), (3, .int a3)]) hx hb dX0_canLie_23 hl (k := 4) rfl (by rw [e_w4]; rfl) (by decide) rfl (fun ls hl => ?_)
          refine lv_goto (tgt := 3) hx hb dX0_canLie_26 (by decide) ?_
          exact ih _ _ _ w4 G (lv_sub hl [1, 2, 3, 4, 0] rfl) h
        · have h := g_if h c3
          refine lv_iconst (v := 0) hx hb dX0_canLie_21 (by decide) ?_
          exact ret dX0_canLie_22 rfl G ⟨Option.some.inj h, rfl⟩
  unfold fX0_canLie at h
  refine lv_iconst (v := 0) hx hb dX0_canLie_0 (by decide) ?_
  refine lv_istore (lv' := [(4, .int 0), (0, .ref (xN X + t)), (1, .int a1), (2, .int a2), (3, .int a3)]) hx hb dX0_canLie_1 hl (by decide) rfl (fun ls hl => ?_)
  exact L3  gF _ _ _ 0 G (lv_sub hl [1, 2, 3, 4, 0] rfl) h

def fX4_put (σ : gM) (t : Nat) (a1 : Int32) (a2 : Int32) (a3 : Int32) : Option (gM) :=
  ((fX5_set σ (t + 1) a1 a2).bind fun σ2 =>
  ((fX5_set σ2 (t + 3) a1 a3).bind fun σ4 =>
  ((fX5_set σ4 (t + 5) a2 a1).bind fun σ6 =>
  some σ6)))
set_option maxHeartbeats 4000000 in
set_option maxRecDepth 100000 in
theorem mX4_put (l : Launch) (X : gX) (σ σ' : gM) (t : Nat) (a1 : Int32) (a2 : Int32) (a3 : Int32) (ok : gok4 X t) (h : fX4_put σ t a1 a2 a3 = some σ') : Met l yX4_put (Cond.code yX4_put cX4_put 4 none :: gBig) ({ frames := 1, cells := 0, slots := 0, locals := 22 }) (gPc X σ [.ref (xN X + t), .int a1, .int a2, .int a3]) (gQv X σ') 0 0 (xA X) := by
  refine g_metv (cc := cX4_put) (maxL := 4) (own := RX4) (by decide) rfl rfl (Nat.le_of_ble_eq_true rfl) ?_
  intro p ev s m args below meth c Q C G ret ls hl
  obtain ⟨⟨hx, hb, hml, hown, hts⟩, hK⟩ := id C
  have hl : lv_has ls 4 [(0, .ref (xN X + t)), (1, .int a1), (2, .int a2), (3, .int a3)] := hl
  unfold fX4_put at h
  refine lv_aload_n hx hb dX4_put_0 rfl (lv_at hl 0 rfl) ?_
  refine gg4_0 C G ok.1 ok.2.1.1 u_fl_RX4_14 dX4_put_1 ?_
  refine lv_iload_n hx hb dX4_put_4 rfl (lv_at hl 1 rfl) ?_
  refine lv_iload_n hx hb dX4_put_5 rfl (lv_at hl 2 rfl) ?_
  obtain ⟨σ2, e_σ2, h⟩ := g_bind h
  refine g_callv (g_runV (n := 2) (As := [.int a1, .int a2]) (rest := []) C G (mX5_set l X σ σ2 (t + 1) a1 a2 ok.2.2.1 e_σ2) ok.2.2.1.1.2 (gE_5 ok.2.2.1.1.1) rfl (g_goodV u_ml_RX4_44 u_im_yX5_set u_se_yX5_set u_in_RX5 u_co_yX5_set) rfl rfl rfl (by decide +kernel) ⟨Nat.le_of_ble_eq_true rfl, Nat.le_of_ble_eq_true rfl⟩ rfl hl.1 rfl (Nat.le_of_ble_eq_true rfl) dX4_put_6 ⟨Nat.zero_le _, Nat.zero_le _⟩) G (fun H locs G => ?_)
  refine lv_aload_n hx hb dX4_put_9 rfl (lv_at hl 0 rfl) ?_
  refine gg4_1 C G ok.1 ok.2.1.2.1 u_fl_RX4_20 dX4_put_10 ?_
  refine lv_iload_n hx hb dX4_put_13 rfl (lv_at hl 1 rfl) ?_
  refine lv_iload_n hx hb dX4_put_14 rfl (lv_at hl 3 rfl) ?_
  obtain ⟨σ4, e_σ4, h⟩ := g_bind h
  refine g_callv (g_runV (n := 2) (As := [.int a1, .int a3]) (rest := []) C G (mX5_set l X σ2 σ4 (t + 3) a1 a3 ok.2.2.2.1 e_σ4) ok.2.2.2.1.1.2 (gE_5 ok.2.2.2.1.1.1) rfl (g_goodV u_ml_RX4_44 u_im_yX5_set u_se_yX5_set u_in_RX5 u_co_yX5_set) rfl rfl rfl (by decide +kernel) ⟨Nat.le_of_ble_eq_true rfl, Nat.le_of_ble_eq_true rfl⟩ rfl hl.1 rfl (Nat.le_of_ble_eq_true rfl) dX4_put_15 ⟨Nat.zero_le _, Nat.zero_le _⟩) G (fun H locs G => ?_)
  refine lv_aload_n hx hb dX4_put_18 rfl (lv_at hl 0 rfl) ?_
  refine gg4_2 C G ok.1 ok.2.1.2.2 u_fl_RX4_23 dX4_put_19 ?_
  refine lv_iload_n hx hb dX4_put_22 rfl (lv_at hl 2 rfl) ?_
  refine lv_iload_n hx hb dX4_put_23 rfl (lv_at hl 1 rfl) ?_
  obtain ⟨σ6, e_σ6, h⟩ := g_bind h
  refine g_callv (g_runV (n := 2) (As := [.int a2, .int a1]) (rest := []) C G (mX5_set l X σ4 σ6 (t + 5) a2 a1 ok.2.2.2.2 e_σ6) ok.2.2.2.2.1.2 (gE_5 ok.2.2.2.2.1.1) rfl (g_goodV u_ml_RX4_44 u_im_yX5_set u_se_yX5_set u_in_RX5 u_co_yX5_set) rfl rfl rfl (by decide +kernel) ⟨Nat.le_of_ble_eq_true rfl, Nat.le_of_ble_eq_true rfl⟩ rfl hl.1 rfl (Nat.le_of_ble_eq_true rfl) dX4_put_24 ⟨Nat.zero_le _, Nat.zero_le _⟩) G (fun H locs G => ?_)
  exact ret dX4_put_27 G (Option.some.inj h)

def fX0_seamsAt_5 (σ : gM) (t : Nat) (a1 : Int32) (a2 : Int32) : Nat → Int32 → Int32 → Option (Int32)
  | 0, _, _ => none
  | n + 1, x3, x4 =>
    (if 4 ≤ x4 then
      some x3
    else
      ((fX0_neighbour σ t a1 a2 x4).bind fun v2 =>
      (if v2 = (-1) then
        (gl (x4 + 1) fun w4 =>
        fX0_seamsAt_5 σ t a1 a2 n x3 w4)
      else
        (gl (x3 + 1) fun w5 =>
        (gl (x4 + 1) fun w6 =>
        fX0_seamsAt_5 σ t a1 a2 n w5 w6)))))

def fX0_seamsAt (σ : gM) (t : Nat) (a1 : Int32) (a2 : Int32) : Option (Int32) :=
  fX0_seamsAt_5 σ t a1 a2 gF 0 0
set_option maxHeartbeats 4000000 in
set_option maxRecDepth 100000 in
theorem mX0_seamsAt (l : Launch) (X : gX) (σ : gM) (t : Nat) (a1 : Int32) (a2 : Int32) (r : Int32) (ok : gok0 X t) (h : fX0_seamsAt σ t a1 a2 = some r) : Met l yX0_seamsAt (Cond.code yX0_seamsAt cX0_seamsAt 5 (some .int) :: gBig) ({ frames := 3, cells := 0, slots := 0, locals := 67 }) (gPc X σ [.ref (xN X + t), .int a1, .int a2]) (gQi X σ r) 0 0 (xA X) := by
  refine g_meti (cc := cX0_seamsAt) (maxL := 5) (own := RX0) (by decide) rfl rfl (Nat.le_of_ble_eq_true rfl) ?_
  intro p ev s m args below meth c Q C G ret ls hl
  obtain ⟨⟨hx, hb, hml, hown, hts⟩, hK⟩ := id C
  have hl : lv_has ls 5 [(0, .ref (xN X + t)), (1, .int a1), (2, .int a2)] := hl
  have L5 : ∀ (n : Nat) (H : Heap) (locs : List Loc) (ls : Array Slot) (x3 : Int32) (x4 : Int32), gG X σ s H locs → lv_has ls 5 [(0, .ref (xN X + t)), (1, .int a1), (2, .int a2), (3, .int x3), (4, .int x4)] → fX0_seamsAt_5 σ t a1 a2 n x3 x4 = some r → W p l ev ({ frames := 3, cells := 0, slots := 0, locals := 67 }) s m args below meth c H locs 0 0 Q (F0 m 5 ls []) := by
    intro n
    induction n with
    | zero =>
      intro H locs ls x3 x4 G hl h
      rw [fX0_seamsAt_5] at h
      cases h
    | succ n ih =>
      intro H locs ls x3 x4 G hl h
      rw [fX0_seamsAt_5] at h
      refine lv_iload hx hb dX0_seamsAt_5 (lv_at hl 4 rfl) ?_
      refine lv_iconst (v := 4) hx hb dX0_seamsAt_7 (by decide) ?_
      refine lv_icmp_ge (tgt := 32) hx hb dX0_seamsAt_8 (by decide) (fun c1 => ?_) (fun c1 => ?_)
      · have h := g_it h c1
        refine lv_iload_n hx hb dX0_seamsAt_32 rfl (lv_at hl 3 rfl) ?_
        exact ret dX0_seamsAt_33 rfl G ⟨Option.some.inj h, rfl⟩
      · have h := g_if h c1
        refine lv_aload_n hx hb dX0_seamsAt_11 rfl (lv_at hl 0 rfl) ?_
        refine lv_iload_n hx hb dX0_seamsAt_12 rfl (lv_at hl 1 rfl) ?_
        refine lv_iload_n hx hb dX0_seamsAt_13 rfl (lv_at hl 2 rfl) ?_
        refine lv_iload hx hb dX0_seamsAt_14 (lv_at hl 4 rfl) ?_
        obtain ⟨v2, e_v2, h⟩ := g_bind h
        refine g_calli (g_runV (n := 3) (As := [.int a1, .int a2, .int x4]) (rest := []) C G (mX0_neighbour l X σ t a1 a2 x4 v2 ok e_v2) ok.1.2 (gE_0 ok.1.1) rfl (g_goodV u_ml_RX0_71 u_im_yX0_neighbour u_se_yX0_neighbour u_in_RX0 u_co_yX0_neighbour) rfl rfl rfl (by decide +kernel) ⟨Nat.le_of_ble_eq_true rfl, Nat.le_of_ble_eq_true rfl⟩ rfl hl.1 rfl (Nat.le_of_ble_eq_true rfl) dX0_seamsAt_16 ⟨Nat.zero_le _, Nat.zero_le _⟩) G (fun H locs G => ?_)
        refine lv_iconst (v := (-1)) hx hb dX0_seamsAt_19 (by decide) ?_
        refine lv_icmp_eq (tgt := 26) hx hb dX0_seamsAt_20 (by decide) (fun c3 => ?_) (fun c3 => ?_)
        · have h := g_it h c3
          obtain ⟨w4, e_w4⟩ : ∃ y : Int32, y = x4 + 1 := ⟨_, rfl⟩
          have h := g_let2 e_w4 h
          refine lv_iinc (v := w4) (lv' := [(4, .int w4), (0, .ref (xN X + t)), (1, .int a1), (2, .int a2), (3, .int x3)]) hx hb dX0_seamsAt_26 hl (k := 4) rfl (by rw [e_w4]; rfl) (by decide) rfl (fun ls hl => ?_)
          refine lv_goto (tgt := 5) hx hb dX0_seamsAt_29 (by decide) ?_
          exact ih _ _ _ x3 w4 G (lv_sub hl [1, 2, 3, 4, 0] rfl) h
        · have h := g_if h c3
          obtain ⟨w5, e_w5⟩ : ∃ y : Int32, y = x3 + 1 := ⟨_, rfl⟩
          have h := g_let2 e_w5 h
          refine lv_iinc (v := w5) (lv' := [(3, .int w5), (0, .ref (xN X + t)), (1, .int a1), (2, .int a2), (4, .int x4)]) hx hb dX0_seamsAt_23 hl (k := 3) rfl (by rw [e_w5]; rfl) (by decide) rfl (fun ls hl => ?_)
          obtain ⟨w6, e_w6⟩ : ∃ y : Int32, y = x4 + 1 := ⟨_, rfl⟩
          have h := g_let2 e_w6 h
          refine lv_iinc (v := w6) (lv' := [(4, .int w6), (3, .int w5), (0, .ref (xN X + t)), (1, .int a1), (2, .int a2)]) hx hb dX0_seamsAt_26 hl (k := 4) rfl (by rw [e_w6]; rfl) (by decide) rfl (fun ls hl => ?_)
          refine lv_goto (tgt := 5) hx hb dX0_seamsAt_29 (by decide) ?_
          exact ih _ _ _ w5 w6 G (lv_sub hl [2, 3, 4, 1, 0] rfl) h
  unfold fX0_seamsAt at h
  refine lv_iconst (v := 0) hx hb dX0_seamsAt_0 (by decide) ?_
  refine lv_istore_n (lv' := [(3, .int 0), (0, .ref (xN X + t)), (1, .int a1), (2, .int a2)]) hx hb dX0_seamsAt_1 rfl hl (by decide) rfl (fun ls hl => ?_)
  refine lv_iconst (v := 0) hx hb dX0_seamsAt_2 (by decide) ?_
  refine lv_istore (lv' := [(4, .int 0), (3, .int 0), (0, .ref (xN X + t)), (1, .int a1), (2, .int a2)]) hx hb dX0_seamsAt_3 hl (by decide) rfl (fun ls hl => ?_)
  exact L5  gF _ _ _ 0 0 G (lv_sub hl [2, 3, 4, 1, 0] rfl) h

def fX8_lay (σ : gM) (t : Nat) (a1 : Int32) (a2 : Int32) (a3 : Int32) : Option (Int32 × gM) :=
  ((fX8_isScrap σ t a1).bind fun v1 =>
  (if v1 = 0 then
    some ((-1001), σ)
  else
    ((fX8_isPlace σ t a2).bind fun v3 =>
    (if v3 = 0 then
      some ((-1001), σ)
    else
      ((fX8_isOrientation σ a3).bind fun v5 =>
      (if v5 = 0 then
        some ((-1001), σ)
      else
        ((fX8_isFree σ t a1 a2).bind fun v7 =>
        (if v7 = 0 then
          some ((-1002), σ)
        else
          ((fX0_canLie σ (t + 1) a1 a2 a3).bind fun v9 =>
          (if v9 = 0 then
            some ((-1002), σ)
          else
            ((fX3_keep σ (t + 31) (t + 1)).bind fun σ12 =>
            ((fX4_put σ12 ((t + 1) + 8) a1 a2 a3).bind fun σ14 =>
            ((fX0_seamsAt σ14 (t + 1) a1 a2).bind fun v15 =>
            some (v15, σ14))))))))))))))
set_option maxHeartbeats 4000000 in
set_option maxRecDepth 100000 in
theorem mX8_lay (l : Launch) (X : gX) (σ σ' : gM) (t : Nat) (a1 : Int32) (a2 : Int32) (a3 : Int32) (r : Int32) (ok : gok8 X t) (h : fX8_lay σ t a1 a2 a3 = some (r, σ')) : Met l yX8_lay (Cond.code yX8_lay cX8_lay 4 (some .int) :: gBig) ({ frames := 5, cells := 0, slots := 0, locals := 150 }) (gPc X σ [.ref (xN X + t), .int a1, .int a2, .int a3]) (gQi X σ' r) 0 0 (xA X) := by
  refine g_meti (cc := cX8_lay) (maxL := 4) (own := RX8) (by decide) rfl rfl (Nat.le_of_ble_eq_true rfl) ?_
  intro p ev s m args below meth c Q C G ret ls hl
  obtain ⟨⟨hx, hb, hml, hown, hts⟩, hK⟩ := id C
  have hl : lv_has ls 4 [(0, .ref (xN X + t)), (1, .int a1), (2, .int a2), (3, .int a3)] := hl
  unfold fX8_lay at h
  refine lv_aload_n hx hb dX8_lay_0 rfl (lv_at hl 0 rfl) ?_
  refine lv_iload_n hx hb dX8_lay_1 rfl (lv_at hl 1 rfl) ?_
  obtain ⟨v1, e_v1, h⟩ := g_bind h
  refine g_calli (g_runV (n := 1) (As := [.int a1]) (rest := []) C G (mX8_isScrap l X σ t a1 v1 ok e_v1) ok.1.2 (gE_8 ok.1.1) rfl (g_goodV u_ml_RX8_104 u_im_yX8_isScrap u_se_yX8_isScrap u_in_RX8 u_co_yX8_isScrap) rfl rfl rfl (by decide +kernel) ⟨Nat.le_of_ble_eq_true rfl, Nat.le_of_ble_eq_true rfl⟩ rfl hl.1 rfl (Nat.le_of_ble_eq_true rfl) dX8_lay_2 ⟨Nat.zero_le _, Nat.zero_le _⟩) G (fun H locs G => ?_)
  refine lv_if_eq (tgt := 23) hx hb dX8_lay_5 (by decide) (fun c2 => ?_) (fun c2 => ?_)
  · have h := g_it h c2
    refine lv_sipush (v := (-1001)) hx hb dX8_lay_23 (by decide) ?_
    exact ret dX8_lay_26 rfl G (Prod.mk.inj (Option.some.inj h))
  · have h := g_if h c2
    refine lv_aload_n hx hb dX8_lay_8 rfl (lv_at hl 0 rfl) ?_
    refine lv_iload_n hx hb dX8_lay_9 rfl (lv_at hl 2 rfl) ?_
    obtain ⟨v3, e_v3, h⟩ := g_bind h
    refine g_calli (g_runV (n := 1) (As := [.int a2]) (rest := []) C G (mX8_isPlace l X σ t a2 v3 ok e_v3) ok.1.2 (gE_8 ok.1.1) rfl (g_goodV u_ml_RX8_174 u_im_yX8_isPlace u_se_yX8_isPlace u_in_RX8 u_co_yX8_isPlace) rfl rfl rfl (by decide +kernel) ⟨Nat.le_of_ble_eq_true rfl, Nat.le_of_ble_eq_true rfl⟩ rfl hl.1 rfl (Nat.le_of_ble_eq_true rfl) dX8_lay_10 ⟨Nat.zero_le _, Nat.zero_le _⟩) G (fun H locs G => ?_)
    refine lv_if_eq (tgt := 23) hx hb dX8_lay_13 (by decide) (fun c4 => ?_) (fun c4 => ?_)
    · have h := g_it h c4
      refine lv_sipush (v := (-1001)) hx hb dX8_lay_23 (by decide) ?_
      exact ret dX8_lay_26 rfl G (Prod.mk.inj (Option.some.inj h))
    · have h := g_if h c4
      refine lv_iload_n hx hb dX8_lay_16 rfl (lv_at hl 3 rfl) ?_
      obtain ⟨v5, e_v5, h⟩ := g_bind h
      refine g_calli (g_runS (n := 1) (As := [.int a3]) (rest := []) C G (mX8_isOrientation l X σ a3 v5 e_v5) (g_goodS u_ml_RX8_135 u_st_yX8_isOrientation u_in_RX8 u_co_yX8_isOrientation) rfl rfl rfl (by decide +kernel) ⟨Nat.le_of_ble_eq_true rfl, Nat.le_of_ble_eq_true rfl⟩ rfl hl.1 rfl (Nat.le_of_ble_eq_true rfl) dX8_lay_17 ⟨Nat.zero_le _, Nat.zero_le _⟩) G (fun H locs G => ?_)
      refine lv_if_ne (tgt := 27) hx hb dX8_lay_20 (by decide) (fun c6 => ?_) (fun c6 => ?_)
      · have h := g_if h c6
        refine lv_aload_n hx hb dX8_lay_27 rfl (lv_at hl 0 rfl) ?_
        refine lv_iload_n hx hb dX8_lay_28 rfl (lv_at hl 1 rfl) ?_
        refine lv_iload_n hx hb dX8_lay_29 rfl (lv_at hl 2 rfl) ?_
        obtain ⟨v7, e_v7, h⟩ := g_bind h
        refine g_calli (g_runV (n := 2) (As := [.int a1, .int a2]) (rest := []) C G (mX8_isFree l X σ t a1 a2 v7 ok e_v7) ok.1.2 (gE_8 ok.1.1) rfl (g_goodV u_ml_RX8_177 u_im_yX8_isFree u_se_yX8_isFree u_in_RX8 u_co_yX8_isFree) rfl rfl rfl (by decide +kernel) ⟨Nat.le_of_ble_eq_true rfl, Nat.le_of_ble_eq_true rfl⟩ rfl hl.1 rfl (Nat.le_of_ble_eq_true rfl) dX8_lay_30 ⟨Nat.zero_le _, Nat.zero_le _⟩) G (fun H locs G => ?_)
        refine lv_if_eq (tgt := 49) hx hb dX8_lay_33 (by decide) (fun c8 => ?_) (fun c8 => ?_)
        · have h := g_it h c8
          refine lv_sipush (v := (-1002)) hx hb dX8_lay_49 (by decide) ?_
          exact ret dX8_lay_52 rfl G (Prod.mk.inj (Option.some.inj h))
        · have h := g_if h c8
          refine lv_aload_n hx hb dX8_lay_36 rfl (lv_at hl 0 rfl) ?_
          refine gg8_0 C G ok.1 ok.2.1.1 u_fl_RX8_10 dX8_lay_37 ?_
          refine lv_iload_n hx hb dX8_lay_40 rfl (lv_at hl 1 rfl) ?_
          refine lv_iload_n hx hb dX8_lay_41 rfl (lv_at hl 2 rfl) ?_
          refine lv_iload_n hx hb dX8_lay_42 rfl (lv_at hl 3 rfl) ?_
          obtain ⟨v9, e_v9, h⟩ := g_bind h
          refine g_calli (g_runV (n := 3) (As := [.int a1, .int a2, .int a3]) (rest := []) C G (mX0_canLie l X σ (t + 1) a1 a2 a3 v9 ok.2.2.1 e_v9) ok.2.2.1.1.2 (gE_0 ok.2.2.1.1.1) rfl (g_goodV u_ml_RX8_181 u_im_yX0_canLie u_se_yX0_canLie u_in_RX0 u_co_yX0_canLie) rfl rfl rfl (by decide +kernel) ⟨Nat.le_of_ble_eq_true rfl, Nat.le_of_ble_eq_true rfl⟩ rfl hl.1 rfl (Nat.le_of_ble_eq_true rfl) dX8_lay_43 ⟨Nat.zero_le _, Nat.zero_le _⟩) G (fun H locs G => ?_)
          refine lv_if_ne (tgt := 53) hx hb dX8_lay_46 (by decide) (fun c10 => ?_) (fun c10 => ?_)
          · have h := g_if h c10
            refine lv_aload_n hx hb dX8_lay_53 rfl (lv_at hl 0 rfl) ?_
            refine gg8_2 C G ok.1 ok.2.1.2.2.1 u_fl_RX8_22 dX8_lay_54 ?_
            refine lv_aload_n hx hb dX8_lay_57 rfl (lv_at hl 0 rfl) ?_
            refine gg8_0 C G ok.1 ok.2.1.1 u_fl_RX8_10 dX8_lay_58 ?_
            obtain ⟨σ12, e_σ12, h⟩ := g_bind h
            refine g_callv (g_runV (n := 1) (As := [.ref (xN X + (t + 1))]) (rest := []) C G (mX3_keep l X σ σ12 (t + 31) (t + 1) ok.2.2.2.2.1 ok.2.2.1 e_σ12) ok.2.2.2.2.1.1.2 (gE_3 ok.2.2.2.2.1.1.1) rfl (g_goodV u_ml_RX8_55 u_im_yX3_keep u_se_yX3_keep u_in_RX3 u_co_yX3_keep) rfl rfl rfl (by decide +kernel) ⟨Nat.le_of_ble_eq_true rfl, Nat.le_of_ble_eq_true rfl⟩ rfl hl.1 rfl (Nat.le_of_ble_eq_true rfl) dX8_lay_61 ⟨Nat.zero_le _, Nat.zero_le _⟩) G (fun H locs G => ?_)
            refine lv_aload_n hx hb dX8_lay_64 rfl (lv_at hl 0 rfl) ?_
            refine gg8_0 C G ok.1 ok.2.1.1 u_fl_RX8_10 dX8_lay_65 ?_
            refine gn0_1 C G ok.2.2.1.1 ok.2.2.1.2.1.2 (List.mem_of_getElem? (i := 3) rfl) dX8_lay_68 ?_
            refine lv_iload_n hx hb dX8_lay_71 rfl (lv_at hl 1 rfl) ?_
            refine lv_iload_n hx hb dX8_lay_72 rfl (lv_at hl 2 rfl) ?_
            refine lv_iload_n hx hb dX8_lay_73 rfl (lv_at hl 3 rfl) ?_
            obtain ⟨σ14, e_σ14, h⟩ := g_bind h
            refine g_callv (g_runV (n := 3) (As := [.int a1, .int a2, .int a3]) (rest := []) C G (mX4_put l X σ12 σ14 ((t + 1) + 8) a1 a2 a3 ok.2.2.1.2.2.2 e_σ14) ok.2.2.1.2.2.2.1.2 (gE_4 ok.2.2.1.2.2.2.1.1) rfl (g_goodV u_ml_RX8_184 u_im_yX4_put u_se_yX4_put u_in_RX4 u_co_yX4_put) rfl rfl rfl (by decide +kernel) ⟨Nat.le_of_ble_eq_true rfl, Nat.le_of_ble_eq_true rfl⟩ rfl hl.1 rfl (Nat.le_of_ble_eq_true rfl) dX8_lay_74 ⟨Nat.zero_le _, Nat.zero_le _⟩) G (fun H locs G => ?_)
            refine lv_aload_n hx hb dX8_lay_77 rfl (lv_at hl 0 rfl) ?_
            refine gg8_0 C G ok.1 ok.2.1.1 u_fl_RX8_10 dX8_lay_78 ?_
            refine lv_iload_n hx hb dX8_lay_81 rfl (lv_at hl 1 rfl) ?_
            refine lv_iload_n hx hb dX8_lay_82 rfl (lv_at hl 2 rfl) ?_
            obtain ⟨v15, e_v15, h⟩ := g_bind h
            refine g_calli (g_runV (n := 2) (As := [.int a1, .int a2]) (rest := []) C G (mX0_seamsAt l X σ14 (t + 1) a1 a2 v15 ok.2.2.1 e_v15) ok.2.2.1.1.2 (gE_0 ok.2.2.1.1.1) rfl (g_goodV u_ml_RX8_187 u_im_yX0_seamsAt u_se_yX0_seamsAt u_in_RX0 u_co_yX0_seamsAt) rfl rfl rfl (by decide +kernel) ⟨Nat.le_of_ble_eq_true rfl, Nat.le_of_ble_eq_true rfl⟩ rfl hl.1 rfl (Nat.le_of_ble_eq_true rfl) dX8_lay_83 ⟨Nat.zero_le _, Nat.zero_le _⟩) G (fun H locs G => ?_)
            exact ret dX8_lay_86 rfl G (Prod.mk.inj (Option.some.inj h))
          · have h := g_it h c10
            refine lv_sipush (v := (-1002)) hx hb dX8_lay_49 (by decide) ?_
            exact ret dX8_lay_52 rfl G (Prod.mk.inj (Option.some.inj h))
      · have h := g_it h c6
        refine lv_sipush (v := (-1001)) hx hb dX8_lay_23 (by decide) ?_
        exact ret dX8_lay_26 rfl G (Prod.mk.inj (Option.some.inj h))

def fX8_force (σ : gM) (t : Nat) (a1 : Int32) (a2 : Int32) (a3 : Int32) : Option (Int32 × gM) :=
  ((fX8_isScrap σ t a1).bind fun v1 =>
  (if v1 = 0 then
    some ((-1001), σ)
  else
    ((fX8_isPlace σ t a2).bind fun v3 =>
    (if v3 = 0 then
      some ((-1001), σ)
    else
      ((fX8_isOrientation σ a3).bind fun v5 =>
      (if v5 = 0 then
        some ((-1001), σ)
      else
        ((fX8_isFree σ t a1 a2).bind fun v7 =>
        (if v7 = 0 then
          some ((-1002), σ)
        else
          ((fX3_keep σ (t + 31) (t + 1)).bind fun σ10 =>
          ((fX4_put σ10 ((t + 1) + 8) a1 a2 a3).bind fun σ12 =>
          ((fX0_countFaults σ12 (t + 1) a1).bind fun v13 =>
          some (v13, σ12))))))))))))
set_option maxHeartbeats 4000000 in
set_option maxRecDepth 100000 in
theorem mX8_force (l : Launch) (X : gX) (σ σ' : gM) (t : Nat) (a1 : Int32) (a2 : Int32) (a3 : Int32) (r : Int32) (ok : gok8 X t) (h : fX8_force σ t a1 a2 a3 = some (r, σ')) : Met l yX8_force (Cond.code yX8_force cX8_force 4 (some .int) :: gBig) ({ frames := 5, cells := 0, slots := 0, locals := 150 }) (gPc X σ [.ref (xN X + t), .int a1, .int a2, .int a3]) (gQi X σ' r) 0 0 (xA X) := by
  refine g_meti (cc := cX8_force) (maxL := 4) (own := RX8) (by decide) rfl rfl (Nat.le_of_ble_eq_true rfl) ?_
  intro p ev s m args below meth c Q C G ret ls hl
  obtain ⟨⟨hx, hb, hml, hown, hts⟩, hK⟩ := id C
  have hl : lv_has ls 4 [(0, .ref (xN X + t)), (1, .int a1), (2, .int a2), (3, .int a3)] := hl
  unfold fX8_force at h
  refine lv_aload_n hx hb dX8_force_0 rfl (lv_at hl 0 rfl) ?_
  refine lv_iload_n hx hb dX8_force_1 rfl (lv_at hl 1 rfl) ?_
  obtain ⟨v1, e_v1, h⟩ := g_bind h
  refine g_calli (g_runV (n := 1) (As := [.int a1]) (rest := []) C G (mX8_isScrap l X σ t a1 v1 ok e_v1) ok.1.2 (gE_8 ok.1.1) rfl (g_goodV u_ml_RX8_104 u_im_yX8_isScrap u_se_yX8_isScrap u_in_RX8 u_co_yX8_isScrap) rfl rfl rfl (by decide +kernel) ⟨Nat.le_of_ble_eq_true rfl, Nat.le_of_ble_eq_true rfl⟩ rfl hl.1 rfl (Nat.le_of_ble_eq_true rfl) dX8_force_2 ⟨Nat.zero_le _, Nat.zero_le _⟩) G (fun H locs G => ?_)
  refine lv_if_eq (tgt := 23) hx hb dX8_force_5 (by decide) (fun c2 => ?_) (fun c2 => ?_)
  · have h := g_it h c2
    refine lv_sipush (v := (-1001)) hx hb dX8_force_23 (by decide) ?_
    exact ret dX8_force_26 rfl G (Prod.mk.inj (Option.some.inj h))
  · have h := g_if h c2
    refine lv_aload_n hx hb dX8_force_8 rfl (lv_at hl 0 rfl) ?_
    refine lv_iload_n hx hb dX8_force_9 rfl (lv_at hl 2 rfl) ?_
    obtain ⟨v3, e_v3, h⟩ := g_bind h
    refine g_calli (g_runV (n := 1) (As := [.int a2]) (rest := []) C G (mX8_isPlace l X σ t a2 v3 ok e_v3) ok.1.2 (gE_8 ok.1.1) rfl (g_goodV u_ml_RX8_174 u_im_yX8_isPlace u_se_yX8_isPlace u_in_RX8 u_co_yX8_isPlace) rfl rfl rfl (by decide +kernel) ⟨Nat.le_of_ble_eq_true rfl, Nat.le_of_ble_eq_true rfl⟩ rfl hl.1 rfl (Nat.le_of_ble_eq_true rfl) dX8_force_10 ⟨Nat.zero_le _, Nat.zero_le _⟩) G (fun H locs G => ?_)
    refine lv_if_eq (tgt := 23) hx hb dX8_force_13 (by decide) (fun c4 => ?_) (fun c4 => ?_)
    · have h := g_it h c4
      refine lv_sipush (v := (-1001)) hx hb dX8_force_23 (by decide) ?_
      exact ret dX8_force_26 rfl G (Prod.mk.inj (Option.some.inj h))
    · have h := g_if h c4
      refine lv_iload_n hx hb dX8_force_16 rfl (lv_at hl 3 rfl) ?_
      obtain ⟨v5, e_v5, h⟩ := g_bind h
      refine g_calli (g_runS (n := 1) (As := [.int a3]) (rest := []) C G (mX8_isOrientation l X σ a3 v5 e_v5) (g_goodS u_ml_RX8_135 u_st_yX8_isOrientation u_in_RX8 u_co_yX8_isOrientation) rfl rfl rfl (by decide +kernel) ⟨Nat.le_of_ble_eq_true rfl, Nat.le_of_ble_eq_true rfl⟩ rfl hl.1 rfl (Nat.le_of_ble_eq_true rfl) dX8_force_17 ⟨Nat.zero_le _, Nat.zero_le _⟩) G (fun H locs G => ?_)
      refine lv_if_ne (tgt := 27) hx hb dX8_force_20 (by decide) (fun c6 => ?_) (fun c6 => ?_)
      · have h := g_if h c6
        refine lv_aload_n hx hb dX8_force_27 rfl (lv_at hl 0 rfl) ?_
        refine lv_iload_n hx hb dX8_force_28 rfl (lv_at hl 1 rfl) ?_
        refine lv_iload_n hx hb dX8_force_29 rfl (lv_at hl 2 rfl) ?_
        obtain ⟨v7, e_v7, h⟩ := g_bind h
        refine g_calli (g_runV (n := 2) (As := [.int a1, .int a2]) (rest := []) C G (mX8_isFree l X σ t a1 a2 v7 ok e_v7) ok.1.2 (gE_8 ok.1.1) rfl (g_goodV u_ml_RX8_177 u_im_yX8_isFree u_se_yX8_isFree u_in_RX8 u_co_yX8_isFree) rfl rfl rfl (by decide +kernel) ⟨Nat.le_of_ble_eq_true rfl, Nat.le_of_ble_eq_true rfl⟩ rfl hl.1 rfl (Nat.le_of_ble_eq_true rfl) dX8_force_30 ⟨Nat.zero_le _, Nat.zero_le _⟩) G (fun H locs G => ?_)
        refine lv_if_ne (tgt := 40) hx hb dX8_force_33 (by decide) (fun c8 => ?_) (fun c8 => ?_)
        · have h := g_if h c8
          refine lv_aload_n hx hb dX8_force_40 rfl (lv_at hl 0 rfl) ?_
          refine gg8_2 C G ok.1 ok.2.1.2.2.1 u_fl_RX8_22 dX8_force_41 ?_
          refine lv_aload_n hx hb dX8_force_44 rfl (lv_at hl 0 rfl) ?_
          refine gg8_0 C G ok.1 ok.2.1.1 u_fl_RX8_10 dX8_force_45 ?_
          obtain ⟨σ10, e_σ10, h⟩ := g_bind h
          refine g_callv (g_runV (n := 1) (As := [.ref (xN X + (t + 1))]) (rest := []) C G (mX3_keep l X σ σ10 (t + 31) (t + 1) ok.2.2.2.2.1 ok.2.2.1 e_σ10) ok.2.2.2.2.1.1.2 (gE_3 ok.2.2.2.2.1.1.1) rfl (g_goodV u_ml_RX8_55 u_im_yX3_keep u_se_yX3_keep u_in_RX3 u_co_yX3_keep) rfl rfl rfl (by decide +kernel) ⟨Nat.le_of_ble_eq_true rfl, Nat.le_of_ble_eq_true rfl⟩ rfl hl.1 rfl (Nat.le_of_ble_eq_true rfl) dX8_force_48 ⟨Nat.zero_le _, Nat.zero_le _⟩) G (fun H locs G => ?_)
          refine lv_aload_n hx hb dX8_force_51 rfl (lv_at hl 0 rfl) ?_
          refine gg8_0 C G ok.1 ok.2.1.1 u_fl_RX8_10 dX8_force_52 ?_
          refine gn0_1 C G ok.2.2.1.1 ok.2.2.1.2.1.2 (List.mem_of_getElem? (i := 3) rfl) dX8_force_55 ?_
          refine lv_iload_n hx hb dX8_force_58 rfl (lv_at hl 1 rfl) ?_
          refine lv_iload_n hx hb dX8_force_59 rfl (lv_at hl 2 rfl) ?_
          refine lv_iload_n hx hb dX8_force_60 rfl (lv_at hl 3 rfl) ?_
          obtain ⟨σ12, e_σ12, h⟩ := g_bind h
          refine g_callv (g_runV (n := 3) (As := [.int a1, .int a2, .int a3]) (rest := []) C G (mX4_put l X σ10 σ12 ((t + 1) + 8) a1 a2 a3 ok.2.2.1.2.2.2 e_σ12) ok.2.2.1.2.2.2.1.2 (gE_4 ok.2.2.1.2.2.2.1.1) rfl (g_goodV u_ml_RX8_184 u_im_yX4_put u_se_yX4_put u_in_RX4 u_co_yX4_put) rfl rfl rfl (by decide +kernel) ⟨Nat.le_of_ble_eq_true rfl, Nat.le_of_ble_eq_true rfl⟩ rfl hl.1 rfl (Nat.le_of_ble_eq_true rfl) dX8_force_61 ⟨Nat.zero_le _, Nat.zero_le _⟩) G (fun H locs G => ?_)
          refine lv_aload_n hx hb dX8_force_64 rfl (lv_at hl 0 rfl) ?_
          refine gg8_0 C G ok.1 ok.2.1.1 u_fl_RX8_10 dX8_force_65 ?_
          refine lv_iload_n hx hb dX8_force_68 rfl (lv_at hl 1 rfl) ?_
          obtain ⟨v13, e_v13, h⟩ := g_bind h
          refine g_calli (g_runV (n := 1) (As := [.int a1]) (rest := []) C G (mX0_countFaults l X σ12 (t + 1) a1 v13 ok.2.2.1 e_v13) ok.2.2.1.1.2 (gE_0 ok.2.2.1.1.1) rfl (g_goodV u_ml_RX8_132 u_im_yX0_countFaults u_se_yX0_countFaults u_in_RX0 u_co_yX0_countFaults) rfl rfl rfl (by decide +kernel) ⟨Nat.le_of_ble_eq_true rfl, Nat.le_of_ble_eq_true rfl⟩ rfl hl.1 rfl (Nat.le_of_ble_eq_true rfl) dX8_force_69 ⟨Nat.zero_le _, Nat.zero_le _⟩) G (fun H locs G => ?_)
          exact ret dX8_force_72 rfl G (Prod.mk.inj (Option.some.inj h))
        · have h := g_it h c8
          refine lv_sipush (v := (-1002)) hx hb dX8_force_36 (by decide) ?_
          exact ret dX8_force_39 rfl G (Prod.mk.inj (Option.some.inj h))
      · have h := g_it h c6
        refine lv_sipush (v := (-1001)) hx hb dX8_force_23 (by decide) ?_
        exact ret dX8_force_26 rfl G (Prod.mk.inj (Option.some.inj h))

def fX4_take (σ : gM) (t : Nat) (a1 : Int32) : Option (gM) :=
  ((fX5_get σ (t + 1) a1).bind fun v1 =>
  ((fX5_set σ (t + 5) v1 (-1)).bind fun σ3 =>
  ((fX5_set σ3 (t + 1) a1 (-1)).bind fun σ5 =>
  ((fX5_set σ5 (t + 3) a1 0).bind fun σ7 =>
  some σ7))))
set_option maxHeartbeats 4000000 in
set_option maxRecDepth 100000 in
theorem mX4_take (l : Launch) (X : gX) (σ σ' : gM) (t : Nat) (a1 : Int32) (ok : gok4 X t) (h : fX4_take σ t a1 = some σ') : Met l yX4_take (Cond.code yX4_take cX4_take 2 none :: gBig) ({ frames := 1, cells := 0, slots := 0, locals := 22 }) (gPc X σ [.ref (xN X + t), .int a1]) (gQv X σ') 0 0 (xA X) := by
  refine g_metv (cc := cX4_take) (maxL := 2) (own := RX4) (by decide) rfl rfl (Nat.le_of_ble_eq_true rfl) ?_
  intro p ev s m args below meth c Q C G ret ls hl
  obtain ⟨⟨hx, hb, hml, hown, hts⟩, hK⟩ := id C
  have hl : lv_has ls 2 [(0, .ref (xN X + t)), (1, .int a1)] := hl
  unfold fX4_take at h
  refine lv_aload_n hx hb dX4_take_0 rfl (lv_at hl 0 rfl) ?_
  refine gg4_2 C G ok.1 ok.2.1.2.2 u_fl_RX4_23 dX4_take_1 ?_
  refine lv_aload_n hx hb dX4_take_4 rfl (lv_at hl 0 rfl) ?_
  refine gg4_0 C G ok.1 ok.2.1.1 u_fl_RX4_14 dX4_take_5 ?_
  refine lv_iload_n hx hb dX4_take_8 rfl (lv_at hl 1 rfl) ?_
  obtain ⟨v1, e_v1, h⟩ := g_bind h
  refine g_calli (g_runV (n := 1) (As := [.int a1]) (rest := [.ref (xN X + (t + 5))]) C G (mX5_get l X σ (t + 1) a1 v1 ok.2.2.1 e_v1) ok.2.2.1.1.2 (gE_5 ok.2.2.1.1.1) rfl (g_goodV u_ml_RX4_37 u_im_yX5_get u_se_yX5_get u_in_RX5 u_co_yX5_get) rfl rfl rfl (by decide +kernel) ⟨Nat.le_of_ble_eq_true rfl, Nat.le_of_ble_eq_true rfl⟩ rfl hl.1 rfl (Nat.le_of_ble_eq_true rfl) dX4_take_9 ⟨Nat.zero_le _, Nat.zero_le _⟩) G (fun H locs G => ?_)
  refine lv_iconst (v := (-1)) hx hb dX4_take_12 (by decide) ?_
  obtain ⟨σ3, e_σ3, h⟩ := g_bind h
  refine g_callv (g_runV (n := 2) (As := [.int v1, .int (-1)]) (rest := []) C G (mX5_set l X σ σ3 (t + 5) v1 (-1) ok.2.2.2.2 e_σ3) ok.2.2.2.2.1.2 (gE_5 ok.2.2.2.2.1.1) rfl (g_goodV u_ml_RX4_44 u_im_yX5_set u_se_yX5_set u_in_RX5 u_co_yX5_set) rfl rfl rfl (by decide +kernel) ⟨Nat.le_of_ble_eq_true rfl, Nat.le_of_ble_eq_true rfl⟩ rfl hl.1 rfl (Nat.le_of_ble_eq_true rfl) dX4_take_13 ⟨Nat.zero_le _, Nat.zero_le _⟩) G (fun H locs G => ?_)
  refine lv_aload_n hx hb dX4_take_16 rfl (lv_at hl 0 rfl) ?_
  refine gg4_0 C G ok.1 ok.2.1.1 u_fl_RX4_14 dX4_take_17 ?_
  refine lv_iload_n hx hb dX4_take_20 rfl (lv_at hl 1 rfl) ?_
  refine lv_iconst (v := (-1)) hx hb dX4_take_21 (by decide) ?_
  obtain ⟨σ5, e_σ5, h⟩ := g_bind h
  refine g_callv (g_runV (n := 2) (As := [.int a1, .int (-1)]) (rest := []) C G (mX5_set l X σ3 σ5 (t + 1) a1 (-1) ok.2.2.1 e_σ5) ok.2.2.1.1.2 (gE_5 ok.2.2.1.1.1) rfl (g_goodV u_ml_RX4_44 u_im_yX5_set u_se_yX5_set u_in_RX5 u_co_yX5_set) rfl rfl rfl (by decide +kernel) ⟨Nat.le_of_ble_eq_true rfl, Nat.le_of_ble_eq_true rfl⟩ rfl hl.1 rfl (Nat.le_of_ble_eq_true rfl) dX4_take_22 ⟨Nat.zero_le _, Nat.zero_le _⟩) G (fun H locs G => ?_)
  refine lv_aload_n hx hb dX4_take_25 rfl (lv_at hl 0 rfl) ?_
  refine gg4_1 C G ok.1 ok.2.1.2.1 u_fl_RX4_20 dX4_take_26 ?_
  refine lv_iload_n hx hb dX4_take_29 rfl (lv_at hl 1 rfl) ?_
  refine lv_iconst (v := 0) hx hb dX4_take_30 (by decide) ?_
  obtain ⟨σ7, e_σ7, h⟩ := g_bind h
  refine g_callv (g_runV (n := 2) (As := [.int a1, .int 0]) (rest := []) C G (mX5_set l X σ5 σ7 (t + 3) a1 0 ok.2.2.2.1 e_σ7) ok.2.2.2.1.1.2 (gE_5 ok.2.2.2.1.1.1) rfl (g_goodV u_ml_RX4_44 u_im_yX5_set u_se_yX5_set u_in_RX5 u_co_yX5_set) rfl rfl rfl (by decide +kernel) ⟨Nat.le_of_ble_eq_true rfl, Nat.le_of_ble_eq_true rfl⟩ rfl hl.1 rfl (Nat.le_of_ble_eq_true rfl) dX4_take_31 ⟨Nat.zero_le _, Nat.zero_le _⟩) G (fun H locs G => ?_)
  exact ret dX4_take_34 G (Option.some.inj h)

def fX8_lift (σ : gM) (t : Nat) (a1 : Int32) : Option (Int32 × gM) :=
  ((fX8_isScrap σ t a1).bind fun v1 =>
  (if v1 = 0 then
    some ((-1001), σ)
  else
    ((fX4_lies σ ((t + 1) + 8) a1).bind fun v3 =>
    (if v3 = 0 then
      some ((-1002), σ)
    else
      ((fX3_keep σ (t + 31) (t + 1)).bind fun σ6 =>
      ((fX4_placeOf σ6 ((t + 1) + 8) a1).bind fun v7 =>
      ((fX4_take σ6 ((t + 1) + 8) a1).bind fun σ9 =>
      some (v7, σ9))))))))
set_option maxHeartbeats 4000000 in
set_option maxRecDepth 100000 in
theorem mX8_lift (l : Launch) (X : gX) (σ σ' : gM) (t : Nat) (a1 : Int32) (r : Int32) (ok : gok8 X t) (h : fX8_lift σ t a1 = some (r, σ')) : Met l yX8_lift (Cond.code yX8_lift cX8_lift 3 (some .int) :: gBig) ({ frames := 5, cells := 0, slots := 0, locals := 150 }) (gPc X σ [.ref (xN X + t), .int a1]) (gQi X σ' r) 0 0 (xA X) := by
  refine g_meti (cc := cX8_lift) (maxL := 3) (own := RX8) (by decide) rfl rfl (Nat.le_of_ble_eq_true rfl) ?_
  intro p ev s m args below meth c Q C G ret ls hl
  obtain ⟨⟨hx, hb, hml, hown, hts⟩, hK⟩ := id C
  have hl : lv_has ls 3 [(0, .ref (xN X + t)), (1, .int a1)] := hl
  unfold fX8_lift at h
  refine lv_aload_n hx hb dX8_lift_0 rfl (lv_at hl 0 rfl) ?_
  refine lv_iload_n hx hb dX8_lift_1 rfl (lv_at hl 1 rfl) ?_
  obtain ⟨v1, e_v1, h⟩ := g_bind h
  refine g_calli (g_runV (n := 1) (As := [.int a1]) (rest := []) C G (mX8_isScrap l X σ t a1 v1 ok e_v1) ok.1.2 (gE_8 ok.1.1) rfl (g_goodV u_ml_RX8_104 u_im_yX8_isScrap u_se_yX8_isScrap u_in_RX8 u_co_yX8_isScrap) rfl rfl rfl (by decide +kernel) ⟨Nat.le_of_ble_eq_true rfl, Nat.le_of_ble_eq_true rfl⟩ rfl hl.1 rfl (Nat.le_of_ble_eq_true rfl) dX8_lift_2 ⟨Nat.zero_le _, Nat.zero_le _⟩) G (fun H locs G => ?_)
  refine lv_if_ne (tgt := 12) hx hb dX8_lift_5 (by decide) (fun c2 => ?_) (fun c2 => ?_)
  · have h := g_if h c2
    refine lv_aload_n hx hb dX8_lift_12 rfl (lv_at hl 0 rfl) ?_
    refine gg8_0 C G ok.1 ok.2.1.1 u_fl_RX8_10 dX8_lift_13 ?_
    refine gn0_1 C G ok.2.2.1.1 ok.2.2.1.2.1.2 (List.mem_of_getElem? (i := 3) rfl) dX8_lift_16 ?_
    refine lv_iload_n hx hb dX8_lift_19 rfl (lv_at hl 1 rfl) ?_
    obtain ⟨v3, e_v3, h⟩ := g_bind h
    refine g_calli (g_runV (n := 1) (As := [.int a1]) (rest := []) C G (mX4_lies l X σ ((t + 1) + 8) a1 v3 ok.2.2.1.2.2.2 e_v3) ok.2.2.1.2.2.2.1.2 (gE_4 ok.2.2.1.2.2.2.1.1) rfl (g_goodV u_ml_RX8_110 u_im_yX4_lies u_se_yX4_lies u_in_RX4 u_co_yX4_lies) rfl rfl rfl (by decide +kernel) ⟨Nat.le_of_ble_eq_true rfl, Nat.le_of_ble_eq_true rfl⟩ rfl hl.1 rfl (Nat.le_of_ble_eq_true rfl) dX8_lift_20 ⟨Nat.zero_le _, Nat.zero_le _⟩) G (fun H locs G => ?_)
    refine lv_if_ne (tgt := 30) hx hb dX8_lift_23 (by decide) (fun c4 => ?_) (fun c4 => ?_)
    · have h := g_if h c4
      refine lv_aload_n hx hb dX8_lift_30 rfl (lv_at hl 0 rfl) ?_
      refine gg8_2 C G ok.1 ok.2.1.2.2.1 u_fl_RX8_22 dX8_lift_31 ?_
      refine lv_aload_n hx hb dX8_lift_34 rfl (lv_at hl 0 rfl) ?_
      refine gg8_0 C G ok.1 ok.2.1.1 u_fl_RX8_10 dX8_lift_35 ?_
      obtain ⟨σ6, e_σ6, h⟩ := g_bind h
      refine g_callv (g_runV (n := 1) (As := [.ref (xN X + (t + 1))]) (rest := []) C G (mX3_keep l X σ σ6 (t + 31) (t + 1) ok.2.2.2.2.1 ok.2.2.1 e_σ6) ok.2.2.2.2.1.1.2 (gE_3 ok.2.2.2.2.1.1.1) rfl (g_goodV u_ml_RX8_55 u_im_yX3_keep u_se_yX3_keep u_in_RX3 u_co_yX3_keep) rfl rfl rfl (by decide +kernel) ⟨Nat.le_of_ble_eq_true rfl, Nat.le_of_ble_eq_true rfl⟩ rfl hl.1 rfl (Nat.le_of_ble_eq_true rfl) dX8_lift_38 ⟨Nat.zero_le _, Nat.zero_le _⟩) G (fun H locs G => ?_)
      refine lv_aload_n hx hb dX8_lift_41 rfl (lv_at hl 0 rfl) ?_
      refine gg8_0 C G ok.1 ok.2.1.1 u_fl_RX8_10 dX8_lift_42 ?_
      refine gn0_1 C G ok.2.2.1.1 ok.2.2.1.2.1.2 (List.mem_of_getElem? (i := 3) rfl) dX8_lift_45 ?_
      refine lv_iload_n hx hb dX8_lift_48 rfl (lv_at hl 1 rfl) ?_
      obtain ⟨v7, e_v7, h⟩ := g_bind h
      refine g_calli (g_runV (n := 1) (As := [.int a1]) (rest := []) C G (mX4_placeOf l X σ6 ((t + 1) + 8) a1 v7 ok.2.2.1.2.2.2 e_v7) ok.2.2.1.2.2.2.1.2 (gE_4 ok.2.2.1.2.2.2.1.1) rfl (g_goodV u_ml_RX8_120 u_im_yX4_placeOf u_se_yX4_placeOf u_in_RX4 u_co_yX4_placeOf) rfl rfl rfl (by decide +kernel) ⟨Nat.le_of_ble_eq_true rfl, Nat.le_of_ble_eq_true rfl⟩ rfl hl.1 rfl (Nat.le_of_ble_eq_true rfl) dX8_lift_49 ⟨Nat.zero_le _, Nat.zero_le _⟩) G (fun H locs G => ?_)
      refine lv_istore_n (lv' := [(2, .int v7), (0, .ref (xN X + t)), (1, .int a1)]) hx hb dX8_lift_52 rfl hl (by decide) rfl (fun ls hl => ?_)
      refine lv_aload_n hx hb dX8_lift_53 rfl (lv_at hl 1 rfl) ?_
      refine gg8_0 C G ok.1 ok.2.1.1 u_fl_RX8_10 dX8_lift_54 ?_
      refine gn0_1 C G ok.2.2.1.1 ok.2.2.1.2.1.2 (List.mem_of_getElem? (i := 3) rfl) dX8_lift_57 ?_
      refine lv_iload_n hx hb dX8_lift_60 rfl (lv_at hl 2 rfl) ?_
      obtain ⟨σ9, e_σ9, h⟩ := g_bind h
      refine g_callv (g_runV (n := 1) (As := [.int a1]) (rest := []) C G (mX4_take l X σ6 σ9 ((t + 1) + 8) a1 ok.2.2.1.2.2.2 e_σ9) ok.2.2.1.2.2.2.1.2 (gE_4 ok.2.2.1.2.2.2.1.1) rfl (g_goodV u_ml_RX8_191 u_im_yX4_take u_se_yX4_take u_in_RX4 u_co_yX4_take) rfl rfl rfl (by decide +kernel) ⟨Nat.le_of_ble_eq_true rfl, Nat.le_of_ble_eq_true rfl⟩ rfl hl.1 rfl (Nat.le_of_ble_eq_true rfl) dX8_lift_61 ⟨Nat.zero_le _, Nat.zero_le _⟩) G (fun H locs G => ?_)
      refine lv_iload_n hx hb dX8_lift_64 rfl (lv_at hl 0 rfl) ?_
      exact ret dX8_lift_65 rfl G (Prod.mk.inj (Option.some.inj h))
    · have h := g_it h c4
      refine lv_sipush (v := (-1002)) hx hb dX8_lift_26 (by decide) ?_
      exact ret dX8_lift_29 rfl G (Prod.mk.inj (Option.some.inj h))
  · have h := g_it h c2
    refine lv_sipush (v := (-1001)) hx hb dX8_lift_8 (by decide) ?_
    exact ret dX8_lift_11 rfl G (Prod.mk.inj (Option.some.inj h))

def fX8_turn (σ : gM) (t : Nat) (a1 : Int32) (a2 : Int32) : Option (Int32 × gM) :=
  ((fX8_isScrap σ t a1).bind fun v1 =>
  (if v1 = 0 then
    some ((-1001), σ)
  else
    ((fX8_isOrientation σ a2).bind fun v3 =>
    (if v3 = 0 then
      some ((-1001), σ)
    else
      ((fX4_lies σ ((t + 1) + 8) a1).bind fun v5 =>
      (if v5 = 0 then
        some ((-1002), σ)
      else
        ((fX3_keep σ (t + 31) (t + 1)).bind fun σ8 =>
        ((fX4_placeOf σ8 ((t + 1) + 8) a1).bind fun v9 =>
        ((fX4_put σ8 ((t + 1) + 8) a1 v9 a2).bind fun σ11 =>
        ((fX0_countFaults σ11 (t + 1) a1).bind fun v12 =>
        some (v12, σ11)))))))))))
set_option maxHeartbeats 4000000 in
set_option maxRecDepth 100000 in
theorem mX8_turn (l : Launch) (X : gX) (σ σ' : gM) (t : Nat) (a1 : Int32) (a2 : Int32) (r : Int32) (ok : gok8 X t) (h : fX8_turn σ t a1 a2 = some (r, σ')) : Met l yX8_turn (Cond.code yX8_turn cX8_turn 3 (some .int) :: gBig) ({ frames := 5, cells := 0, slots := 0, locals := 150 }) (gPc X σ [.ref (xN X + t), .int a1, .int a2]) (gQi X σ' r) 0 0 (xA X) := by
  refine g_meti (cc := cX8_turn) (maxL := 3) (own := RX8) (by decide) rfl rfl (Nat.le_of_ble_eq_true rfl) ?_
  intro p ev s m args below meth c Q C G ret ls hl
  obtain ⟨⟨hx, hb, hml, hown, hts⟩, hK⟩ := id C
  have hl : lv_has ls 3 [(0, .ref (xN X + t)), (1, .int a1), (2, .int a2)] := hl
  unfold fX8_turn at h
  refine lv_aload_n hx hb dX8_turn_0 rfl (lv_at hl 0 rfl) ?_
  refine lv_iload_n hx hb dX8_turn_1 rfl (lv_at hl 1 rfl) ?_
  obtain ⟨v1, e_v1, h⟩ := g_bind h
  refine g_calli (g_runV (n := 1) (As := [.int a1]) (rest := []) C G (mX8_isScrap l X σ t a1 v1 ok e_v1) ok.1.2 (gE_8 ok.1.1) rfl (g_goodV u_ml_RX8_104 u_im_yX8_isScrap u_se_yX8_isScrap u_in_RX8 u_co_yX8_isScrap) rfl rfl rfl (by decide +kernel) ⟨Nat.le_of_ble_eq_true rfl, Nat.le_of_ble_eq_true rfl⟩ rfl hl.1 rfl (Nat.le_of_ble_eq_true rfl) dX8_turn_2 ⟨Nat.zero_le _, Nat.zero_le _⟩) G (fun H locs G => ?_)
  refine lv_if_eq (tgt := 15) hx hb dX8_turn_5 (by decide) (fun c2 => ?_) (fun c2 => ?_)
  · have h := g_it h c2
    refine lv_sipush (v := (-1001)) hx hb dX8_turn_15 (by decide) ?_
    exact ret dX8_turn_18 rfl G (Prod.mk.inj (Option.some.inj h))
  · have h := g_if h c2
    refine lv_iload_n hx hb dX8_turn_8 rfl (lv_at hl 2 rfl) ?_
    obtain ⟨v3, e_v3, h⟩ := g_bind h
    refine g_calli (g_runS (n := 1) (As := [.int a2]) (rest := []) C G (mX8_isOrientation l X σ a2 v3 e_v3) (g_goodS u_ml_RX8_135 u_st_yX8_isOrientation u_in_RX8 u_co_yX8_isOrientation) rfl rfl rfl (by decide +kernel) ⟨Nat.le_of_ble_eq_true rfl, Nat.le_of_ble_eq_true rfl⟩ rfl hl.1 rfl (Nat.le_of_ble_eq_true rfl) dX8_turn_9 ⟨Nat.zero_le _, Nat.zero_le _⟩) G (fun H locs G => ?_)
    refine lv_if_ne (tgt := 19) hx hb dX8_turn_12 (by decide) (fun c4 => ?_) (fun c4 => ?_)
    · have h := g_if h c4
      refine lv_aload_n hx hb dX8_turn_19 rfl (lv_at hl 0 rfl) ?_
      refine gg8_0 C G ok.1 ok.2.1.1 u_fl_RX8_10 dX8_turn_20 ?_
      refine gn0_1 C G ok.2.2.1.1 ok.2.2.1.2.1.2 (List.mem_of_getElem? (i := 3) rfl) dX8_turn_23 ?_
      refine lv_iload_n hx hb dX8_turn_26 rfl (lv_at hl 1 rfl) ?_
      obtain ⟨v5, e_v5, h⟩ := g_bind h
      refine g_calli (g_runV (n := 1) (As := [.int a1]) (rest := []) C G (mX4_lies l X σ ((t + 1) + 8) a1 v5 ok.2.2.1.2.2.2 e_v5) ok.2.2.1.2.2.2.1.2 (gE_4 ok.2.2.1.2.2.2.1.1) rfl (g_goodV u_ml_RX8_110 u_im_yX4_lies u_se_yX4_lies u_in_RX4 u_co_yX4_lies) rfl rfl rfl (by decide +kernel) ⟨Nat.le_of_ble_eq_true rfl, Nat.le_of_ble_eq_true rfl⟩ rfl hl.1 rfl (Nat.le_of_ble_eq_true rfl) dX8_turn_27 ⟨Nat.zero_le _, Nat.zero_le _⟩) G (fun H locs G => ?_)
      refine lv_if_ne (tgt := 37) hx hb dX8_turn_30 (by decide) (fun c6 => ?_) (fun c6 => ?_)
      · have h := g_if h c6
        refine lv_aload_n hx hb dX8_turn_37 rfl (lv_at hl 0 rfl) ?_
        refine gg8_2 C G ok.1 ok.2.1.2.2.1 u_fl_RX8_22 dX8_turn_38 ?_
        refine lv_aload_n hx hb dX8_turn_41 rfl (lv_at hl 0 rfl) ?_
        refine gg8_0 C G ok.1 ok.2.1.1 u_fl_RX8_10 dX8_turn_42 ?_
        obtain ⟨σ8, e_σ8, h⟩ := g_bind h
        refine g_callv (g_runV (n := 1) (As := [.ref (xN X + (t + 1))]) (rest := []) C G (mX3_keep l X σ σ8 (t + 31) (t + 1) ok.2.2.2.2.1 ok.2.2.1 e_σ8) ok.2.2.2.2.1.1.2 (gE_3 ok.2.2.2.2.1.1.1) rfl (g_goodV u_ml_RX8_55 u_im_yX3_keep u_se_yX3_keep u_in_RX3 u_co_yX3_keep) rfl rfl rfl (by decide +kernel) ⟨Nat.le_of_ble_eq_true rfl, Nat.le_of_ble_eq_true rfl⟩ rfl hl.1 rfl (Nat.le_of_ble_eq_true rfl) dX8_turn_45 ⟨Nat.zero_le _, Nat.zero_le _⟩) G (fun H locs G => ?_)
        refine lv_aload_n hx hb dX8_turn_48 rfl (lv_at hl 0 rfl) ?_
        refine gg8_0 C G ok.1 ok.2.1.1 u_fl_RX8_10 dX8_turn_49 ?_
        refine gn0_1 C G ok.2.2.1.1 ok.2.2.1.2.1.2 (List.mem_of_getElem? (i := 3) rfl) dX8_turn_52 ?_
        refine lv_iload_n hx hb dX8_turn_55 rfl (lv_at hl 1 rfl) ?_
        refine lv_aload_n hx hb dX8_turn_56 rfl (lv_at hl 0 rfl) ?_
        refine gg8_0 C G ok.1 ok.2.1.1 u_fl_RX8_10 dX8_turn_57 ?_
        refine gn0_1 C G ok.2.2.1.1 ok.2.2.1.2.1.2 (List.mem_of_getElem? (i := 3) rfl) dX8_turn_60 ?_
        refine lv_iload_n hx hb dX8_turn_63 rfl (lv_at hl 1 rfl) ?_
        obtain ⟨v9, e_v9, h⟩ := g_bind h
        refine g_calli (g_runV (n := 1) (As := [.int a1]) (rest := [.int a1, .ref (xN X + ((t + 1) + 8))]) C G (mX4_placeOf l X σ8 ((t + 1) + 8) a1 v9 ok.2.2.1.2.2.2 e_v9) ok.2.2.1.2.2.2.1.2 (gE_4 ok.2.2.1.2.2.2.1.1) rfl (g_goodV u_ml_RX8_120 u_im_yX4_placeOf u_se_yX4_placeOf u_in_RX4 u_co_yX4_placeOf) rfl rfl rfl (by decide +kernel) ⟨Nat.le_of_ble_eq_true rfl, Nat.le_of_ble_eq_true rfl⟩ rfl hl.1 rfl (Nat.le_of_ble_eq_true rfl) dX8_turn_64 ⟨Nat.zero_le _, Nat.zero_le _⟩) G (fun H locs G => ?_)
        refine lv_iload_n hx hb dX8_turn_67 rfl (lv_at hl 2 rfl) ?_
        obtain ⟨σ11, e_σ11, h⟩ := g_bind h
        refine g_callv (g_runV (n := 3) (As := [.int a1, .int v9, .int a2]) (rest := []) C G (mX4_put l X σ8 σ11 ((t + 1) + 8) a1 v9 a2 ok.2.2.1.2.2.2 e_σ11) ok.2.2.1.2.2.2.1.2 (gE_4 ok.2.2.1.2.2.2.1.1) rfl (g_goodV u_ml_RX8_184 u_im_yX4_put u_se_yX4_put u_in_RX4 u_co_yX4_put) rfl rfl rfl (by decide +kernel) ⟨Nat.le_of_ble_eq_true rfl, Nat.le_of_ble_eq_true rfl⟩ rfl hl.1 rfl (Nat.le_of_ble_eq_true rfl) dX8_turn_68 ⟨Nat.zero_le _, Nat.zero_le _⟩) G (fun H locs G => ?_)
        refine lv_aload_n hx hb dX8_turn_71 rfl (lv_at hl 0 rfl) ?_
        refine gg8_0 C G ok.1 ok.2.1.1 u_fl_RX8_10 dX8_turn_72 ?_
        refine lv_iload_n hx hb dX8_turn_75 rfl (lv_at hl 1 rfl) ?_
        obtain ⟨v12, e_v12, h⟩ := g_bind h
        refine g_calli (g_runV (n := 1) (As := [.int a1]) (rest := []) C G (mX0_countFaults l X σ11 (t + 1) a1 v12 ok.2.2.1 e_v12) ok.2.2.1.1.2 (gE_0 ok.2.2.1.1.1) rfl (g_goodV u_ml_RX8_132 u_im_yX0_countFaults u_se_yX0_countFaults u_in_RX0 u_co_yX0_countFaults) rfl rfl rfl (by decide +kernel) ⟨Nat.le_of_ble_eq_true rfl, Nat.le_of_ble_eq_true rfl⟩ rfl hl.1 rfl (Nat.le_of_ble_eq_true rfl) dX8_turn_76 ⟨Nat.zero_le _, Nat.zero_le _⟩) G (fun H locs G => ?_)
        exact ret dX8_turn_79 rfl G (Prod.mk.inj (Option.some.inj h))
      · have h := g_it h c6
        refine lv_sipush (v := (-1002)) hx hb dX8_turn_33 (by decide) ?_
        exact ret dX8_turn_36 rfl G (Prod.mk.inj (Option.some.inj h))
    · have h := g_it h c4
      refine lv_sipush (v := (-1001)) hx hb dX8_turn_15 (by decide) ?_
      exact ret dX8_turn_18 rfl G (Prod.mk.inj (Option.some.inj h))

def fX8_at (σ : gM) (t : Nat) (a1 : Int32) : Option (Int32) :=
  ((fX8_isPlace σ t a1).bind fun v1 =>
  (if v1 = 0 then
    some (-1001)
  else
    ((fX4_scrapAt σ ((t + 1) + 8) a1).bind fun v3 =>
    (if v3 = (-1) then
      some (-1004)
    else
      some v3))))
set_option maxHeartbeats 4000000 in
set_option maxRecDepth 100000 in
theorem mX8_at (l : Launch) (X : gX) (σ : gM) (t : Nat) (a1 : Int32) (r : Int32) (ok : gok8 X t) (h : fX8_at σ t a1 = some r) : Met l yX8_at (Cond.code yX8_at cX8_at 3 (some .int) :: gBig) ({ frames := 2, cells := 0, slots := 0, locals := 43 }) (gPc X σ [.ref (xN X + t), .int a1]) (gQi X σ r) 0 0 (xA X) := by
  refine g_meti (cc := cX8_at) (maxL := 3) (own := RX8) (by decide) rfl rfl (Nat.le_of_ble_eq_true rfl) ?_
  intro p ev s m args below meth c Q C G ret ls hl
  obtain ⟨⟨hx, hb, hml, hown, hts⟩, hK⟩ := id C
  have hl : lv_has ls 3 [(0, .ref (xN X + t)), (1, .int a1)] := hl
  unfold fX8_at at h
  refine lv_aload_n hx hb dX8_at_0 rfl (lv_at hl 0 rfl) ?_
  refine lv_iload_n hx hb dX8_at_1 rfl (lv_at hl 1 rfl) ?_
  obtain ⟨v1, e_v1, h⟩ := g_bind h
  refine g_calli (g_runV (n := 1) (As := [.int a1]) (rest := []) C G (mX8_isPlace l X σ t a1 v1 ok e_v1) ok.1.2 (gE_8 ok.1.1) rfl (g_goodV u_ml_RX8_174 u_im_yX8_isPlace u_se_yX8_isPlace u_in_RX8 u_co_yX8_isPlace) rfl rfl rfl (by decide +kernel) ⟨Nat.le_of_ble_eq_true rfl, Nat.le_of_ble_eq_true rfl⟩ rfl hl.1 rfl (Nat.le_of_ble_eq_true rfl) dX8_at_2 ⟨Nat.zero_le _, Nat.zero_le _⟩) G (fun H locs G => ?_)
  refine lv_if_ne (tgt := 12) hx hb dX8_at_5 (by decide) (fun c2 => ?_) (fun c2 => ?_)
  · have h := g_if h c2
    refine lv_aload_n hx hb dX8_at_12 rfl (lv_at hl 0 rfl) ?_
    refine gg8_0 C G ok.1 ok.2.1.1 u_fl_RX8_10 dX8_at_13 ?_
    refine gn0_1 C G ok.2.2.1.1 ok.2.2.1.2.1.2 (List.mem_of_getElem? (i := 3) rfl) dX8_at_16 ?_
    refine lv_iload_n hx hb dX8_at_19 rfl (lv_at hl 1 rfl) ?_
    obtain ⟨v3, e_v3, h⟩ := g_bind h
    refine g_calli (g_runV (n := 1) (As := [.int a1]) (rest := []) C G (mX4_scrapAt l X σ ((t + 1) + 8) a1 v3 ok.2.2.1.2.2.2 e_v3) ok.2.2.1.2.2.2.1.2 (gE_4 ok.2.2.1.2.2.2.1.1) rfl (g_goodV u_ml_RX8_194 u_im_yX4_scrapAt u_se_yX4_scrapAt u_in_RX4 u_co_yX4_scrapAt) rfl rfl rfl (by decide +kernel) ⟨Nat.le_of_ble_eq_true rfl, Nat.le_of_ble_eq_true rfl⟩ rfl hl.1 rfl (Nat.le_of_ble_eq_true rfl) dX8_at_20 ⟨Nat.zero_le _, Nat.zero_le _⟩) G (fun H locs G => ?_)
    refine lv_istore_n (lv' := [(2, .int v3), (0, .ref (xN X + t)), (1, .int a1)]) hx hb dX8_at_23 rfl hl (by decide) rfl (fun ls hl => ?_)
    refine lv_iload_n hx hb dX8_at_24 rfl (lv_at hl 0 rfl) ?_
    refine lv_iconst (v := (-1)) hx hb dX8_at_25 (by decide) ?_
    refine lv_icmp_ne (tgt := 35) hx hb dX8_at_26 (by decide) (fun c4 => ?_) (fun c4 => ?_)
    · have h := g_if h c4
      refine lv_iload_n hx hb dX8_at_35 rfl (lv_at hl 0 rfl) ?_
      exact ret dX8_at_36 rfl G ⟨Option.some.inj h, rfl⟩
    · have h := g_it h c4
      refine lv_sipush (v := (-1004)) hx hb dX8_at_29 (by decide) ?_
      refine lv_goto (tgt := 36) hx hb dX8_at_32 (by decide) ?_
      exact ret dX8_at_36 rfl G ⟨Option.some.inj h, rfl⟩
  · have h := g_it h c2
    refine lv_sipush (v := (-1001)) hx hb dX8_at_8 (by decide) ?_
    exact ret dX8_at_11 rfl G ⟨Option.some.inj h, rfl⟩

def fX8_reason (σ : gM) (t : Nat) (a1 : Int32) (a2 : Int32) : Option (Int32) :=
  ((fX8_isPlace σ t a1).bind fun v1 =>
  (if v1 = 0 then
    some (-1001)
  else
    ((fX8_isEdge σ a2).bind fun v3 =>
    (if v3 = 0 then
      some (-1001)
    else
      ((fX4_scrapAt σ ((t + 1) + 8) a1).bind fun v5 =>
      (if v5 = (-1) then
        some (-1004)
      else
        ((fX4_orientationOf σ ((t + 1) + 8) v5).bind fun v7 =>
        ((fX0_verdict σ (t + 1) v5 a1 v7 a2).bind fun v8 =>
        (if v8 = (-1) then
          some (-1004)
        else
          some v8)))))))))
set_option maxHeartbeats 4000000 in
set_option maxRecDepth 100000 in
theorem mX8_reason (l : Launch) (X : gX) (σ : gM) (t : Nat) (a1 : Int32) (a2 : Int32) (r : Int32) (ok : gok8 X t) (h : fX8_reason σ t a1 a2 = some r) : Met l yX8_reason (Cond.code yX8_reason cX8_reason 5 (some .int) :: gBig) ({ frames := 3, cells := 0, slots := 0, locals := 75 }) (gPc X σ [.ref (xN X + t), .int a1, .int a2]) (gQi X σ r) 0 0 (xA X) := by
  refine g_meti (cc := cX8_reason) (maxL := 5) (own := RX8) (by decide) rfl rfl (Nat.le_of_ble_eq_true rfl) ?_
  intro p ev s m args below meth c Q C G ret ls hl
  obtain ⟨⟨hx, hb, hml, hown, hts⟩, hK⟩ := id C
  have hl : lv_has ls 5 [(0, .ref (xN X + t)), (1, .int a1), (2, .int a2)] := hl
  unfold fX8_reason at h
  refine lv_aload_n hx hb dX8_reason_0 rfl (lv_at hl 0 rfl) ?_
  refine lv_iload_n hx hb dX8_reason_1 rfl (lv_at hl 1 rfl) ?_
  obtain ⟨v1, e_v1, h⟩ := g_bind h
  refine g_calli (g_runV (n := 1) (As := [.int a1]) (rest := []) C G (mX8_isPlace l X σ t a1 v1 ok e_v1) ok.1.2 (gE_8 ok.1.1) rfl (g_goodV u_ml_RX8_174 u_im_yX8_isPlace u_se_yX8_isPlace u_in_RX8 u_co_yX8_isPlace) rfl rfl rfl (by decide +kernel) ⟨Nat.le_of_ble_eq_true rfl, Nat.le_of_ble_eq_true rfl⟩ rfl hl.1 rfl (Nat.le_of_ble_eq_true rfl) dX8_reason_2 ⟨Nat.zero_le _, Nat.zero_le _⟩) G (fun H locs G => ?_)
  refine lv_if_eq (tgt := 15) hx hb dX8_reason_5 (by decide) (fun c2 => ?_) (fun c2 => ?_)
  · have h := g_it h c2
    refine lv_sipush (v := (-1001)) hx hb dX8_reason_15 (by decide) ?_
    exact ret dX8_reason_18 rfl G ⟨Option.some.inj h, rfl⟩
  · have h := g_if h c2
    refine lv_iload_n hx hb dX8_reason_8 rfl (lv_at hl 2 rfl) ?_
    obtain ⟨v3, e_v3, h⟩ := g_bind h
    refine g_calli (g_runS (n := 1) (As := [.int a2]) (rest := []) C G (mX8_isEdge l X σ a2 v3 e_v3) (g_goodS u_ml_RX8_138 u_st_yX8_isEdge u_in_RX8 u_co_yX8_isEdge) rfl rfl rfl (by decide +kernel) ⟨Nat.le_of_ble_eq_true rfl, Nat.le_of_ble_eq_true rfl⟩ rfl hl.1 rfl (Nat.le_of_ble_eq_true rfl) dX8_reason_9 ⟨Nat.zero_le _, Nat.zero_le _⟩) G (fun H locs G => ?_)
    refine lv_if_ne (tgt := 19) hx hb dX8_reason_12 (by decide) (fun c4 => ?_) (fun c4 => ?_)
    · have h := g_if h c4
      refine lv_aload_n hx hb dX8_reason_19 rfl (lv_at hl 0 rfl) ?_
      refine gg8_0 C G ok.1 ok.2.1.1 u_fl_RX8_10 dX8_reason_20 ?_
      refine gn0_1 C G ok.2.2.1.1 ok.2.2.1.2.1.2 (List.mem_of_getElem? (i := 3) rfl) dX8_reason_23 ?_
      refine lv_iload_n hx hb dX8_reason_26 rfl (lv_at hl 1 rfl) ?_
      obtain ⟨v5, e_v5, h⟩ := g_bind h
      refine g_calli (g_runV (n := 1) (As := [.int a1]) (rest := []) C G (mX4_scrapAt l X σ ((t + 1) + 8) a1 v5 ok.2.2.1.2.2.2 e_v5) ok.2.2.1.2.2.2.1.2 (gE_4 ok.2.2.1.2.2.2.1.1) rfl (g_goodV u_ml_RX8_194 u_im_yX4_scrapAt u_se_yX4_scrapAt u_in_RX4 u_co_yX4_scrapAt) rfl rfl rfl (by decide +kernel) ⟨Nat.le_of_ble_eq_true rfl, Nat.le_of_ble_eq_true rfl⟩ rfl hl.1 rfl (Nat.le_of_ble_eq_true rfl) dX8_reason_27 ⟨Nat.zero_le _, Nat.zero_le _⟩) G (fun H locs G => ?_)
      refine lv_istore_n (lv' := [(3, .int v5), (0, .ref (xN X + t)), (1, .int a1), (2, .int a2)]) hx hb dX8_reason_30 rfl hl (by decide) rfl (fun ls hl => ?_)
      refine lv_iload_n hx hb dX8_reason_31 rfl (lv_at hl 0 rfl) ?_
      refine lv_iconst (v := (-1)) hx hb dX8_reason_32 (by decide) ?_
      refine lv_icmp_ne (tgt := 40) hx hb dX8_reason_33 (by decide) (fun c6 => ?_) (fun c6 => ?_)
      · have h := g_if h c6
        refine lv_aload_n hx hb dX8_reason_40 rfl (lv_at hl 1 rfl) ?_
        refine gg8_0 C G ok.1 ok.2.1.1 u_fl_RX8_10 dX8_reason_41 ?_
        refine lv_iload_n hx hb dX8_reason_44 rfl (lv_at hl 0 rfl) ?_
        refine lv_iload_n hx hb dX8_reason_45 rfl (lv_at hl 2 rfl) ?_
        refine lv_aload_n hx hb dX8_reason_46 rfl (lv_at hl 1 rfl) ?_
        refine gg8_0 C G ok.1 ok.2.1.1 u_fl_RX8_10 dX8_reason_47 ?_
        refine gn0_1 C G ok.2.2.1.1 ok.2.2.1.2.1.2 (List.mem_of_getElem? (i := 3) rfl) dX8_reason_50 ?_
        refine lv_iload_n hx hb dX8_reason_53 rfl (lv_at hl 0 rfl) ?_
        obtain ⟨v7, e_v7, h⟩ := g_bind h
        refine g_calli (g_runV (n := 1) (As := [.int v5]) (rest := [.int a1, .int v5, .ref (xN X + (t + 1))]) C G (mX4_orientationOf l X σ ((t + 1) + 8) v5 v7 ok.2.2.1.2.2.2 e_v7) ok.2.2.1.2.2.2.1.2 (gE_4 ok.2.2.1.2.2.2.1.1) rfl (g_goodV u_ml_RX8_117 u_im_yX4_orientationOf u_se_yX4_orientationOf u_in_RX4 u_co_yX4_orientationOf) rfl rfl rfl (by decide +kernel) ⟨Nat.le_of_ble_eq_true rfl, Nat.le_of_ble_eq_true rfl⟩ rfl hl.1 rfl (Nat.le_of_ble_eq_true rfl) dX8_reason_54 ⟨Nat.zero_le _, Nat.zero_le _⟩) G (fun H locs G => ?_)
        refine lv_iload_n hx hb dX8_reason_57 rfl (lv_at hl 3 rfl) ?_
        obtain ⟨v8, e_v8, h⟩ := g_bind h
        refine g_calli (g_runV (n := 4) (As := [.int v5, .int a1, .int v7, .int a2]) (rest := []) C G (mX0_verdict l X σ (t + 1) v5 a1 v7 a2 v8 ok.2.2.1 e_v8) ok.2.2.1.1.2 (gE_0 ok.2.2.1.1.1) rfl (g_goodV u_ml_RX8_197 u_im_yX0_verdict u_se_yX0_verdict u_in_RX0 u_co_yX0_verdict) rfl rfl rfl (by decide +kernel) ⟨Nat.le_of_ble_eq_true rfl, Nat.le_of_ble_eq_true rfl⟩ rfl hl.1 rfl (Nat.le_of_ble_eq_true rfl) dX8_reason_58 ⟨Nat.zero_le _, Nat.zero_le _⟩) G (fun H locs G => ?_)
        refine lv_istore (lv' := [(4, .int v8), (3, .int v5), (0, .ref (xN X + t)), (1, .int a1), (2, .int a2)]) hx hb dX8_reason_61 hl (by decide) rfl (fun ls hl => ?_)
        refine lv_iload hx hb dX8_reason_63 (lv_at hl 0 rfl) ?_
        refine lv_iconst (v := (-1)) hx hb dX8_reason_65 (by decide) ?_
        refine lv_icmp_ne (tgt := 75) hx hb dX8_reason_66 (by decide) (fun c9 => ?_) (fun c9 => ?_)
        · have h := g_if h c9
          refine lv_iload hx hb dX8_reason_75 (lv_at hl 0 rfl) ?_
          exact ret dX8_reason_77 rfl G ⟨Option.some.inj h, rfl⟩
        · have h := g_it h c9
          refine lv_sipush (v := (-1004)) hx hb dX8_reason_69 (by decide) ?_
          refine lv_goto (tgt := 77) hx hb dX8_reason_72 (by decide) ?_
          exact ret dX8_reason_77 rfl G ⟨Option.some.inj h, rfl⟩
      · have h := g_it h c6
        refine lv_sipush (v := (-1004)) hx hb dX8_reason_36 (by decide) ?_
        exact ret dX8_reason_39 rfl G ⟨Option.some.inj h, rfl⟩
    · have h := g_it h c4
      refine lv_sipush (v := (-1001)) hx hb dX8_reason_15 (by decide) ?_
      exact ret dX8_reason_18 rfl G ⟨Option.some.inj h, rfl⟩

def fX0_countWays_5 (σ : gM) (t : Nat) (a1 : Int32) (a2 : Int32) : Nat → Int32 → Int32 → Option (Int32)
  | 0, _, _ => none
  | n + 1, x3, x4 =>
    (if 8 ≤ x4 then
      some x3
    else
      ((fX0_canLie σ t a1 a2 x4).bind fun v2 =>
      (if v2 = 0 then
        (gl (x4 + 1) fun w4 =>
        fX0_countWays_5 σ t a1 a2 n x3 w4)
      else
        (gl (x3 + 1) fun w5 =>
        (gl (x4 + 1) fun w6 =>
        fX0_countWays_5 σ t a1 a2 n w5 w6)))))

def fX0_countWays (σ : gM) (t : Nat) (a1 : Int32) (a2 : Int32) : Option (Int32) :=
  fX0_countWays_5 σ t a1 a2 gF 0 0
set_option maxHeartbeats 4000000 in
set_option maxRecDepth 100000 in
theorem mX0_countWays (l : Launch) (X : gX) (σ : gM) (t : Nat) (a1 : Int32) (a2 : Int32) (r : Int32) (ok : gok0 X t) (h : fX0_countWays σ t a1 a2 = some r) : Met l yX0_countWays (Cond.code yX0_countWays cX0_countWays 5 (some .int) :: gBig) ({ frames := 4, cells := 0, slots := 0, locals := 99 }) (gPc X σ [.ref (xN X + t), .int a1, .int a2]) (gQi X σ r) 0 0 (xA X) := by
  refine g_meti (cc := cX0_countWays) (maxL := 5) (own := RX0) (by decide) rfl rfl (Nat.le_of_ble_eq_true rfl) ?_
  intro p ev s m args below meth c Q C G ret ls hl
  obtain ⟨⟨hx, hb, hml, hown, hts⟩, hK⟩ := id C
  have hl : lv_has ls 5 [(0, .ref (xN X + t)), (1, .int a1), (2, .int a2)] := hl
  have L5 : ∀ (n : Nat) (H : Heap) (locs : List Loc) (ls : Array Slot) (x3 : Int32) (x4 : Int32), gG X σ s H locs → lv_has ls 5 [(0, .ref (xN X + t)), (1, .int a1), (2, .int a2), (3, .int x3), (4, .int x4)] → fX0_countWays_5 σ t a1 a2 n x3 x4 = some r → W p l ev ({ frames := 4, cells := 0, slots := 0, locals := 99 }) s m args below meth c H locs 0 0 Q (F0 m 5 ls []) := by
    intro n
    induction n with
    | zero =>
      intro H locs ls x3 x4 G hl h
      rw [fX0_countWays_5] at h
      cases h
    | succ n ih =>
      intro H locs ls x3 x4 G hl h
      rw [fX0_countWays_5] at h
      refine lv_iload hx hb dX0_countWays_5 (lv_at hl 4 rfl) ?_
      refine lv_bipush (v := 8) hx hb dX0_countWays_7 (by decide) ?_
      refine lv_icmp_ge (tgt := 32) hx hb dX0_countWays_9 (by decide) (fun c1 => ?_) (fun c1 => ?_)
      · have h := g_it h c1
        refine lv_iload_n hx hb dX0_countWays_32 rfl (lv_at hl 3 rfl) ?_
        exact ret dX0_countWays_33 rfl G ⟨Option.some.inj h, rfl⟩
      · have h := g_if h c1
        refine lv_aload_n hx hb dX0_countWays_12 rfl (lv_at hl 0 rfl) ?_
        refine lv_iload_n hx hb dX0_countWays_13 rfl (lv_at hl 1 rfl) ?_
        refine lv_iload_n hx hb dX0_countWays_14 rfl (lv_at hl 2 rfl) ?_
        refine lv_iload hx hb dX0_countWays_15 (lv_at hl 4 rfl) ?_
        obtain ⟨v2, e_v2, h⟩ := g_bind h
        refine g_calli (g_runV (n := 3) (As := [.int a1, .int a2, .int x4]) (rest := []) C G (mX0_canLie l X σ t a1 a2 x4 v2 ok e_v2) ok.1.2 (gE_0 ok.1.1) rfl (g_goodV u_ml_RX0_67 u_im_yX0_canLie u_se_yX0_canLie u_in_RX0 u_co_yX0_canLie) rfl rfl rfl (by decide +kernel) ⟨Nat.le_of_ble_eq_true rfl, Nat.le_of_ble_eq_true rfl⟩ rfl hl.1 rfl (Nat.le_of_ble_eq_true rfl) dX0_countWays_17 ⟨Nat.zero_le _, Nat.zero_le _⟩) G (fun H locs G => ?_)
        refine lv_if_eq (tgt := 26) hx hb dX0_countWays_20 (by decide) (fun c3 => ?_) (fun c3 => ?_)
        · have h := g_it h c3
          obtain ⟨w4, e_w4⟩ : ∃ y : Int32, y = x4 + 1 := ⟨_, rfl⟩
          have h := g_let2 e_w4 h
          refine lv_iinc (v := w4) (lv' := [(4, .int w4), (0, .ref (xN X + t)), (1, .int a1), (2, .int a2), (3, .int x3)]) hx hb dX0_countWays_26 hl (k := 4) rfl (by rw [e_w4]; rfl) (by decide) rfl (fun ls hl => ?_)
          refine lv_goto (tgt := 5) hx hb dX0_countWays_29 (by decide) ?_
          exact ih _ _ _ x3 w4 G (lv_sub hl [1, 2, 3, 4, 0] rfl) h
        · have h := g_if h c3
          obtain ⟨w5, e_w5⟩ : ∃ y : Int32, y = x3 + 1 := ⟨_, rfl⟩
          have h := g_let2 e_w5 h
          refine lv_iinc (v := w5) (lv' := [(3, .int w5), (0, .ref (xN X + t)), (1, .int a1), (2, .int a2), (4, .int x4)]) hx hb dX0_countWays_23 hl (k := 3) rfl (by rw [e_w5]; rfl) (by decide) rfl (fun ls hl => ?_)
          obtain ⟨w6, e_w6⟩ : ∃ y : Int32, y = x4 + 1 := ⟨_, rfl⟩
          have h := g_let2 e_w6 h
          refine lv_iinc (v := w6) (lv' := [(4, .int w6), (3, .int w5), (0, .ref (xN X + t)), (1, .int a1), (2, .int a2)]) hx hb dX0_countWays_26 hl (k := 4) rfl (by rw [e_w6]; rfl) (by decide) rfl (fun ls hl => ?_)
          refine lv_goto (tgt := 5) hx hb dX0_countWays_29 (by decide) ?_
          exact ih _ _ _ w5 w6 G (lv_sub hl [2, 3, 4, 1, 0] rfl) h
  unfold fX0_countWays at h
  refine lv_iconst (v := 0) hx hb dX0_countWays_0 (by decide) ?_
  refine lv_istore_n (lv' := [(3, .int 0), (0, .ref (xN X + t)), (1, .int a1), (2, .int a2)]) hx hb dX0_countWays_1 rfl hl (by decide) rfl (fun ls hl => ?_)
  refine lv_iconst (v := 0) hx hb dX0_countWays_2 (by decide) ?_
  refine lv_istore (lv' := [(4, .int 0), (3, .int 0), (0, .ref (xN X + t)), (1, .int a1), (2, .int a2)]) hx hb dX0_countWays_3 hl (by decide) rfl (fun ls hl => ?_)
  exact L5  gF _ _ _ 0 0 G (lv_sub hl [2, 3, 4, 1, 0] rfl) h

def fX8_ways (σ : gM) (t : Nat) (a1 : Int32) (a2 : Int32) : Option (Int32) :=
  ((fX8_isScrap σ t a1).bind fun v1 =>
  (if v1 = 0 then
    some (-1001)
  else
    ((fX8_isPlace σ t a2).bind fun v3 =>
    (if v3 = 0 then
      some (-1001)
    else
      ((fX4_scrapAt σ ((t + 1) + 8) a2).bind fun v5 =>
      (if v5 = (-1) then
        ((fX0_countWays σ (t + 1) a1 a2).bind fun v7 =>
        some v7)
      else
        (if v5 = a1 then
          ((fX0_countWays σ (t + 1) a1 a2).bind fun v9 =>
          some v9)
        else
          some (-1002))))))))
set_option maxHeartbeats 4000000 in
set_option maxRecDepth 100000 in
theorem mX8_ways (l : Launch) (X : gX) (σ : gM) (t : Nat) (a1 : Int32) (a2 : Int32) (r : Int32) (ok : gok8 X t) (h : fX8_ways σ t a1 a2 = some r) : Met l yX8_ways (Cond.code yX8_ways cX8_ways 4 (some .int) :: gBig) ({ frames := 5, cells := 0, slots := 0, locals := 123 }) (gPc X σ [.ref (xN X + t), .int a1, .int a2]) (gQi X σ r) 0 0 (xA X) := by
  refine g_meti (cc := cX8_ways) (maxL := 4) (own := RX8) (by decide) rfl rfl (Nat.le_of_ble_eq_true rfl) ?_
  intro p ev s m args below meth c Q C G ret ls hl
  obtain ⟨⟨hx, hb, hml, hown, hts⟩, hK⟩ := id C
  have hl : lv_has ls 4 [(0, .ref (xN X + t)), (1, .int a1), (2, .int a2)] := hl
  unfold fX8_ways at h
  refine lv_aload_n hx hb dX8_ways_0 rfl (lv_at hl 0 rfl) ?_
  refine lv_iload_n hx hb dX8_ways_1 rfl (lv_at hl 1 rfl) ?_
  obtain ⟨v1, e_v1, h⟩ := g_bind h
  refine g_calli (g_runV (n := 1) (As := [.int a1]) (rest := []) C G (mX8_isScrap l X σ t a1 v1 ok e_v1) ok.1.2 (gE_8 ok.1.1) rfl (g_goodV u_ml_RX8_104 u_im_yX8_isScrap u_se_yX8_isScrap u_in_RX8 u_co_yX8_isScrap) rfl rfl rfl (by decide +kernel) ⟨Nat.le_of_ble_eq_true rfl, Nat.le_of_ble_eq_true rfl⟩ rfl hl.1 rfl (Nat.le_of_ble_eq_true rfl) dX8_ways_2 ⟨Nat.zero_le _, Nat.zero_le _⟩) G (fun H locs G => ?_)
  refine lv_if_eq (tgt := 16) hx hb dX8_ways_5 (by decide) (fun c2 => ?_) (fun c2 => ?_)
  · have h := g_it h c2
    refine lv_sipush (v := (-1001)) hx hb dX8_ways_16 (by decide) ?_
    exact ret dX8_ways_19 rfl G ⟨Option.some.inj h, rfl⟩
  · have h := g_if h c2
    refine lv_aload_n hx hb dX8_ways_8 rfl (lv_at hl 0 rfl) ?_
    refine lv_iload_n hx hb dX8_ways_9 rfl (lv_at hl 2 rfl) ?_
    obtain ⟨v3, e_v3, h⟩ := g_bind h
    refine g_calli (g_runV (n := 1) (As := [.int a2]) (rest := []) C G (mX8_isPlace l X σ t a2 v3 ok e_v3) ok.1.2 (gE_8 ok.1.1) rfl (g_goodV u_ml_RX8_174 u_im_yX8_isPlace u_se_yX8_isPlace u_in_RX8 u_co_yX8_isPlace) rfl rfl rfl (by decide +kernel) ⟨Nat.le_of_ble_eq_true rfl, Nat.le_of_ble_eq_true rfl⟩ rfl hl.1 rfl (Nat.le_of_ble_eq_true rfl) dX8_ways_10 ⟨Nat.zero_le _, Nat.zero_le _⟩) G (fun H locs G => ?_)
    refine lv_if_ne (tgt := 20) hx hb dX8_ways_13 (by decide) (fun c4 => ?_) (fun c4 => ?_)
    · have h := g_if h c4
      refine lv_aload_n hx hb dX8_ways_20 rfl (lv_at hl 0 rfl) ?_
      refine gg8_0 C G ok.1 ok.2.1.1 u_fl_RX8_10 dX8_ways_21 ?_
      refine gn0_1 C G ok.2.2.1.1 ok.2.2.1.2.1.2 (List.mem_of_getElem? (i := 3) rfl) dX8_ways_24 ?_
      refine lv_iload_n hx hb dX8_ways_27 rfl (lv_at hl 2 rfl) ?_
      obtain ⟨v5, e_v5, h⟩ := g_bind h
      refine g_calli (g_runV (n := 1) (As := [.int a2]) (rest := []) C G (mX4_scrapAt l X σ ((t + 1) + 8) a2 v5 ok.2.2.1.2.2.2 e_v5) ok.2.2.1.2.2.2.1.2 (gE_4 ok.2.2.1.2.2.2.1.1) rfl (g_goodV u_ml_RX8_194 u_im_yX4_scrapAt u_se_yX4_scrapAt u_in_RX4 u_co_yX4_scrapAt) rfl rfl rfl (by decide +kernel) ⟨Nat.le_of_ble_eq_true rfl, Nat.le_of_ble_eq_true rfl⟩ rfl hl.1 rfl (Nat.le_of_ble_eq_true rfl) dX8_ways_28 ⟨Nat.zero_le _, Nat.zero_le _⟩) G (fun H locs G => ?_)
      refine lv_istore_n (lv' := [(3, .int v5), (0, .ref (xN X + t)), (1, .int a1), (2, .int a2)]) hx hb dX8_ways_31 rfl hl (by decide) rfl (fun ls hl => ?_)
      refine lv_iload_n hx hb dX8_ways_32 rfl (lv_at hl 0 rfl) ?_
      refine lv_iconst (v := (-1)) hx hb dX8_ways_33 (by decide) ?_
      refine lv_icmp_eq (tgt := 46) hx hb dX8_ways_34 (by decide) (fun c6 => ?_) (fun c6 => ?_)
      · have h := g_it h c6
        refine lv_aload_n hx hb dX8_ways_46 rfl (lv_at hl 1 rfl) ?_
        refine gg8_0 C G ok.1 ok.2.1.1 u_fl_RX8_10 dX8_ways_47 ?_
        refine lv_iload_n hx hb dX8_ways_50 rfl (lv_at hl 2 rfl) ?_
        refine lv_iload_n hx hb dX8_ways_51 rfl (lv_at hl 3 rfl) ?_
        obtain ⟨v7, e_v7, h⟩ := g_bind h
        refine g_calli (g_runV (n := 2) (As := [.int a1, .int a2]) (rest := []) C G (mX0_countWays l X σ (t + 1) a1 a2 v7 ok.2.2.1 e_v7) ok.2.2.1.1.2 (gE_0 ok.2.2.1.1.1) rfl (g_goodV u_ml_RX8_201 u_im_yX0_countWays u_se_yX0_countWays u_in_RX0 u_co_yX0_countWays) rfl rfl rfl (by decide +kernel) ⟨Nat.le_of_ble_eq_true rfl, Nat.le_of_ble_eq_true rfl⟩ rfl hl.1 rfl (Nat.le_of_ble_eq_true rfl) dX8_ways_52 ⟨Nat.zero_le _, Nat.zero_le _⟩) G (fun H locs G => ?_)
        exact ret dX8_ways_55 rfl G ⟨Option.some.inj h, rfl⟩
      · have h := g_if h c6
        refine lv_iload_n hx hb dX8_ways_37 rfl (lv_at hl 0 rfl) ?_
        refine lv_iload_n hx hb dX8_ways_38 rfl (lv_at hl 2 rfl) ?_
        refine lv_icmp_eq (tgt := 46) hx hb dX8_ways_39 (by decide) (fun c8 => ?_) (fun c8 => ?_)
        · have h := g_it h c8
          refine lv_aload_n hx hb dX8_ways_46 rfl (lv_at hl 1 rfl) ?_
          refine gg8_0 C G ok.1 ok.2.1.1 u_fl_RX8_10 dX8_ways_47 ?_
          refine lv_iload_n hx hb dX8_ways_50 rfl (lv_at hl 2 rfl) ?_
          refine lv_iload_n hx hb dX8_ways_51 rfl (lv_at hl 3 rfl) ?_
          obtain ⟨v9, e_v9, h⟩ := g_bind h
          refine g_calli (g_runV (n := 2) (As := [.int a1, .int a2]) (rest := []) C G (mX0_countWays l X σ (t + 1) a1 a2 v9 ok.2.2.1 e_v9) ok.2.2.1.1.2 (gE_0 ok.2.2.1.1.1) rfl (g_goodV u_ml_RX8_201 u_im_yX0_countWays u_se_yX0_countWays u_in_RX0 u_co_yX0_countWays) rfl rfl rfl (by decide +kernel) ⟨Nat.le_of_ble_eq_true rfl, Nat.le_of_ble_eq_true rfl⟩ rfl hl.1 rfl (Nat.le_of_ble_eq_true rfl) dX8_ways_52 ⟨Nat.zero_le _, Nat.zero_le _⟩) G (fun H locs G => ?_)
          exact ret dX8_ways_55 rfl G ⟨Option.some.inj h, rfl⟩
        · have h := g_if h c8
          refine lv_sipush (v := (-1002)) hx hb dX8_ways_42 (by decide) ?_
          exact ret dX8_ways_45 rfl G ⟨Option.some.inj h, rfl⟩
    · have h := g_it h c4
      refine lv_sipush (v := (-1001)) hx hb dX8_ways_16 (by decide) ?_
      exact ret dX8_ways_19 rfl G ⟨Option.some.inj h, rfl⟩

def fX0_bestPlace_48 (K7 : Int32 → Int32 → Int32 → Option (Int32)) (σ : gM) (t : Nat) (a1 : Int32) : Nat → Int32 → Int32 → Int32 → Int32 → Int32 → Option (Int32)
  | 0, _, _, _, _, _ => none
  | n + 1, x2, x3, x4, x5, x6 =>
    (if 8 ≤ x6 then
      (gl (x4 + 1) fun w7 =>
      K7 x2 x3 w7)
    else
      (if x5 ≤ x3 then
        (gl (x4 + 1) fun w9 =>
        K7 x2 x3 w9)
      else
        ((fX0_canLie σ t a1 x4 x6).bind fun v10 =>
        (if v10 = 0 then
          (gl (x6 + 1) fun w12 =>
          fX0_bestPlace_48 K7 σ t a1 n x2 x3 x4 x5 w12)
        else
          (gl ((x4 * 10) + x6) fun w13 =>
          (gl (x6 + 1) fun w14 =>
          fX0_bestPlace_48 K7 σ t a1 n w13 x5 x4 x5 w14))))))

def fX0_bestPlace_7 (σ : gM) (t : Nat) (a1 : Int32) : Nat → Int32 → Int32 → Int32 → Option (Int32)
  | 0, _, _, _ => none
  | n + 1, x2, x3, x4 =>
    ((fX4_places σ (t + 8)).bind fun v1 =>
    (if v1 ≤ x4 then
      some x2
    else
      ((fX4_scrapAt σ (t + 8) x4).bind fun v3 =>
      (if v3 = (-1) then
        ((fX0_seamsAt σ t a1 x4).bind fun v5 =>
        fX0_bestPlace_48 (fun y2 y3 y4 => fX0_bestPlace_7 σ t a1 n y2 y3 y4) σ t a1 gF x2 x3 x4 v5 0)
      else
        fX0_bestPlace_48 (fun y2 y3 y4 => fX0_bestPlace_7 σ t a1 n y2 y3 y4) σ t a1 gF x2 x3 x4 (-1) 0))))

def fX0_bestPlace (σ : gM) (t : Nat) (a1 : Int32) : Option (Int32) :=
  fX0_bestPlace_7 σ t a1 gF (-1) (-1) 0
set_option maxHeartbeats 4000000 in
set_option maxRecDepth 100000 in
theorem mX0_bestPlace (l : Launch) (X : gX) (σ : gM) (t : Nat) (a1 : Int32) (r : Int32) (ok : gok0 X t) (h : fX0_bestPlace σ t a1 = some r) : Met l yX0_bestPlace (Cond.code yX0_bestPlace cX0_bestPlace 7 (some .int) :: gBig) ({ frames := 4, cells := 0, slots := 0, locals := 99 }) (gPc X σ [.ref (xN X + t), .int a1]) (gQi X σ r) 0 0 (xA X) := by
  refine g_meti (cc := cX0_bestPlace) (maxL := 7) (own := RX0) (by decide) rfl rfl (Nat.le_of_ble_eq_true rfl) ?_
  intro p ev s m args below meth c Q C G ret ls hl
  obtain ⟨⟨hx, hb, hml, hown, hts⟩, hK⟩ := id C
  have hl : lv_has ls 7 [(0, .ref (xN X + t)), (1, .int a1)] := hl
  have L48 : ∀ (K7 : Int32 → Int32 → Int32 → Option (Int32)), (∀ (H : Heap) (locs : List Loc) (ls : Array Slot) (x2 : Int32) (x3 : Int32) (x4 : Int32), gG X σ s H locs → lv_has ls 7 [(0, .ref (xN X + t)), (1, .int a1), (2, .int x2), (3, .int x3), (4, .int x4)] → K7 x2 x3 x4 = some r → W p l ev ({ frames := 4, cells := 0, slots := 0, locals := 99 }) s m args below meth c H locs 0 0 Q (F0 m 7 ls [])) → ∀ (n : Nat) (H : Heap) (locs : List Loc) (ls : Array Slot) (x2 : Int32) (x3 : Int32) (x4 : Int32) (x5 : Int32) (x6 : Int32), gG X σ s H locs → lv_has ls 7 [(0, .ref (xN X + t)), (1, .int a1), (2, .int x2), (3, .int x3), (4, .int x4), (5, .int x5), (6, .int x6)] → fX0_bestPlace_48 K7 σ t a1 n x2 x3 x4 x5 x6 = some r → W p l ev ({ frames := 4, cells := 0, slots := 0, locals := 99 }) s m args below meth c H locs 0 0 Q (F0 m 48 ls []) := by
    intro K7 hK7 n
    induction n with
    | zero =>
      intro H locs ls x2 x3 x4 x5 x6 G hl h
      rw [fX0_bestPlace_48] at h
      cases h
    | succ n ih =>
      intro H locs ls x2 x3 x4 x5 x6 G hl h
      rw [fX0_bestPlace_48] at h
      refine lv_iload hx hb dX0_bestPlace_48 (lv_at hl 6 rfl) ?_
      refine lv_bipush (v := 8) hx hb dX0_bestPlace_50 (by decide) ?_
      refine lv_icmp_ge (tgt := 91) hx hb dX0_bestPlace_52 (by decide) (fun c6 => ?_) (fun c6 => ?_)
      · have h := g_it h c6
        obtain ⟨w7, e_w7⟩ : ∃ y : Int32, y = x4 + 1 := ⟨_, rfl⟩
        have h := g_let2 e_w7 h
        refine lv_iinc (v := w7) (lv' := [(4, .int w7), (0, .ref (xN X + t)), (1, .int a1), (2, .int x2), (3, .int x3), (5, .int x5), (6, .int x6)]) hx hb dX0_bestPlace_91 hl (k := 4) rfl (by rw [e_w7]; rfl) (by decide) rfl (fun ls hl => ?_)
        refine lv_goto (tgt := 7) hx hb dX0_bestPlace_94 (by decide) ?_
        exact hK7 _ _ _ x2 x3 w7 G (lv_sub hl [1, 2, 3, 4, 0] rfl) h
      · have h := g_if h c6
        refine lv_iload hx hb dX0_bestPlace_55 (lv_at hl 5 rfl) ?_
        refine lv_iload_n hx hb dX0_bestPlace_57 rfl (lv_at hl 3 rfl) ?_
        refine lv_icmp_le (tgt := 91) hx hb dX0_bestPlace_58 (by decide) (fun c8 => ?_) (fun c8 => ?_)
        · have h := g_it h c8
          obtain ⟨w9, e_w9⟩ : ∃ y : Int32, y = x4 + 1 := ⟨_, rfl⟩
          have h := g_let2 e_w9 h
          refine lv_iinc (v := w9) (lv' := [(4, .int w9), (0, .ref (xN X + t)), (1, .int a1), (2, .int x2), (3, .int x3), (5, .int x5), (6, .int x6)]) hx hb dX0_bestPlace_91 hl (k := 4) rfl (by rw [e_w9]; rfl) (by decide) rfl (fun ls hl => ?_)
          refine lv_goto (tgt := 7) hx hb dX0_bestPlace_94 (by decide) ?_
          exact hK7 _ _ _ x2 x3 w9 G (lv_sub hl [1, 2, 3, 4, 0] rfl) h
        · have h := g_if h c8
          refine lv_aload_n hx hb dX0_bestPlace_61 rfl (lv_at hl 0 rfl) ?_
          refine lv_iload_n hx hb dX0_bestPlace_62 rfl (lv_at hl 1 rfl) ?_
          refine lv_iload hx hb dX0_bestPlace_63 (lv_at hl 4 rfl) ?_
          refine lv_iload hx hb dX0_bestPlace_65 (lv_at hl 6 rfl) ?_
          obtain ⟨v10, e_v10, h⟩ := g_bind h
          refine g_calli (g_runV (n := 3) (As := [.int a1, .int x4, .int x6]) (rest := []) C G (mX0_canLie l X σ t a1 x4 x6 v10 ok e_v10) ok.1.2 (gE_0 ok.1.1) rfl (g_goodV u_ml_RX0_67 u_im_yX0_canLie u_se_yX0_canLie u_in_RX0 u_co_yX0_canLie) rfl rfl rfl (by decide +kernel) ⟨Nat.le_of_ble_eq_true rfl, Nat.le_of_ble_eq_true rfl⟩ rfl hl.1 rfl (Nat.le_of_ble_eq_true rfl) dX0_bestPlace_67 ⟨Nat.zero_le _, Nat.zero_le _⟩) G (fun H locs G => ?_)
          refine lv_if_eq (tgt := 85) hx hb dX0_bestPlace_70 (by decide) (fun c11 => ?_) (fun c11 => ?_)
          · have h := g_it h c11
            obtain ⟨w12, e_w12⟩ : ∃ y : Int32, y = x6 + 1 := ⟨_, rfl⟩
            have h := g_let2 e_w12 h
            refine lv_iinc (v := w12) (lv' := [(6, .int w12), (0, .ref (xN X + t)), (1, .int a1), (2, .int x2), (3, .int x3), (4, .int x4), (5, .int x5)]) hx hb dX0_bestPlace_85 hl (k := 6) rfl (by rw [e_w12]; rfl) (by decide) rfl (fun ls hl => ?_)
            refine lv_goto (tgt := 48) hx hb dX0_bestPlace_88 (by decide) ?_
            exact ih _ _ _ x2 x3 x4 x5 w12 G (lv_sub hl [1, 2, 3, 4, 5, 6, 0] rfl) h
          · have h := g_if h c11
            refine lv_iload hx hb dX0_bestPlace_73 (lv_at hl 4 rfl) ?_
            refine lv_bipush (v := 10) hx hb dX0_bestPlace_75 (by decide) ?_
            refine lv_imul hx hb dX0_bestPlace_77 ?_
            refine lv_iload hx hb dX0_bestPlace_78 (lv_at hl 6 rfl) ?_
            refine lv_iadd hx hb dX0_bestPlace_80 ?_
            refine lv_topi (fun w13 e_w13 => ?_)
            have h := g_let2 e_w13 h
            refine lv_istore_n (lv' := [(2, .int w13), (0, .ref (xN X + t)), (1, .int a1), (3, .int x3), (4, .int x4), (5, .int x5), (6, .int x6)]) hx hb dX0_bestPlace_81 rfl hl (by decide) rfl (fun ls hl => ?_)
            refine lv_iload hx hb dX0_bestPlace_82 (lv_at hl 5 rfl) ?_
            refine lv_istore_n (lv' := [(3, .int x5), (2, .int w13), (0, .ref (xN X + t)), (1, .int a1), (4, .int x4), (5, .int x5), (6, .int x6)]) hx hb dX0_bestPlace_84 rfl hl (by decide) rfl (fun ls hl => ?_)
            obtain ⟨w14, e_w14⟩ : ∃ y : Int32, y = x6 + 1 := ⟨_, rfl⟩
            have h := g_let2 e_w14 h
            refine lv_iinc (v := w14) (lv' := [(6, .int w14), (3, .int x5), (2, .int w13), (0, .ref (xN X + t)), (1, .int a1), (4, .int x4), (5, .int x5)]) hx hb dX0_bestPlace_85 hl (k := 6) rfl (by rw [e_w14]; rfl) (by decide) rfl (fun ls hl => ?_)
            refine lv_goto (tgt := 48) hx hb dX0_bestPlace_88 (by decide) ?_
            exact ih _ _ _ w13 x5 x4 x5 w14 G (lv_sub hl [3, 4, 2, 1, 5, 6, 0] rfl) h
  have L7 : ∀ (n : Nat) (H : Heap) (locs : List Loc) (ls : Array Slot) (x2 : Int32) (x3 : Int32) (x4 : Int32), gG X σ s H locs → lv_has ls 7 [(0, .ref (xN X + t)), (1, .int a1), (2, .int x2), (3, .int x3), (4, .int x4)] → fX0_bestPlace_7 σ t a1 n x2 x3 x4 = some r → W p l ev ({ frames := 4, cells := 0, slots := 0, locals := 99 }) s m args below meth c H locs 0 0 Q (F0 m 7 ls []) := by
    intro n
    induction n with
    | zero =>
      intro H locs ls x2 x3 x4 G hl h
      rw [fX0_bestPlace_7] at h
      cases h
    | succ n ih =>
      intro H locs ls x2 x3 x4 G hl h
      rw [fX0_bestPlace_7] at h
      refine lv_iload hx hb dX0_bestPlace_7 (lv_at hl 4 rfl) ?_
      refine lv_aload_n hx hb dX0_bestPlace_9 rfl (lv_at hl 0 rfl) ?_
      refine gg0_1 C G ok.1 ok.2.1.2 u_fl_RX0_21 dX0_bestPlace_10 ?_
      obtain ⟨v1, e_v1, h⟩ := g_bind h
      refine g_calli (g_runV (n := 0) (As := []) (rest := [.int x4]) C G (mX4_places l X σ (t + 8) v1 ok.2.2.2 e_v1) ok.2.2.2.1.2 (gE_4 ok.2.2.2.1.1) rfl (g_goodV u_ml_RX0_90 u_im_yX4_places u_se_yX4_places u_in_RX4 u_co_yX4_places) rfl rfl rfl (by decide +kernel) ⟨Nat.le_of_ble_eq_true rfl, Nat.le_of_ble_eq_true rfl⟩ rfl hl.1 rfl (Nat.le_of_ble_eq_true rfl) dX0_bestPlace_13 ⟨Nat.zero_le _, Nat.zero_le _⟩) G (fun H locs G => ?_)
      refine lv_icmp_ge (tgt := 97) hx hb dX0_bestPlace_16 (by decide) (fun c2 => ?_) (fun c2 => ?_)
      · have h := g_it h c2
        refine lv_iload_n hx hb dX0_bestPlace_97 rfl (lv_at hl 2 rfl) ?_
        exact ret dX0_bestPlace_98 rfl G ⟨Option.some.inj h, rfl⟩
      · have h := g_if h c2
        refine lv_aload_n hx hb dX0_bestPlace_19 rfl (lv_at hl 0 rfl) ?_
        refine gg0_1 C G ok.1 ok.2.1.2 u_fl_RX0_21 dX0_bestPlace_20 ?_
        refine lv_iload hx hb dX0_bestPlace_23 (lv_at hl 4 rfl) ?_
        obtain ⟨v3, e_v3, h⟩ := g_bind h
        refine g_calli (g_runV (n := 1) (As := [.int x4]) (rest := []) C G (mX4_scrapAt l X σ (t + 8) x4 v3 ok.2.2.2 e_v3) ok.2.2.2.1.2 (gE_4 ok.2.2.2.1.1) rfl (g_goodV u_ml_RX0_49 u_im_yX4_scrapAt u_se_yX4_scrapAt u_in_RX4 u_co_yX4_scrapAt) rfl rfl rfl (by decide +kernel) ⟨Nat.le_of_ble_eq_true rfl, Nat.le_of_ble_eq_true rfl⟩ rfl hl.1 rfl (Nat.le_of_ble_eq_true rfl) dX0_bestPlace_25 ⟨Nat.zero_le _, Nat.zero_le _⟩) G (fun H locs G => ?_)
        refine lv_iconst (v := (-1)) hx hb dX0_bestPlace_28 (by decide) ?_
        refine lv_icmp_ne (tgt := 42) hx hb dX0_bestPlace_29 (by decide) (fun c4 => ?_) (fun c4 => ?_)
        · have h := g_if h c4
          refine lv_iconst (v := (-1)) hx hb dX0_bestPlace_42 (by decide) ?_
          refine lv_istore (lv' := [(5, .int (-1)), (0, .ref (xN X + t)), (1, .int a1), (2, .int x2), (3, .int x3), (4, .int x4)]) hx hb dX0_bestPlace_43 hl (by decide) rfl (fun ls hl => ?_)
          refine lv_iconst (v := 0) hx hb dX0_bestPlace_45 (by decide) ?_
          refine lv_istore (lv' := [(6, .int 0), (5, .int (-1)), (0, .ref (xN X + t)), (1, .int a1), (2, .int x2), (3, .int x3), (4, .int x4)]) hx hb dX0_bestPlace_46 hl (by decide) rfl (fun ls hl => ?_)
          exact L48 (fun y2 y3 y4 => fX0_bestPlace_7 σ t a1 n y2 y3 y4) (fun H locs ls y2 y3 y4 G hl h => ih H locs ls y2 y3 y4 G hl h) gF _ _ _ x2 x3 x4 (-1) 0 G (lv_sub hl [2, 3, 4, 5, 6, 1, 0] rfl) h
        · have h := g_it h c4
          refine lv_aload_n hx hb dX0_bestPlace_32 rfl (lv_at hl 0 rfl) ?_
          refine lv_iload_n hx hb dX0_bestPlace_33 rfl (lv_at hl 1 rfl) ?_
          refine lv_iload hx hb dX0_bestPlace_34 (lv_at hl 4 rfl) ?_
          obtain ⟨v5, e_v5, h⟩ := g_bind h
          refine g_calli (g_runV (n := 2) (As := [.int a1, .int x4]) (rest := []) C G (mX0_seamsAt l X σ t a1 x4 v5 ok e_v5) ok.1.2 (gE_0 ok.1.1) rfl (g_goodV u_ml_RX0_93 u_im_yX0_seamsAt u_se_yX0_seamsAt u_in_RX0 u_co_yX0_seamsAt) rfl rfl rfl (by decide +kernel) ⟨Nat.le_of_ble_eq_true rfl, Nat.le_of_ble_eq_true rfl⟩ rfl hl.1 rfl (Nat.le_of_ble_eq_true rfl) dX0_bestPlace_36 ⟨Nat.zero_le _, Nat.zero_le _⟩) G (fun H locs G => ?_)
          refine lv_goto (tgt := 43) hx hb dX0_bestPlace_39 (by decide) ?_
          refine lv_istore (lv' := [(5, .int v5), (0, .ref (xN X + t)), (1, .int a1), (2, .int x2), (3, .int x3), (4, .int x4)]) hx hb dX0_bestPlace_43 hl (by decide) rfl (fun ls hl => ?_)
          refine lv_iconst (v := 0) hx hb dX0_bestPlace_45 (by decide) ?_
          refine lv_istore (lv' := [(6, .int 0), (5, .int v5), (0, .ref (xN X + t)), (1, .int a1), (2, .int x2), (3, .int x3), (4, .int x4)]) hx hb dX0_bestPlace_46 hl (by decide) rfl (fun ls hl => ?_)
          exact L48 (fun y2 y3 y4 => fX0_bestPlace_7 σ t a1 n y2 y3 y4) (fun H locs ls y2 y3 y4 G hl h => ih H locs ls y2 y3 y4 G hl h) gF _ _ _ x2 x3 x4 v5 0 G (lv_sub hl [2, 3, 4, 5, 6, 1, 0] rfl) h
  unfold fX0_bestPlace at h
  refine lv_iconst (v := (-1)) hx hb dX0_bestPlace_0 (by decide) ?_
  refine lv_istore_n (lv' := [(2, .int (-1)), (0, .ref (xN X + t)), (1, .int a1)]) hx hb dX0_bestPlace_1 rfl hl (by decide) rfl (fun ls hl => ?_)
  refine lv_iconst (v := (-1)) hx hb dX0_bestPlace_2 (by decide) ?_
  refine lv_istore_n (lv' := [(3, .int (-1)), (2, .int (-1)), (0, .ref (xN X + t)), (1, .int a1)]) hx hb dX0_bestPlace_3 rfl hl (by decide) rfl (fun ls hl => ?_)
  refine lv_iconst (v := 0) hx hb dX0_bestPlace_4 (by decide) ?_
  refine lv_istore (lv' := [(4, .int 0), (3, .int (-1)), (2, .int (-1)), (0, .ref (xN X + t)), (1, .int a1)]) hx hb dX0_bestPlace_5 hl (by decide) rfl (fun ls hl => ?_)
  exact L7  gF _ _ _ (-1) (-1) 0 G (lv_sub hl [3, 4, 2, 1, 0] rfl) h

def fX0_layNext_2 (t : Nat) : Nat → gM → Int32 → Option (Int32 × gM)
  | 0, _, _ => none
  | n + 1, σ, x1 =>
    ((fX6_size σ (t + 1)).bind fun v1 =>
    (if v1 ≤ x1 then
      some (0, σ)
    else
      ((fX4_lies σ (t + 8) x1).bind fun v3 =>
      (if v3 = 0 then
        ((fX0_bestPlace σ t x1).bind fun v5 =>
        (if v5 = (-1) then
          (gl (x1 + 1) fun w7 =>
          fX0_layNext_2 t n σ w7)
        else
          ((fX4_put σ (t + 8) x1 (v5 / 10) (v5 - v5 / 10 * 10)).bind fun σ9 =>
          some (1, σ9))))
      else
        (gl (x1 + 1) fun w11 =>
        fX0_layNext_2 t n σ w11)))))

def fX0_layNext (σ : gM) (t : Nat) : Option (Int32 × gM) :=
  fX0_layNext_2 t gF σ 0
set_option maxHeartbeats 4000000 in
set_option maxRecDepth 100000 in
theorem mX0_layNext (l : Launch) (X : gX) (σ σ' : gM) (t : Nat) (r : Int32) (ok : gok0 X t) (h : fX0_layNext σ t = some (r, σ')) : Met l yX0_layNext (Cond.code yX0_layNext cX0_layNext 3 (some .boolean) :: gBig) ({ frames := 5, cells := 0, slots := 0, locals := 125 }) (gPc X σ [.ref (xN X + t)]) (gQi X σ' r) 0 0 (xA X) := by
  refine g_meti (cc := cX0_layNext) (maxL := 3) (own := RX0) (by decide) rfl rfl (Nat.le_of_ble_eq_true rfl) ?_
  intro p ev s m args below meth c Q C G ret ls hl
  obtain ⟨⟨hx, hb, hml, hown, hts⟩, hK⟩ := id C
  have hl : lv_has ls 3 [(0, .ref (xN X + t))] := hl
  have L2 : ∀ (n : Nat) (H : Heap) (locs : List Loc) (ls : Array Slot) (σ : gM) (x1 : Int32), gG X σ s H locs → lv_has ls 3 [(0, .ref (xN X + t)), (1, .int x1)] → fX0_layNext_2 t n σ x1 = some (r, σ') → W p l ev ({ frames := 5, cells := 0, slots := 0, locals := 125 }) s m args below meth c H locs 0 0 Q (F0 m 2 ls []) := by
    intro n
    induction n with
    | zero =>
      intro H locs ls σ x1 G hl h
      rw [fX0_layNext_2] at h
      cases h
    | succ n ih =>
      intro H locs ls σ x1 G hl h
      rw [fX0_layNext_2] at h
      refine lv_iload_n hx hb dX0_layNext_2 rfl (lv_at hl 1 rfl) ?_
      refine lv_aload_n hx hb dX0_layNext_3 rfl (lv_at hl 0 rfl) ?_
      refine gg0_0 C G ok.1 ok.2.1.1 u_fl_RX0_12 dX0_layNext_4 ?_
      obtain ⟨v1, e_v1, h⟩ := g_bind h
      refine g_calli (g_runV (n := 0) (As := []) (rest := [.int x1]) C G (mX6_size l X σ (t + 1) v1 ok.2.2.1 e_v1) ok.2.2.1.1.2 (gE_6 ok.2.2.1.1.1) rfl (g_goodV u_ml_RX0_37 u_im_yX6_size u_se_yX6_size u_in_RX6 u_co_yX6_size) rfl rfl rfl (by decide +kernel) ⟨Nat.le_of_ble_eq_true rfl, Nat.le_of_ble_eq_true rfl⟩ rfl hl.1 rfl (Nat.le_of_ble_eq_true rfl) dX0_layNext_7 ⟨Nat.zero_le _, Nat.zero_le _⟩) G (fun H locs G => ?_)
      refine lv_icmp_ge (tgt := 63) hx hb dX0_layNext_10 (by decide) (fun c2 => ?_) (fun c2 => ?_)
      · have h := g_it h c2
        refine lv_iconst (v := 0) hx hb dX0_layNext_63 (by decide) ?_
        exact ret dX0_layNext_64 rfl G (Prod.mk.inj (Option.some.inj h))
      · have h := g_if h c2
        refine lv_aload_n hx hb dX0_layNext_13 rfl (lv_at hl 0 rfl) ?_
        refine gg0_1 C G ok.1 ok.2.1.2 u_fl_RX0_21 dX0_layNext_14 ?_
        refine lv_iload_n hx hb dX0_layNext_17 rfl (lv_at hl 1 rfl) ?_
        obtain ⟨v3, e_v3, h⟩ := g_bind h
        refine g_calli (g_runV (n := 1) (As := [.int x1]) (rest := []) C G (mX4_lies l X σ (t + 8) x1 v3 ok.2.2.2 e_v3) ok.2.2.2.1.2 (gE_4 ok.2.2.2.1.1) rfl (g_goodV u_ml_RX0_41 u_im_yX4_lies u_se_yX4_lies u_in_RX4 u_co_yX4_lies) rfl rfl rfl (by decide +kernel) ⟨Nat.le_of_ble_eq_true rfl, Nat.le_of_ble_eq_true rfl⟩ rfl hl.1 rfl (Nat.le_of_ble_eq_true rfl) dX0_layNext_18 ⟨Nat.zero_le _, Nat.zero_le _⟩) G (fun H locs G => ?_)
        refine lv_if_eq (tgt := 28) hx hb dX0_layNext_21 (by decide) (fun c4 => ?_) (fun c4 => ?_)
        · have h := g_it h c4
          refine lv_aload_n hx hb dX0_layNext_28 rfl (lv_at hl 0 rfl) ?_
          refine lv_iload_n hx hb dX0_layNext_29 rfl (lv_at hl 1 rfl) ?_
          obtain ⟨v5, e_v5, h⟩ := g_bind h
          refine g_calli (g_runV (n := 1) (As := [.int x1]) (rest := []) C G (mX0_bestPlace l X σ t x1 v5 ok e_v5) ok.1.2 (gE_0 ok.1.1) rfl (g_goodV u_ml_RX0_96 u_im_yX0_bestPlace u_se_yX0_bestPlace u_in_RX0 u_co_yX0_bestPlace) rfl rfl rfl (by decide +kernel) ⟨Nat.le_of_ble_eq_true rfl, Nat.le_of_ble_eq_true rfl⟩ rfl hl.1 rfl (Nat.le_of_ble_eq_true rfl) dX0_layNext_30 ⟨Nat.zero_le _, Nat.zero_le _⟩) G (fun H locs G => ?_)
          refine lv_istore_n (lv' := [(2, .int v5), (0, .ref (xN X + t)), (1, .int x1)]) hx hb dX0_layNext_33 rfl hl (by decide) rfl (fun ls hl => ?_)
          refine lv_iload_n hx hb dX0_layNext_34 rfl (lv_at hl 0 rfl) ?_
          refine lv_iconst (v := (-1)) hx hb dX0_layNext_35 (by decide) ?_
          refine lv_icmp_eq (tgt := 57) hx hb dX0_layNext_36 (by decide) (fun c6 => ?_) (fun c6 => ?_)
          · have h := g_it h c6
            obtain ⟨w7, e_w7⟩ : ∃ y : Int32, y = x1 + 1 := ⟨_, rfl⟩
            have h := g_let2 e_w7 h
            refine lv_iinc (v := w7) (lv' := [(1, .int w7), (2, .int v5), (0, .ref (xN X + t))]) hx hb dX0_layNext_57 hl (k := 2) rfl (by rw [e_w7]; rfl) (by decide) rfl (fun ls hl => ?_)
            refine lv_goto (tgt := 2) hx hb dX0_layNext_60 (by decide) ?_
            exact ih _ _ _ σ w7 G (lv_sub hl [2, 0] rfl) h
          · have h := g_if h c6
            refine lv_aload_n hx hb dX0_layNext_39 rfl (lv_at hl 1 rfl) ?_
            refine gg0_1 C G ok.1 ok.2.1.2 u_fl_RX0_21 dX0_layNext_40 ?_
            refine lv_iload_n hx hb dX0_layNext_43 rfl (lv_at hl 2 rfl) ?_
            refine lv_iload_n hx hb dX0_layNext_44 rfl (lv_at hl 0 rfl) ?_
            refine lv_bipush (v := 10) hx hb dX0_layNext_45 (by decide) ?_
            refine lv_idiv hx hb dX0_layNext_47 (by decide) ?_
            refine lv_iload_n hx hb dX0_layNext_48 rfl (lv_at hl 0 rfl) ?_
            refine lv_bipush (v := 10) hx hb dX0_layNext_49 (by decide) ?_
            refine lv_irem hx hb dX0_layNext_51 (by decide) ?_
            obtain ⟨σ9, e_σ9, h⟩ := g_bind h
            refine g_callv (g_runV (n := 3) (As := [.int x1, .int (v5 / 10), .int (v5 - v5 / 10 * 10)]) (rest := []) C G (mX4_put l X σ σ9 (t + 8) x1 (v5 / 10) (v5 - v5 / 10 * 10) ok.2.2.2 e_σ9) ok.2.2.2.1.2 (gE_4 ok.2.2.2.1.1) rfl (g_goodV u_ml_RX0_99 u_im_yX4_put u_se_yX4_put u_in_RX4 u_co_yX4_put) rfl rfl rfl (by decide +kernel) ⟨Nat.le_of_ble_eq_true rfl, Nat.le_of_ble_eq_true rfl⟩ rfl hl.1 rfl (Nat.le_of_ble_eq_true rfl) dX0_layNext_52 ⟨Nat.zero_le _, Nat.zero_le _⟩) G (fun H locs G => ?_)
            refine lv_iconst (v := 1) hx hb dX0_layNext_55 (by decide) ?_
            exact ret dX0_layNext_56 rfl G (Prod.mk.inj (Option.some.inj h))
        · have h := g_if h c4
          refine lv_iconst (v := (-1)) hx hb dX0_layNext_24 (by decide) ?_
          refine lv_goto (tgt := 33) hx hb dX0_layNext_25 (by decide) ?_
          refine lv_istore_n (lv' := [(2, .int (-1)), (0, .ref (xN X + t)), (1, .int x1)]) hx hb dX0_layNext_33 rfl hl (by decide) rfl (fun ls hl => ?_)
          refine lv_iload_n hx hb dX0_layNext_34 rfl (lv_at hl 0 rfl) ?_
          refine lv_iconst (v := (-1)) hx hb dX0_layNext_35 (by decide) ?_
          refine lv_icmp_eq (tgt := 57) hx hb dX0_layNext_36 (by decide) (fun _ => ?_) (fun c10 => absurd c10 (by decide))
          obtain ⟨w11, e_w11⟩ : ∃ y : Int32, y = x1 + 1 := ⟨_, rfl⟩
          have h := g_let2 e_w11 h
          refine lv_iinc (v := w11) (lv' := [(1, .int w11), (2, .int (-1)), (0, .ref (xN X + t))]) hx hb dX0_layNext_57 hl (k := 2) rfl (by rw [e_w11]; rfl) (by decide) rfl (fun ls hl => ?_)
          refine lv_goto (tgt := 2) hx hb dX0_layNext_60 (by decide) ?_
          exact ih _ _ _ σ w11 G (lv_sub hl [2, 0] rfl) h
  unfold fX0_layNext at h
  refine lv_iconst (v := 0) hx hb dX0_layNext_0 (by decide) ?_
  refine lv_istore_n (lv' := [(1, .int 0), (0, .ref (xN X + t))]) hx hb dX0_layNext_1 rfl hl (by decide) rfl (fun ls hl => ?_)
  exact L2  gF _ _ _ σ 0 G (lv_sub hl [1, 0] rfl) h

def fX8_fill_13 (t : Nat) : Nat → gM → Int32 → Option (Int32 × gM)
  | 0, _, _ => none
  | n + 1, σ, x1 =>
    (if 12 ≤ x1 then
      some (x1, σ)
    else
      ((fX0_layNext σ (t + 1)).bind fun pv4 => gl pv4.1 fun v4 => gl pv4.2 fun σ5 =>
      (if v4 = 0 then
        some (x1, σ5)
      else
        (gl (x1 + 1) fun w7 =>
        fX8_fill_13 t n σ5 w7))))

def fX8_fill (σ : gM) (t : Nat) : Option (Int32 × gM) :=
  ((fX3_keep σ (t + 31) (t + 1)).bind fun σ2 =>
  fX8_fill_13 t gF σ2 0)
set_option maxHeartbeats 4000000 in
set_option maxRecDepth 100000 in
theorem mX8_fill (l : Launch) (X : gX) (σ σ' : gM) (t : Nat) (r : Int32) (ok : gok8 X t) (h : fX8_fill σ t = some (r, σ')) : Met l yX8_fill (Cond.code yX8_fill cX8_fill 2 (some .int) :: gBig) ({ frames := 6, cells := 0, slots := 0, locals := 150 }) (gPc X σ [.ref (xN X + t)]) (gQi X σ' r) 0 0 (xA X) := by
  refine g_meti (cc := cX8_fill) (maxL := 2) (own := RX8) (by decide) rfl rfl (Nat.le_of_ble_eq_true rfl) ?_
  intro p ev s m args below meth c Q C G ret ls hl
  obtain ⟨⟨hx, hb, hml, hown, hts⟩, hK⟩ := id C
  have hl : lv_has ls 2 [(0, .ref (xN X + t))] := hl
  have L13 : ∀ (n : Nat) (H : Heap) (locs : List Loc) (ls : Array Slot) (σ : gM) (x1 : Int32), gG X σ s H locs → lv_has ls 2 [(0, .ref (xN X + t)), (1, .int x1)] → fX8_fill_13 t n σ x1 = some (r, σ') → W p l ev ({ frames := 6, cells := 0, slots := 0, locals := 150 }) s m args below meth c H locs 0 0 Q (F0 m 13 ls []) := by
    intro n
    induction n with
    | zero =>
      intro H locs ls σ x1 G hl h
      rw [fX8_fill_13] at h
      cases h
    | succ n ih =>
      intro H locs ls σ x1 G hl h
      rw [fX8_fill_13] at h
      refine lv_iload_n hx hb dX8_fill_13 rfl (lv_at hl 1 rfl) ?_
      refine lv_bipush (v := 12) hx hb dX8_fill_14 (by decide) ?_
      refine lv_icmp_ge (tgt := 35) hx hb dX8_fill_16 (by decide) (fun c3 => ?_) (fun c3 => ?_)
      · have h := g_it h c3
        refine lv_iload_n hx hb dX8_fill_35 rfl (lv_at hl 1 rfl) ?_
        exact ret dX8_fill_36 rfl G (Prod.mk.inj (Option.some.inj h))
      · have h := g_if h c3
        refine lv_aload_n hx hb dX8_fill_19 rfl (lv_at hl 0 rfl) ?_
        refine gg8_0 C G ok.1 ok.2.1.1 u_fl_RX8_10 dX8_fill_20 ?_
        obtain ⟨⟨v4, σ5⟩, e_v4, h⟩ := g_bind h
        have h := g_let2 (v := v4) rfl h
        have h := g_let2 (v := σ5) rfl h
        refine g_calli (g_runV (n := 0) (As := []) (rest := []) C G (mX0_layNext l X σ σ5 (t + 1) v4 ok.2.2.1 e_v4) ok.2.2.1.1.2 (gE_0 ok.2.2.1.1.1) rfl (g_goodV u_ml_RX8_207 u_im_yX0_layNext u_se_yX0_layNext u_in_RX0 u_co_yX0_layNext) rfl rfl rfl (by decide +kernel) ⟨Nat.le_of_ble_eq_true rfl, Nat.le_of_ble_eq_true rfl⟩ rfl hl.1 rfl (Nat.le_of_ble_eq_true rfl) dX8_fill_23 ⟨Nat.zero_le _, Nat.zero_le _⟩) G (fun H locs G => ?_)
        refine lv_if_eq (tgt := 35) hx hb dX8_fill_26 (by decide) (fun c6 => ?_) (fun c6 => ?_)
        · have h := g_it h c6
          refine lv_iload_n hx hb dX8_fill_35 rfl (lv_at hl 1 rfl) ?_
          exact ret dX8_fill_36 rfl G (Prod.mk.inj (Option.some.inj h))
        · have h := g_if h c6
          obtain ⟨w7, e_w7⟩ : ∃ y : Int32, y = x1 + 1 := ⟨_, rfl⟩
          have h := g_let2 e_w7 h
          refine lv_iinc (v := w7) (lv' := [(1, .int w7), (0, .ref (xN X + t))]) hx hb dX8_fill_29 hl (k := 1) rfl (by rw [e_w7]; rfl) (by decide) rfl (fun ls hl => ?_)
          refine lv_goto (tgt := 13) hx hb dX8_fill_32 (by decide) ?_
          exact ih _ _ _ σ5 w7 G (lv_sub hl [1, 0] rfl) h
  unfold fX8_fill at h
  refine lv_aload_n hx hb dX8_fill_0 rfl (lv_at hl 0 rfl) ?_
  refine gg8_2 C G ok.1 ok.2.1.2.2.1 u_fl_RX8_22 dX8_fill_1 ?_
  refine lv_aload_n hx hb dX8_fill_4 rfl (lv_at hl 0 rfl) ?_
  refine gg8_0 C G ok.1 ok.2.1.1 u_fl_RX8_10 dX8_fill_5 ?_
  obtain ⟨σ2, e_σ2, h⟩ := g_bind h
  refine g_callv (g_runV (n := 1) (As := [.ref (xN X + (t + 1))]) (rest := []) C G (mX3_keep l X σ σ2 (t + 31) (t + 1) ok.2.2.2.2.1 ok.2.2.1 e_σ2) ok.2.2.2.2.1.1.2 (gE_3 ok.2.2.2.2.1.1.1) rfl (g_goodV u_ml_RX8_55 u_im_yX3_keep u_se_yX3_keep u_in_RX3 u_co_yX3_keep) rfl rfl rfl (by decide +kernel) ⟨Nat.le_of_ble_eq_true rfl, Nat.le_of_ble_eq_true rfl⟩ rfl hl.1 rfl (Nat.le_of_ble_eq_true rfl) dX8_fill_8 ⟨Nat.zero_le _, Nat.zero_le _⟩) G (fun H locs G => ?_)
  refine lv_iconst (v := 0) hx hb dX8_fill_11 (by decide) ?_
  refine lv_istore_n (lv' := [(1, .int 0), (0, .ref (xN X + t))]) hx hb dX8_fill_12 rfl hl (by decide) rfl (fun ls hl => ?_)
  exact L13  gF _ _ _ σ2 0 G (lv_sub hl [1, 0] rfl) h

def fX2_scrapOf_5 (σ : gM) (t : Nat) (a1 : Int32) (a2 : Int32) : Nat → Int32 → Int32 → Option (Int32)
  | 0, _, _ => none
  | n + 1, x3, x4 =>
    (if (σ t 1) ≤ x4 then
      some (-1)
    else
      ((fX5_get σ (t + 1) x4).bind fun v2 =>
      (if v2 = (-1) then
        (gl (x4 + 1) fun w4 =>
        fX2_scrapOf_5 σ t a1 a2 n x3 w4)
      else
        ((fX2_groupOf σ t x4).bind fun v5 =>
        (if v5 = a1 then
          (if x3 = a2 then
            some x4
          else
            (gl (x3 + 1) fun w8 =>
            (gl (x4 + 1) fun w9 =>
            fX2_scrapOf_5 σ t a1 a2 n w8 w9)))
        else
          (gl (x4 + 1) fun w10 =>
          fX2_scrapOf_5 σ t a1 a2 n x3 w10))))))

def fX2_scrapOf (σ : gM) (t : Nat) (a1 : Int32) (a2 : Int32) : Option (Int32) :=
  fX2_scrapOf_5 σ t a1 a2 gF 0 0
set_option maxHeartbeats 4000000 in
set_option maxRecDepth 100000 in
theorem mX2_scrapOf (l : Launch) (X : gX) (σ : gM) (t : Nat) (a1 : Int32) (a2 : Int32) (r : Int32) (ok : gok2 X t) (h : fX2_scrapOf σ t a1 a2 = some r) : Met l yX2_scrapOf (Cond.code yX2_scrapOf cX2_scrapOf 5 (some .int) :: gBig) ({ frames := 3, cells := 0, slots := 0, locals := 65 }) (gPc X σ [.ref (xN X + t), .int a1, .int a2]) (gQi X σ r) 0 0 (xA X) := by
  refine g_meti (cc := cX2_scrapOf) (maxL := 5) (own := RX2) (by decide) rfl rfl (Nat.le_of_ble_eq_true rfl) ?_
  intro p ev s m args below meth c Q C G ret ls hl
  obtain ⟨⟨hx, hb, hml, hown, hts⟩, hK⟩ := id C
  have hl : lv_has ls 5 [(0, .ref (xN X + t)), (1, .int a1), (2, .int a2)] := hl
  have L5 : ∀ (n : Nat) (H : Heap) (locs : List Loc) (ls : Array Slot) (x3 : Int32) (x4 : Int32), gG X σ s H locs → lv_has ls 5 [(0, .ref (xN X + t)), (1, .int a1), (2, .int a2), (3, .int x3), (4, .int x4)] → fX2_scrapOf_5 σ t a1 a2 n x3 x4 = some r → W p l ev ({ frames := 3, cells := 0, slots := 0, locals := 65 }) s m args below meth c H locs 0 0 Q (F0 m 5 ls []) := by
    intro n
    induction n with
    | zero =>
      intro H locs ls x3 x4 G hl h
      rw [fX2_scrapOf_5] at h
      cases h
    | succ n ih =>
      intro H locs ls x3 x4 G hl h
      rw [fX2_scrapOf_5] at h
      refine lv_iload hx hb dX2_scrapOf_5 (lv_at hl 4 rfl) ?_
      refine lv_aload_n hx hb dX2_scrapOf_7 rfl (lv_at hl 0 rfl) ?_
      refine gg2_1 C G ok.1 u_fl_RX2_32 dX2_scrapOf_8 ?_
      refine lv_icmp_ge (tgt := 54) hx hb dX2_scrapOf_11 (by decide) (fun c1 => ?_) (fun c1 => ?_)
      · have h := g_it h c1
        refine lv_iconst (v := (-1)) hx hb dX2_scrapOf_54 (by decide) ?_
        exact ret dX2_scrapOf_55 rfl G ⟨Option.some.inj h, rfl⟩
      · have h := g_if h c1
        refine lv_aload_n hx hb dX2_scrapOf_14 rfl (lv_at hl 0 rfl) ?_
        refine gg2_0 C G ok.1 ok.2.1 u_fl_RX2_14 dX2_scrapOf_15 ?_
        refine lv_iload hx hb dX2_scrapOf_18 (lv_at hl 4 rfl) ?_
        obtain ⟨v2, e_v2, h⟩ := g_bind h
        refine g_calli (g_runV (n := 1) (As := [.int x4]) (rest := []) C G (mX5_get l X σ (t + 1) x4 v2 ok.2.2 e_v2) ok.2.2.1.2 (gE_5 ok.2.2.1.1) rfl (g_goodV u_ml_RX2_61 u_im_yX5_get u_se_yX5_get u_in_RX5 u_co_yX5_get) rfl rfl rfl (by decide +kernel) ⟨Nat.le_of_ble_eq_true rfl, Nat.le_of_ble_eq_true rfl⟩ rfl hl.1 rfl (Nat.le_of_ble_eq_true rfl) dX2_scrapOf_20 ⟨Nat.zero_le _, Nat.zero_le _⟩) G (fun H locs G => ?_)
        refine lv_iconst (v := (-1)) hx hb dX2_scrapOf_23 (by decide) ?_
        refine lv_icmp_eq (tgt := 48) hx hb dX2_scrapOf_24 (by decide) (fun c3 => ?_) (fun c3 => ?_)
        · have h := g_it h c3
          obtain ⟨w4, e_w4⟩ : ∃ y : Int32, y = x4 + 1 := ⟨_, rfl⟩
          have h := g_let2 e_w4 h
          refine lv_iinc (v := w4) (lv' := [(4, .int w4), (0, .ref (xN X + t)), (1, .int a1), (2, .int a2), (3, .int x3)]) hx hb dX2_scrapOf_48 hl (k := 4) rfl (by rw [e_w4]; rfl) (by decide) rfl (fun ls hl => ?_)
          refine lv_goto (tgt := 5) hx hb dX2_scrapOf_51 (by decide) ?_
          exact ih _ _ _ x3 w4 G (lv_sub hl [1, 2, 3, 4, 0] rfl) h
        · have h := g_if h c3
          refine lv_aload_n hx hb dX2_scrapOf_27 rfl (lv_at hl 0 rfl) ?_
          refine lv_iload hx hb dX2_scrapOf_28 (lv_at hl 4 rfl) ?_
          obtain ⟨v5, e_v5, h⟩ := g_bind h
          refine g_calli (g_runV (n := 1) (As := [.int x4]) (rest := []) C G (mX2_groupOf l X σ t x4 v5 ok e_v5) ok.1.2 (gE_2 ok.1.1) rfl (g_goodV u_ml_RX2_73 u_im_yX2_groupOf u_se_yX2_groupOf u_in_RX2 u_co_yX2_groupOf) rfl rfl rfl (by decide +kernel) ⟨Nat.le_of_ble_eq_true rfl, Nat.le_of_ble_eq_true rfl⟩ rfl hl.1 rfl (Nat.le_of_ble_eq_true rfl) dX2_scrapOf_30 ⟨Nat.zero_le _, Nat.zero_le _⟩) G (fun H locs G => ?_)
          refine lv_iload_n hx hb dX2_scrapOf_33 rfl (lv_at hl 1 rfl) ?_
          refine lv_icmp_ne (tgt := 48) hx hb dX2_scrapOf_34 (by decide) (fun c6 => ?_) (fun c6 => ?_)
          · have h := g_if h c6
            obtain ⟨w10, e_w10⟩ : ∃ y : Int32, y = x4 + 1 := ⟨_, rfl⟩
            have h := g_let2 e_w10 h
            refine lv_iinc (v := w10) (lv' := [(4, .int w10), (0, .ref (xN X + t)), (1, .int a1), (2, .int a2), (3, .int x3)]) hx hb dX2_scrapOf_48 hl (k := 4) rfl (by rw [e_w10]; rfl) (by decide) rfl (fun ls hl => ?_)
            refine lv_goto (tgt := 5) hx hb dX2_scrapOf_51 (by decide) ?_
            exact ih _ _ _ x3 w10 G (lv_sub hl [1, 2, 3, 4, 0] rfl) h
          · have h := g_it h c6
            refine lv_iload_n hx hb dX2_scrapOf_37 rfl (lv_at hl 3 rfl) ?_
            refine lv_iload_n hx hb dX2_scrapOf_38 rfl (lv_at hl 2 rfl) ?_
            refine lv_icmp_ne (tgt := 45) hx hb dX2_scrapOf_39 (by decide) (fun c7 => ?_) (fun c7 => ?_)
            · have h := g_if h c7
              obtain ⟨w8, e_w8⟩ : ∃ y : Int32, y = x3 + 1 := ⟨_, rfl⟩
              have h := g_let2 e_w8 h
              refine lv_iinc (v := w8) (lv' := [(3, .int w8), (0, .ref (xN X + t)), (1, .int a1), (2, .int a2), (4, .int x4)]) hx hb dX2_scrapOf_45 hl (k := 3) rfl (by rw [e_w8]; rfl) (by decide) rfl (fun ls hl => ?_)
              obtain ⟨w9, e_w9⟩ : ∃ y : Int32, y = x4 + 1 := ⟨_, rfl⟩
              have h := g_let2 e_w9 h
              refine lv_iinc (v := w9) (lv' := [(4, .int w9), (3, .int w8), (0, .ref (xN X + t)), (1, .int a1), (2, .int a2)]) hx hb dX2_scrapOf_48 hl (k := 4) rfl (by rw [e_w9]; rfl) (by decide) rfl (fun ls hl => ?_)
              refine lv_goto (tgt := 5) hx hb dX2_scrapOf_51 (by decide) ?_
              exact ih _ _ _ w8 w9 G (lv_sub hl [2, 3, 4, 1, 0] rfl) h
            · have h := g_it h c7
              refine lv_iload hx hb dX2_scrapOf_42 (lv_at hl 4 rfl) ?_
              exact ret dX2_scrapOf_44 rfl G ⟨Option.some.inj h, rfl⟩
  unfold fX2_scrapOf at h
  refine lv_iconst (v := 0) hx hb dX2_scrapOf_0 (by decide) ?_
  refine lv_istore_n (lv' := [(3, .int 0), (0, .ref (xN X + t)), (1, .int a1), (2, .int a2)]) hx hb dX2_scrapOf_1 rfl hl (by decide) rfl (fun ls hl => ?_)
  refine lv_iconst (v := 0) hx hb dX2_scrapOf_2 (by decide) ?_
  refine lv_istore (lv' := [(4, .int 0), (3, .int 0), (0, .ref (xN X + t)), (1, .int a1), (2, .int a2)]) hx hb dX2_scrapOf_3 hl (by decide) rfl (fun ls hl => ?_)
  exact L5  gF _ _ _ 0 0 G (lv_sub hl [2, 3, 4, 1, 0] rfl) h
