def fX2_countBelow_4 (σ : gM) (t : Nat) (a1 : Int32) : Nat → Int32 → Int32 → Option (Int32)
  | 0, _, _ => none
  | n + 1, x2, x3 =>
    (if a1 ≤ x3 then
      some x2
    else
      (if (σ t 1) ≤ x3 then
        some x2
      else
        ((fX5_get σ (t + 1) x3).bind fun v3 =>
        (if v3 = x3 then
          (gl (x2 + 1) fun w5 =>
          (gl (x3 + 1) fun w6 =>
          fX2_countBelow_4 σ t a1 n w5 w6))
        else
          (gl (x3 + 1) fun w7 =>
          fX2_countBelow_4 σ t a1 n x2 w7)))))

def fX2_countBelow (σ : gM) (t : Nat) (a1 : Int32) : Option (Int32) :=
  fX2_countBelow_4 σ t a1 gF 0 0
set_option maxHeartbeats 4000000 in
set_option maxRecDepth 100000 in
theorem mX2_countBelow (l : Launch) (X : gX) (σ : gM) (t : Nat) (a1 : Int32) (r : Int32) (ok : gok2 X t) (h : fX2_countBelow σ t a1 = some r) : Met l yX2_countBelow (Cond.code yX2_countBelow cX2_countBelow 4 (some .int) :: gBig) ({ frames := 1, cells := 0, slots := 0, locals := 21 }) (gPc X σ [.ref (xN X + t), .int a1]) (gQi X σ r) 0 0 (xA X) := by
  refine g_meti (cc := cX2_countBelow) (maxL := 4) (own := RX2) (by decide) rfl rfl (Nat.le_of_ble_eq_true rfl) ?_
  intro p ev s m args below meth c Q C G ret ls hl
  obtain ⟨⟨hx, hb, hml, hown, hts⟩, hK⟩ := id C
  have hl : lv_has ls 4 [(0, .ref (xN X + t)), (1, .int a1)] := hl
  have L4 : ∀ (n : Nat) (H : Heap) (locs : List Loc) (ls : Array Slot) (x2 : Int32) (x3 : Int32), gG X σ s H locs → lv_has ls 4 [(0, .ref (xN X + t)), (1, .int a1), (2, .int x2), (3, .int x3)] → fX2_countBelow_4 σ t a1 n x2 x3 = some r → W p l ev ({ frames := 1, cells := 0, slots := 0, locals := 21 }) s m args below meth c H locs 0 0 Q (F0 m 4 ls []) := by
    intro n
    induction n with
    | zero =>
      intro H locs ls x2 x3 G hl h
      rw [fX2_countBelow_4] at h
      cases h
    | succ n ih =>
      intro H locs ls x2 x3 G hl h
      rw [fX2_countBelow_4] at h
      refine lv_iload_n hx hb dX2_countBelow_4 rfl (lv_at hl 3 rfl) ?_
      refine lv_iload_n hx hb dX2_countBelow_5 rfl (lv_at hl 1 rfl) ?_
      refine lv_icmp_ge (tgt := 38) hx hb dX2_countBelow_6 (by decide) (fun c1 => ?_) (fun c1 => ?_)
      · have h := g_it h c1
        refine lv_iload_n hx hb dX2_countBelow_38 rfl (lv_at hl 2 rfl) ?_
        exact ret dX2_countBelow_39 rfl G ⟨Option.some.inj h, rfl⟩
      · have h := g_if h c1
        refine lv_iload_n hx hb dX2_countBelow_9 rfl (lv_at hl 3 rfl) ?_
        refine lv_aload_n hx hb dX2_countBelow_10 rfl (lv_at hl 0 rfl) ?_
        refine gg2_1 C G ok.1 u_fl_RX2_32 dX2_countBelow_11 ?_
        refine lv_icmp_ge (tgt := 38) hx hb dX2_countBelow_14 (by decide) (fun c2 => ?_) (fun c2 => ?_)
        · have h := g_it h c2
          refine lv_iload_n hx hb dX2_countBelow_38 rfl (lv_at hl 2 rfl) ?_
          exact ret dX2_countBelow_39 rfl G ⟨Option.some.inj h, rfl⟩
        · have h := g_if h c2
          refine lv_aload_n hx hb dX2_countBelow_17 rfl (lv_at hl 0 rfl) ?_
          refine gg2_0 C G ok.1 ok.2.1 u_fl_RX2_14 dX2_countBelow_18 ?_
          refine lv_iload_n hx hb dX2_countBelow_21 rfl (lv_at hl 3 rfl) ?_
          obtain ⟨v3, e_v3, h⟩ := g_bind h
          refine g_calli (g_runV (n := 1) (As := [.int x3]) (rest := []) C G (mX5_get l X σ (t + 1) x3 v3 ok.2.2 e_v3) ok.2.2.1.2 (gE_5 ok.2.2.1.1) rfl (g_goodV u_ml_RX2_61 u_im_yX5_get u_se_yX5_get u_in_RX5 u_co_yX5_get) rfl rfl rfl (by decide +kernel) ⟨Nat.le_of_ble_eq_true rfl, Nat.le_of_ble_eq_true rfl⟩ rfl hl.1 rfl (Nat.le_of_ble_eq_true rfl) dX2_countBelow_22 ⟨Nat.zero_le _, Nat.zero_le _⟩) G (fun H locs G => ?_)
          refine lv_iload_n hx hb dX2_countBelow_25 rfl (lv_at hl 3 rfl) ?_
          refine lv_icmp_ne (tgt := 32) hx hb dX2_countBelow_26 (by decide) (fun c4 => ?_) (fun c4 => ?_)
          · have h := g_if h c4
            obtain ⟨w7, e_w7⟩ : ∃ y : Int32, y = x3 + 1 := ⟨_, rfl⟩
            have h := g_let2 e_w7 h
            refine lv_iinc (v := w7) (lv' := [(3, .int w7), (0, .ref (xN X + t)), (1, .int a1), (2, .int x2)]) hx hb dX2_countBelow_32 hl (k := 3) rfl (by rw [e_w7]; rfl) (by decide) rfl (fun ls hl => ?_)
            refine lv_goto (tgt := 4) hx hb dX2_countBelow_35 (by decide) ?_
            exact ih _ _ _ x2 w7 G (lv_sub hl [1, 2, 3, 0] rfl) h
          · have h := g_it h c4
            obtain ⟨w5, e_w5⟩ : ∃ y : Int32, y = x2 + 1 := ⟨_, rfl⟩
            have h := g_let2 e_w5 h
            refine lv_iinc (v := w5) (lv' := [(2, .int w5), (0, .ref (xN X + t)), (1, .int a1), (3, .int x3)]) hx hb dX2_countBelow_29 hl (k := 2) rfl (by rw [e_w5]; rfl) (by decide) rfl (fun ls hl => ?_)
            obtain ⟨w6, e_w6⟩ : ∃ y : Int32, y = x3 + 1 := ⟨_, rfl⟩
            have h := g_let2 e_w6 h
            refine lv_iinc (v := w6) (lv' := [(3, .int w6), (2, .int w5), (0, .ref (xN X + t)), (1, .int a1)]) hx hb dX2_countBelow_32 hl (k := 3) rfl (by rw [e_w6]; rfl) (by decide) rfl (fun ls hl => ?_)
            refine lv_goto (tgt := 4) hx hb dX2_countBelow_35 (by decide) ?_
            exact ih _ _ _ w5 w6 G (lv_sub hl [2, 3, 1, 0] rfl) h
  unfold fX2_countBelow at h
  refine lv_iconst (v := 0) hx hb dX2_countBelow_0 (by decide) ?_
  refine lv_istore_n (lv' := [(2, .int 0), (0, .ref (xN X + t)), (1, .int a1)]) hx hb dX2_countBelow_1 rfl hl (by decide) rfl (fun ls hl => ?_)
  refine lv_iconst (v := 0) hx hb dX2_countBelow_2 (by decide) ?_
  refine lv_istore_n (lv' := [(3, .int 0), (2, .int 0), (0, .ref (xN X + t)), (1, .int a1)]) hx hb dX2_countBelow_3 rfl hl (by decide) rfl (fun ls hl => ?_)
  exact L4  gF _ _ _ 0 0 G (lv_sub hl [2, 3, 1, 0] rfl) h

def fX2_groupOf (σ : gM) (t : Nat) (a1 : Int32) : Option (Int32) :=
  ((fX5_get σ (t + 1) a1).bind fun v1 =>
  ((fX2_countBelow σ t v1).bind fun v2 =>
  some v2))
set_option maxHeartbeats 4000000 in
set_option maxRecDepth 100000 in
theorem mX2_groupOf (l : Launch) (X : gX) (σ : gM) (t : Nat) (a1 : Int32) (r : Int32) (ok : gok2 X t) (h : fX2_groupOf σ t a1 = some r) : Met l yX2_groupOf (Cond.code yX2_groupOf cX2_groupOf 2 (some .int) :: gBig) ({ frames := 2, cells := 0, slots := 0, locals := 44 }) (gPc X σ [.ref (xN X + t), .int a1]) (gQi X σ r) 0 0 (xA X) := by
  refine g_meti (cc := cX2_groupOf) (maxL := 2) (own := RX2) (by decide) rfl rfl (Nat.le_of_ble_eq_true rfl) ?_
  intro p ev s m args below meth c Q C G ret ls hl
  obtain ⟨⟨hx, hb, hml, hown, hts⟩, hK⟩ := id C
  have hl : lv_has ls 2 [(0, .ref (xN X + t)), (1, .int a1)] := hl
  unfold fX2_groupOf at h
  refine lv_aload_n hx hb dX2_groupOf_0 rfl (lv_at hl 0 rfl) ?_
  refine lv_aload_n hx hb dX2_groupOf_1 rfl (lv_at hl 0 rfl) ?_
  refine gg2_0 C G ok.1 ok.2.1 u_fl_RX2_14 dX2_groupOf_2 ?_
  refine lv_iload_n hx hb dX2_groupOf_5 rfl (lv_at hl 1 rfl) ?_
  obtain ⟨v1, e_v1, h⟩ := g_bind h
  refine g_calli (g_runV (n := 1) (As := [.int a1]) (rest := [.ref (xN X + t)]) C G (mX5_get l X σ (t + 1) a1 v1 ok.2.2 e_v1) ok.2.2.1.2 (gE_5 ok.2.2.1.1) rfl (g_goodV u_ml_RX2_61 u_im_yX5_get u_se_yX5_get u_in_RX5 u_co_yX5_get) rfl rfl rfl (by decide +kernel) ⟨Nat.le_of_ble_eq_true rfl, Nat.le_of_ble_eq_true rfl⟩ rfl hl.1 rfl (Nat.le_of_ble_eq_true rfl) dX2_groupOf_6 ⟨Nat.zero_le _, Nat.zero_le _⟩) G (fun H locs G => ?_)
  obtain ⟨v2, e_v2, h⟩ := g_bind h
  refine g_calli (g_runV (n := 1) (As := [.int v1]) (rest := []) C G (mX2_countBelow l X σ t v1 v2 ok e_v2) ok.1.2 (gE_2 ok.1.1) rfl (g_goodV u_ml_RX2_70 u_im_yX2_countBelow u_se_yX2_countBelow u_in_RX2 u_co_yX2_countBelow) rfl rfl rfl (by decide +kernel) ⟨Nat.le_of_ble_eq_true rfl, Nat.le_of_ble_eq_true rfl⟩ rfl hl.1 rfl (Nat.le_of_ble_eq_true rfl) dX2_groupOf_9 ⟨Nat.zero_le _, Nat.zero_le _⟩) G (fun H locs G => ?_)
  exact ret dX2_groupOf_12 rfl G ⟨Option.some.inj h, rfl⟩

def fX0_verdictOnPage (σ : gM) (t : Nat) (a1 : Int32) (a2 : Int32) : Option (Int32) :=
  ((fX4_placeOf σ (t + 8) a1).bind fun v1 =>
  (if v1 = (-1) then
    some (-1)
  else
    ((fX4_orientationOf σ (t + 8) a1).bind fun v3 =>
    ((fX0_verdict σ t a1 v1 v3 a2).bind fun v4 =>
    some v4))))
set_option maxHeartbeats 4000000 in
set_option maxRecDepth 100000 in
theorem mX0_verdictOnPage (l : Launch) (X : gX) (σ : gM) (t : Nat) (a1 : Int32) (a2 : Int32) (r : Int32) (ok : gok0 X t) (h : fX0_verdictOnPage σ t a1 a2 = some r) : Met l yX0_verdictOnPage (Cond.code yX0_verdictOnPage cX0_verdictOnPage 4 (some .int) :: gBig) ({ frames := 3, cells := 0, slots := 0, locals := 75 }) (gPc X σ [.ref (xN X + t), .int a1, .int a2]) (gQi X σ r) 0 0 (xA X) := by
  refine g_meti (cc := cX0_verdictOnPage) (maxL := 4) (own := RX0) (by decide) rfl rfl (Nat.le_of_ble_eq_true rfl) ?_
  intro p ev s m args below meth c Q C G ret ls hl
  obtain ⟨⟨hx, hb, hml, hown, hts⟩, hK⟩ := id C
  have hl : lv_has ls 4 [(0, .ref (xN X + t)), (1, .int a1), (2, .int a2)] := hl
  unfold fX0_verdictOnPage at h
  refine lv_aload_n hx hb dX0_verdictOnPage_0 rfl (lv_at hl 0 rfl) ?_
  refine gg0_1 C G ok.1 ok.2.1.2 u_fl_RX0_21 dX0_verdictOnPage_1 ?_
  refine lv_iload_n hx hb dX0_verdictOnPage_4 rfl (lv_at hl 1 rfl) ?_
  obtain ⟨v1, e_v1, h⟩ := g_bind h
  refine g_calli (g_runV (n := 1) (As := [.int a1]) (rest := []) C G (mX4_placeOf l X σ (t + 8) a1 v1 ok.2.2.2 e_v1) ok.2.2.2.1.2 (gE_4 ok.2.2.2.1.1) rfl (g_goodV u_ml_RX0_77 u_im_yX4_placeOf u_se_yX4_placeOf u_in_RX4 u_co_yX4_placeOf) rfl rfl rfl (by decide +kernel) ⟨Nat.le_of_ble_eq_true rfl, Nat.le_of_ble_eq_true rfl⟩ rfl hl.1 rfl (Nat.le_of_ble_eq_true rfl) dX0_verdictOnPage_5 ⟨Nat.zero_le _, Nat.zero_le _⟩) G (fun H locs G => ?_)
  refine lv_istore_n (lv' := [(3, .int v1), (0, .ref (xN X + t)), (1, .int a1), (2, .int a2)]) hx hb dX0_verdictOnPage_8 rfl hl (by decide) rfl (fun ls hl => ?_)
  refine lv_iload_n hx hb dX0_verdictOnPage_9 rfl (lv_at hl 0 rfl) ?_
  refine lv_iconst (v := (-1)) hx hb dX0_verdictOnPage_10 (by decide) ?_
  refine lv_icmp_ne (tgt := 18) hx hb dX0_verdictOnPage_11 (by decide) (fun c2 => ?_) (fun c2 => ?_)
  · have h := g_if h c2
    refine lv_aload_n hx hb dX0_verdictOnPage_18 rfl (lv_at hl 1 rfl) ?_
    refine lv_iload_n hx hb dX0_verdictOnPage_19 rfl (lv_at hl 2 rfl) ?_
    refine lv_iload_n hx hb dX0_verdictOnPage_20 rfl (lv_at hl 0 rfl) ?_
    refine lv_aload_n hx hb dX0_verdictOnPage_21 rfl (lv_at hl 1 rfl) ?_
    refine gg0_1 C G ok.1 ok.2.1.2 u_fl_RX0_21 dX0_verdictOnPage_22 ?_
    refine lv_iload_n hx hb dX0_verdictOnPage_25 rfl (lv_at hl 2 rfl) ?_
    obtain ⟨v3, e_v3, h⟩ := g_bind h
    refine g_calli (g_runV (n := 1) (As := [.int a1]) (rest := [.int v1, .int a1, .ref (xN X + t)]) C G (mX4_orientationOf l X σ (t + 8) a1 v3 ok.2.2.2 e_v3) ok.2.2.2.1.2 (gE_4 ok.2.2.2.1.1) rfl (g_goodV u_ml_RX0_57 u_im_yX4_orientationOf u_se_yX4_orientationOf u_in_RX4 u_co_yX4_orientationOf) rfl rfl rfl (by decide +kernel) ⟨Nat.le_of_ble_eq_true rfl, Nat.le_of_ble_eq_true rfl⟩ rfl hl.1 rfl (Nat.le_of_ble_eq_true rfl) dX0_verdictOnPage_26 ⟨Nat.zero_le _, Nat.zero_le _⟩) G (fun H locs G => ?_)
    refine lv_iload_n hx hb dX0_verdictOnPage_29 rfl (lv_at hl 3 rfl) ?_
    obtain ⟨v4, e_v4, h⟩ := g_bind h
    refine g_calli (g_runV (n := 4) (As := [.int a1, .int v1, .int v3, .int a2]) (rest := []) C G (mX0_verdict l X σ t a1 v1 v3 a2 v4 ok e_v4) ok.1.2 (gE_0 ok.1.1) rfl (g_goodV u_ml_RX0_63 u_im_yX0_verdict u_se_yX0_verdict u_in_RX0 u_co_yX0_verdict) rfl rfl rfl (by decide +kernel) ⟨Nat.le_of_ble_eq_true rfl, Nat.le_of_ble_eq_true rfl⟩ rfl hl.1 rfl (Nat.le_of_ble_eq_true rfl) dX0_verdictOnPage_30 ⟨Nat.zero_le _, Nat.zero_le _⟩) G (fun H locs G => ?_)
    exact ret dX0_verdictOnPage_33 rfl G ⟨Option.some.inj h, rfl⟩
  · have h := g_it h c2
    refine lv_iconst (v := (-1)) hx hb dX0_verdictOnPage_14 (by decide) ?_
    refine lv_goto (tgt := 33) hx hb dX0_verdictOnPage_15 (by decide) ?_
    exact ret dX0_verdictOnPage_33 rfl G ⟨Option.some.inj h, rfl⟩

def fX0_countFits_4 (σ : gM) (t : Nat) (a1 : Int32) : Nat → Int32 → Int32 → Option (Int32)
  | 0, _, _ => none
  | n + 1, x2, x3 =>
    (if 4 ≤ x3 then
      some x2
    else
      ((fX0_verdictOnPage σ t a1 x3).bind fun v2 =>
      (if v2 = 0 then
        (gl (x2 + 1) fun w4 =>
        (gl (x3 + 1) fun w5 =>
        fX0_countFits_4 σ t a1 n w4 w5))
      else
        (gl (x3 + 1) fun w6 =>
        fX0_countFits_4 σ t a1 n x2 w6))))

def fX0_countFits (σ : gM) (t : Nat) (a1 : Int32) : Option (Int32) :=
  fX0_countFits_4 σ t a1 gF 0 0
set_option maxHeartbeats 4000000 in
set_option maxRecDepth 100000 in
theorem mX0_countFits (l : Launch) (X : gX) (σ : gM) (t : Nat) (a1 : Int32) (r : Int32) (ok : gok0 X t) (h : fX0_countFits σ t a1 = some r) : Met l yX0_countFits (Cond.code yX0_countFits cX0_countFits 4 (some .int) :: gBig) ({ frames := 4, cells := 0, slots := 0, locals := 98 }) (gPc X σ [.ref (xN X + t), .int a1]) (gQi X σ r) 0 0 (xA X) := by
  refine g_meti (cc := cX0_countFits) (maxL := 4) (own := RX0) (by decide) rfl rfl (Nat.le_of_ble_eq_true rfl) ?_
  intro p ev s m args below meth c Q C G ret ls hl
  obtain ⟨⟨hx, hb, hml, hown, hts⟩, hK⟩ := id C
  have hl : lv_has ls 4 [(0, .ref (xN X + t)), (1, .int a1)] := hl
  have L4 : ∀ (n : Nat) (H : Heap) (locs : List Loc) (ls : Array Slot) (x2 : Int32) (x3 : Int32), gG X σ s H locs → lv_has ls 4 [(0, .ref (xN X + t)), (1, .int a1), (2, .int x2), (3, .int x3)] → fX0_countFits_4 σ t a1 n x2 x3 = some r → W p l ev ({ frames := 4, cells := 0, slots := 0, locals := 98 }) s m args below meth c H locs 0 0 Q (F0 m 4 ls []) := by
    intro n
    induction n with
    | zero =>
      intro H locs ls x2 x3 G hl h
      rw [fX0_countFits_4] at h
      cases h
    | succ n ih =>
      intro H locs ls x2 x3 G hl h
      rw [fX0_countFits_4] at h
      refine lv_iload_n hx hb dX0_countFits_4 rfl (lv_at hl 3 rfl) ?_
      refine lv_iconst (v := 4) hx hb dX0_countFits_5 (by decide) ?_
      refine lv_icmp_ge (tgt := 27) hx hb dX0_countFits_6 (by decide) (fun c1 => ?_) (fun c1 => ?_)
      · have h := g_it h c1
        refine lv_iload_n hx hb dX0_countFits_27 rfl (lv_at hl 2 rfl) ?_
        exact ret dX0_countFits_28 rfl G ⟨Option.some.inj h, rfl⟩
      · have h := g_if h c1
        refine lv_aload_n hx hb dX0_countFits_9 rfl (lv_at hl 0 rfl) ?_
        refine lv_iload_n hx hb dX0_countFits_10 rfl (lv_at hl 1 rfl) ?_
        refine lv_iload_n hx hb dX0_countFits_11 rfl (lv_at hl 3 rfl) ?_
        obtain ⟨v2, e_v2, h⟩ := g_bind h
        refine g_calli (g_runV (n := 2) (As := [.int a1, .int x3]) (rest := []) C G (mX0_verdictOnPage l X σ t a1 x3 v2 ok e_v2) ok.1.2 (gE_0 ok.1.1) rfl (g_goodV u_ml_RX0_74 u_im_yX0_verdictOnPage u_se_yX0_verdictOnPage u_in_RX0 u_co_yX0_verdictOnPage) rfl rfl rfl (by decide +kernel) ⟨Nat.le_of_ble_eq_true rfl, Nat.le_of_ble_eq_true rfl⟩ rfl hl.1 rfl (Nat.le_of_ble_eq_true rfl) dX0_countFits_12 ⟨Nat.zero_le _, Nat.zero_le _⟩) G (fun H locs G => ?_)
        refine lv_if_ne (tgt := 21) hx hb dX0_countFits_15 (by decide) (fun c3 => ?_) (fun c3 => ?_)
        · have h := g_if h c3
          obtain ⟨w6, e_w6⟩ : ∃ y : Int32, y = x3 + 1 := ⟨_, rfl⟩
          have h := g_let2 e_w6 h
          refine lv_iinc (v := w6) (lv' := [(3, .int w6), (0, .ref (xN X + t)), (1, .int a1), (2, .int x2)]) hx hb dX0_countFits_21 hl (k := 3) rfl (by rw [e_w6]; rfl) (by decide) rfl (fun ls hl => ?_)
          refine lv_goto (tgt := 4) hx hb dX0_countFits_24 (by decide) ?_
          exact ih _ _ _ x2 w6 G (lv_sub hl [1, 2, 3, 0] rfl) h
        · have h := g_it h c3
          obtain ⟨w4, e_w4⟩ : ∃ y : Int32, y = x2 + 1 := ⟨_, rfl⟩
          have h := g_let2 e_w4 h
          refine lv_iinc (v := w4) (lv' := [(2, .int w4), (0, .ref (xN X + t)), (1, .int a1), (3, .int x3)]) hx hb dX0_countFits_18 hl (k := 2) rfl (by rw [e_w4]; rfl) (by decide) rfl (fun ls hl => ?_)
          obtain ⟨w5, e_w5⟩ : ∃ y : Int32, y = x3 + 1 := ⟨_, rfl⟩
          have h := g_let2 e_w5 h
          refine lv_iinc (v := w5) (lv' := [(3, .int w5), (2, .int w4), (0, .ref (xN X + t)), (1, .int a1)]) hx hb dX0_countFits_21 hl (k := 3) rfl (by rw [e_w5]; rfl) (by decide) rfl (fun ls hl => ?_)
          refine lv_goto (tgt := 4) hx hb dX0_countFits_24 (by decide) ?_
          exact ih _ _ _ w4 w5 G (lv_sub hl [2, 3, 1, 0] rfl) h
  unfold fX0_countFits at h
  refine lv_iconst (v := 0) hx hb dX0_countFits_0 (by decide) ?_
  refine lv_istore_n (lv' := [(2, .int 0), (0, .ref (xN X + t)), (1, .int a1)]) hx hb dX0_countFits_1 rfl hl (by decide) rfl (fun ls hl => ?_)
  refine lv_iconst (v := 0) hx hb dX0_countFits_2 (by decide) ?_
  refine lv_istore_n (lv' := [(3, .int 0), (2, .int 0), (0, .ref (xN X + t)), (1, .int a1)]) hx hb dX0_countFits_3 rfl hl (by decide) rfl (fun ls hl => ?_)
  exact L4  gF _ _ _ 0 0 G (lv_sub hl [2, 3, 1, 0] rfl) h

def fX0_countFaults_4 (σ : gM) (t : Nat) (a1 : Int32) : Nat → Int32 → Int32 → Option (Int32)
  | 0, _, _ => none
  | n + 1, x2, x3 =>
    (if 4 ≤ x3 then
      some x2
    else
      ((fX0_verdictOnPage σ t a1 x3).bind fun v2 =>
      (if v2 ≤ 0 then
        (gl (x3 + 1) fun w4 =>
        fX0_countFaults_4 σ t a1 n x2 w4)
      else
        (gl (x2 + 1) fun w5 =>
        (gl (x3 + 1) fun w6 =>
        fX0_countFaults_4 σ t a1 n w5 w6)))))

def fX0_countFaults (σ : gM) (t : Nat) (a1 : Int32) : Option (Int32) :=
  fX0_countFaults_4 σ t a1 gF 0 0
set_option maxHeartbeats 4000000 in
set_option maxRecDepth 100000 in
theorem mX0_countFaults (l : Launch) (X : gX) (σ : gM) (t : Nat) (a1 : Int32) (r : Int32) (ok : gok0 X t) (h : fX0_countFaults σ t a1 = some r) : Met l yX0_countFaults (Cond.code yX0_countFaults cX0_countFaults 4 (some .int) :: gBig) ({ frames := 4, cells := 0, slots := 0, locals := 98 }) (gPc X σ [.ref (xN X + t), .int a1]) (gQi X σ r) 0 0 (xA X) := by
  refine g_meti (cc := cX0_countFaults) (maxL := 4) (own := RX0) (by decide) rfl rfl (Nat.le_of_ble_eq_true rfl) ?_
  intro p ev s m args below meth c Q C G ret ls hl
  obtain ⟨⟨hx, hb, hml, hown, hts⟩, hK⟩ := id C
  have hl : lv_has ls 4 [(0, .ref (xN X + t)), (1, .int a1)] := hl
  have L4 : ∀ (n : Nat) (H : Heap) (locs : List Loc) (ls : Array Slot) (x2 : Int32) (x3 : Int32), gG X σ s H locs → lv_has ls 4 [(0, .ref (xN X + t)), (1, .int a1), (2, .int x2), (3, .int x3)] → fX0_countFaults_4 σ t a1 n x2 x3 = some r → W p l ev ({ frames := 4, cells := 0, slots := 0, locals := 98 }) s m args below meth c H locs 0 0 Q (F0 m 4 ls []) := by
    intro n
    induction n with
    | zero =>
      intro H locs ls x2 x3 G hl h
      rw [fX0_countFaults_4] at h
      cases h
    | succ n ih =>
      intro H locs ls x2 x3 G hl h
      rw [fX0_countFaults_4] at h
      refine lv_iload_n hx hb dX0_countFaults_4 rfl (lv_at hl 3 rfl) ?_
      refine lv_iconst (v := 4) hx hb dX0_countFaults_5 (by decide) ?_
      refine lv_icmp_ge (tgt := 27) hx hb dX0_countFaults_6 (by decide) (fun c1 => ?_) (fun c1 => ?_)
      · have h := g_it h c1
        refine lv_iload_n hx hb dX0_countFaults_27 rfl (lv_at hl 2 rfl) ?_
        exact ret dX0_countFaults_28 rfl G ⟨Option.some.inj h, rfl⟩
      · have h := g_if h c1
        refine lv_aload_n hx hb dX0_countFaults_9 rfl (lv_at hl 0 rfl) ?_
        refine lv_iload_n hx hb dX0_countFaults_10 rfl (lv_at hl 1 rfl) ?_
        refine lv_iload_n hx hb dX0_countFaults_11 rfl (lv_at hl 3 rfl) ?_
        obtain ⟨v2, e_v2, h⟩ := g_bind h
        refine g_calli (g_runV (n := 2) (As := [.int a1, .int x3]) (rest := []) C G (mX0_verdictOnPage l X σ t a1 x3 v2 ok e_v2) ok.1.2 (gE_0 ok.1.1) rfl (g_goodV u_ml_RX0_74 u_im_yX0_verdictOnPage u_se_yX0_verdictOnPage u_in_RX0 u_co_yX0_verdictOnPage) rfl rfl rfl (by decide +kernel) ⟨Nat.le_of_ble_eq_true rfl, Nat.le_of_ble_eq_true rfl⟩ rfl hl.1 rfl (Nat.le_of_ble_eq_true rfl) dX0_countFaults_12 ⟨Nat.zero_le _, Nat.zero_le _⟩) G (fun H locs G => ?_)
        refine lv_if_le (tgt := 21) hx hb dX0_countFaults_15 (by decide) (fun c3 => ?_) (fun c3 => ?_)
        · have h := g_it h c3
          obtain ⟨w4, e_w4⟩ : ∃ y : Int32, y = x3 + 1 := ⟨_, rfl⟩
          have h := g_let2 e_w4 h
          refine lv_iinc (v := w4) (lv' := [(3, .int w4), (0, .ref (xN X + t)), (1, .int a1), (2, .int x2)]) hx hb dX0_countFaults_21 hl (k := 3) rfl (by rw [e_w4]; rfl) (by decide) rfl (fun ls hl => ?_)
          refine lv_goto (tgt := 4) hx hb dX0_countFaults_24 (by decide) ?_
          exact ih _ _ _ x2 w4 G (lv_sub hl [1, 2, 3, 0] rfl) h
        · have h := g_if h c3
          obtain ⟨w5, e_w5⟩ : ∃ y : Int32, y = x2 + 1 := ⟨_, rfl⟩
          have h := g_let2 e_w5 h
          refine lv_iinc (v := w5) (lv' := [(2, .int w5), (0, .ref (xN X + t)), (1, .int a1), (3, .int x3)]) hx hb dX0_countFaults_18 hl (k := 2) rfl (by rw [e_w5]; rfl) (by decide) rfl (fun ls hl => ?_)
          obtain ⟨w6, e_w6⟩ : ∃ y : Int32, y = x3 + 1 := ⟨_, rfl⟩
          have h := g_let2 e_w6 h
          refine lv_iinc (v := w6) (lv' := [(3, .int w6), (2, .int w5), (0, .ref (xN X + t)), (1, .int a1)]) hx hb dX0_countFaults_21 hl (k := 3) rfl (by rw [e_w6]; rfl) (by decide) rfl (fun ls hl => ?_)
          refine lv_goto (tgt := 4) hx hb dX0_countFaults_24 (by decide) ?_
          exact ih _ _ _ w5 w6 G (lv_sub hl [2, 3, 1, 0] rfl) h
  unfold fX0_countFaults at h
  refine lv_iconst (v := 0) hx hb dX0_countFaults_0 (by decide) ?_
  refine lv_istore_n (lv' := [(2, .int 0), (0, .ref (xN X + t)), (1, .int a1)]) hx hb dX0_countFaults_1 rfl hl (by decide) rfl (fun ls hl => ?_)
  refine lv_iconst (v := 0) hx hb dX0_countFaults_2 (by decide) ?_
  refine lv_istore_n (lv' := [(3, .int 0), (2, .int 0), (0, .ref (xN X + t)), (1, .int a1)]) hx hb dX0_countFaults_3 rfl hl (by decide) rfl (fun ls hl => ?_)
  exact L4  gF _ _ _ 0 0 G (lv_sub hl [2, 3, 1, 0] rfl) h

def fX8_scrap (σ : gM) (t : Nat) (a1 : Int32) (a2 : Int32) : Option (Int32 × gM) :=
  ((fX8_isScrap σ t a1).bind fun v1 =>
  (if v1 = 0 then
    some ((-1001), σ)
  else
    ((fX8_isWithin σ a2 0 5).bind fun v3 =>
    (if v3 = 0 then
      some ((-1001), σ)
    else
      (if a2 ≤ 1 then
        (if a2 = 0 then
          ((fX6_kind σ ((t + 1) + 1) a1).bind fun v7 =>
          some (v7, σ))
        else if a2 = 1 then
          ((fX4_orientationOf σ ((t + 1) + 8) a1).bind fun v9 =>
          some (v9, σ))
        else if a2 = 2 then
          ((fX4_placeOf σ ((t + 1) + 8) a1).bind fun v11 =>
          some (v11, σ))
        else if a2 = 3 then
          ((fX2_gather σ (t + 108) (t + 1)).bind fun σ14 =>
          ((fX2_groupOf σ14 (t + 108) a1).bind fun v15 =>
          some (v15, σ14)))
        else if a2 = 4 then
          ((fX0_countFits σ (t + 1) a1).bind fun v17 =>
          some (v17, σ))
        else 
          ((fX0_countFaults σ (t + 1) a1).bind fun v18 =>
          some (v18, σ)))
      else
        ((fX4_lies σ ((t + 1) + 8) a1).bind fun v19 =>
        (if v19 = 0 then
          some ((-1004), σ)
        else
          (if a2 = 0 then
            ((fX6_kind σ ((t + 1) + 1) a1).bind fun v22 =>
            some (v22, σ))
          else if a2 = 1 then
            ((fX4_orientationOf σ ((t + 1) + 8) a1).bind fun v24 =>
            some (v24, σ))
          else if a2 = 2 then
            ((fX4_placeOf σ ((t + 1) + 8) a1).bind fun v26 =>
            some (v26, σ))
          else if a2 = 3 then
            ((fX2_gather σ (t + 108) (t + 1)).bind fun σ29 =>
            ((fX2_groupOf σ29 (t + 108) a1).bind fun v30 =>
            some (v30, σ29)))
          else if a2 = 4 then
            ((fX0_countFits σ (t + 1) a1).bind fun v32 =>
            some (v32, σ))
          else 
            ((fX0_countFaults σ (t + 1) a1).bind fun v33 =>
            some (v33, σ))))))))))
set_option maxHeartbeats 4000000 in
set_option maxRecDepth 100000 in
theorem mX8_scrap (l : Launch) (X : gX) (σ σ' : gM) (t : Nat) (a1 : Int32) (a2 : Int32) (r : Int32) (ok : gok8 X t) (h : fX8_scrap σ t a1 a2 = some (r, σ')) : Met l yX8_scrap (Cond.code yX8_scrap cX8_scrap 3 (some .int) :: gBig) ({ frames := 6, cells := 0, slots := 0, locals := 146 }) (gPc X σ [.ref (xN X + t), .int a1, .int a2]) (gQi X σ' r) 0 0 (xA X) := by
  refine g_meti (cc := cX8_scrap) (maxL := 3) (own := RX8) (by decide) rfl rfl (Nat.le_of_ble_eq_true rfl) ?_
  intro p ev s m args below meth c Q C G ret ls hl
  obtain ⟨⟨hx, hb, hml, hown, hts⟩, hK⟩ := id C
  have hl : lv_has ls 3 [(0, .ref (xN X + t)), (1, .int a1), (2, .int a2)] := hl
  unfold fX8_scrap at h
  refine lv_aload_n hx hb dX8_scrap_0 rfl (lv_at hl 0 rfl) ?_
  refine lv_iload_n hx hb dX8_scrap_1 rfl (lv_at hl 1 rfl) ?_
  obtain ⟨v1, e_v1, h⟩ := g_bind h
  refine g_calli (g_runV (n := 1) (As := [.int a1]) (rest := []) C G (mX8_isScrap l X σ t a1 v1 ok e_v1) ok.1.2 (gE_8 ok.1.1) rfl (g_goodV u_ml_RX8_104 u_im_yX8_isScrap u_se_yX8_isScrap u_in_RX8 u_co_yX8_isScrap) rfl rfl rfl (by decide +kernel) ⟨Nat.le_of_ble_eq_true rfl, Nat.le_of_ble_eq_true rfl⟩ rfl hl.1 rfl (Nat.le_of_ble_eq_true rfl) dX8_scrap_2 ⟨Nat.zero_le _, Nat.zero_le _⟩) G (fun H locs G => ?_)
  refine lv_if_eq (tgt := 17) hx hb dX8_scrap_5 (by decide) (fun c2 => ?_) (fun c2 => ?_)
  · have h := g_it h c2
    refine lv_sipush (v := (-1001)) hx hb dX8_scrap_17 (by decide) ?_
    exact ret dX8_scrap_20 rfl G (Prod.mk.inj (Option.some.inj h))
  · have h := g_if h c2
    refine lv_iload_n hx hb dX8_scrap_8 rfl (lv_at hl 2 rfl) ?_
    refine lv_iconst (v := 0) hx hb dX8_scrap_9 (by decide) ?_
    refine lv_iconst (v := 5) hx hb dX8_scrap_10 (by decide) ?_
    obtain ⟨v3, e_v3, h⟩ := g_bind h
    refine g_calli (g_runS (n := 3) (As := [.int a2, .int 0, .int 5]) (rest := []) C G (mX8_isWithin l X σ a2 0 5 v3 e_v3) (g_goodS u_ml_RX8_47 u_st_yX8_isWithin u_in_RX8 u_co_yX8_isWithin) rfl rfl rfl (by decide +kernel) ⟨Nat.le_of_ble_eq_true rfl, Nat.le_of_ble_eq_true rfl⟩ rfl hl.1 rfl (Nat.le_of_ble_eq_true rfl) dX8_scrap_11 ⟨Nat.zero_le _, Nat.zero_le _⟩) G (fun H locs G => ?_)
    refine lv_if_ne (tgt := 21) hx hb dX8_scrap_14 (by decide) (fun c4 => ?_) (fun c4 => ?_)
    · have h := g_if h c4
      refine lv_iload_n hx hb dX8_scrap_21 rfl (lv_at hl 2 rfl) ?_
      refine lv_iconst (v := 1) hx hb dX8_scrap_22 (by decide) ?_
      refine lv_icmp_le (tgt := 44) hx hb dX8_scrap_23 (by decide) (fun c5 => ?_) (fun c5 => ?_)
      · have h := g_it h c5
        refine lv_iload_n hx hb dX8_scrap_44 rfl (lv_at hl 2 rfl) ?_
        by_cases c6 : a2 = 0
        · have h := g_it h c6
          refine lv_tableIn (off := 35) (tgt := 80) hx hb dX8_scrap_45 (by rw [c6]; decide) (by rw [c6]; decide) (by rw [c6]; rfl) (by decide) ?_
          refine lv_aload_n hx hb dX8_scrap_80 rfl (lv_at hl 0 rfl) ?_
          refine gg8_0 C G ok.1 ok.2.1.1 u_fl_RX8_10 dX8_scrap_81 ?_
          refine gn0_0 C G ok.2.2.1.1 ok.2.2.1.2.1.1 (List.mem_of_getElem? (i := 1) rfl) dX8_scrap_84 ?_
          refine lv_iload_n hx hb dX8_scrap_87 rfl (lv_at hl 1 rfl) ?_
          obtain ⟨v7, e_v7, h⟩ := g_bind h
          refine g_calli (g_runV (n := 1) (As := [.int a1]) (rest := []) C G (mX6_kind l X σ ((t + 1) + 1) a1 v7 ok.2.2.1.2.2.1 e_v7) ok.2.2.1.2.2.1.1.2 (gE_6 ok.2.2.1.2.2.1.1.1) rfl (g_goodV u_ml_RX8_113 u_im_yX6_kind u_se_yX6_kind u_in_RX6 u_co_yX6_kind) rfl rfl rfl (by decide +kernel) ⟨Nat.le_of_ble_eq_true rfl, Nat.le_of_ble_eq_true rfl⟩ rfl hl.1 rfl (Nat.le_of_ble_eq_true rfl) dX8_scrap_88 ⟨Nat.zero_le _, Nat.zero_le _⟩) G (fun H locs G => ?_)
          exact ret dX8_scrap_91 rfl G (Prod.mk.inj (Option.some.inj h))
        have h := g_if h c6
        by_cases c8 : a2 = 1
        · have h := g_it h c8
          refine lv_tableIn (off := 47) (tgt := 92) hx hb dX8_scrap_45 (by rw [c8]; decide) (by rw [c8]; decide) (by rw [c8]; rfl) (by decide) ?_
          refine lv_aload_n hx hb dX8_scrap_92 rfl (lv_at hl 0 rfl) ?_
          refine gg8_0 C G ok.1 ok.2.1.1 u_fl_RX8_10 dX8_scrap_93 ?_
          refine gn0_1 C G ok.2.2.1.1 ok.2.2.1.2.1.2 (List.mem_of_getElem? (i := 3) rfl) dX8_scrap_96 ?_
          refine lv_iload_n hx hb dX8_scrap_99 rfl (lv_at hl 1 rfl) ?_
          obtain ⟨v9, e_v9, h⟩ := g_bind h
          refine g_calli (g_runV (n := 1) (As := [.int a1]) (rest := []) C G (mX4_orientationOf l X σ ((t + 1) + 8) a1 v9 ok.2.2.1.2.2.2 e_v9) ok.2.2.1.2.2.2.1.2 (gE_4 ok.2.2.1.2.2.2.1.1) rfl (g_goodV u_ml_RX8_117 u_im_yX4_orientationOf u_se_yX4_orientationOf u_in_RX4 u_co_yX4_orientationOf) rfl rfl rfl (by decide +kernel) ⟨Nat.le_of_ble_eq_true rfl, Nat.le_of_ble_eq_true rfl⟩ rfl hl.1 rfl (Nat.le_of_ble_eq_true rfl) dX8_scrap_100 ⟨Nat.zero_le _, Nat.zero_le _⟩) G (fun H locs G => ?_)
          exact ret dX8_scrap_103 rfl G (Prod.mk.inj (Option.some.inj h))
        have h := g_if h c8
        by_cases c10 : a2 = 2
        · have h := g_it h c10
          refine lv_tableIn (off := 59) (tgt := 104) hx hb dX8_scrap_45 (by rw [c10]; decide) (by rw [c10]; decide) (by rw [c10]; rfl) (by decide) ?_
          refine lv_aload_n hx hb dX8_scrap_104 rfl (lv_at hl 0 rfl) ?_
          refine gg8_0 C G ok.1 ok.2.1.1 u_fl_RX8_10 dX8_scrap_105 ?_
          refine gn0_1 C G ok.2.2.1.1 ok.2.2.1.2.1.2 (List.mem_of_getElem? (i := 3) rfl) dX8_scrap_108 ?_
          refine lv_iload_n hx hb dX8_scrap_111 rfl (lv_at hl 1 rfl) ?_
          obtain ⟨v11, e_v11, h⟩ := g_bind h
          refine g_calli (g_runV (n := 1) (As := [.int a1]) (rest := []) C G (mX4_placeOf l X σ ((t + 1) + 8) a1 v11 ok.2.2.1.2.2.2 e_v11) ok.2.2.1.2.2.2.1.2 (gE_4 ok.2.2.1.2.2.2.1.1) rfl (g_goodV u_ml_RX8_120 u_im_yX4_placeOf u_se_yX4_placeOf u_in_RX4 u_co_yX4_placeOf) rfl rfl rfl (by decide +kernel) ⟨Nat.le_of_ble_eq_true rfl, Nat.le_of_ble_eq_true rfl⟩ rfl hl.1 rfl (Nat.le_of_ble_eq_true rfl) dX8_scrap_112 ⟨Nat.zero_le _, Nat.zero_le _⟩) G (fun H locs G => ?_)
          exact ret dX8_scrap_115 rfl G (Prod.mk.inj (Option.some.inj h))
        have h := g_if h c10
        by_cases c12 : a2 = 3
        · have h := g_it h c12
          refine lv_tableIn (off := 71) (tgt := 116) hx hb dX8_scrap_45 (by rw [c12]; decide) (by rw [c12]; decide) (by rw [c12]; rfl) (by decide) ?_
          refine lv_aload_n hx hb dX8_scrap_116 rfl (lv_at hl 0 rfl) ?_
          refine gg8_3 C G ok.1 ok.2.1.2.2.2.1 u_fl_RX8_29 dX8_scrap_117 ?_
          refine lv_aload_n hx hb dX8_scrap_120 rfl (lv_at hl 0 rfl) ?_
          refine gg8_0 C G ok.1 ok.2.1.1 u_fl_RX8_10 dX8_scrap_121 ?_
          obtain ⟨σ14, e_σ14, h⟩ := g_bind h
          refine g_callv (g_runV (n := 1) (As := [.ref (xN X + (t + 1))]) (rest := []) C G (mX2_gather l X σ σ14 (t + 108) (t + 1) ok.2.2.2.2.2.1 ok.2.2.1 e_σ14) ok.2.2.2.2.2.1.1.2 (gE_2 ok.2.2.2.2.2.1.1.1) rfl (g_goodV u_ml_RX8_123 u_im_yX2_gather u_se_yX2_gather u_in_RX2 u_co_yX2_gather) rfl rfl rfl (by decide +kernel) ⟨Nat.le_of_ble_eq_true rfl, Nat.le_of_ble_eq_true rfl⟩ rfl hl.1 rfl (Nat.le_of_ble_eq_true rfl) dX8_scrap_124 ⟨Nat.zero_le _, Nat.zero_le _⟩) G (fun H locs G => ?_)
          refine lv_aload_n hx hb dX8_scrap_127 rfl (lv_at hl 0 rfl) ?_
          refine gg8_3 C G ok.1 ok.2.1.2.2.2.1 u_fl_RX8_29 dX8_scrap_128 ?_
          refine lv_iload_n hx hb dX8_scrap_131 rfl (lv_at hl 1 rfl) ?_
          obtain ⟨v15, e_v15, h⟩ := g_bind h
          refine g_calli (g_runV (n := 1) (As := [.int a1]) (rest := []) C G (mX2_groupOf l X σ14 (t + 108) a1 v15 ok.2.2.2.2.2.1 e_v15) ok.2.2.2.2.2.1.1.2 (gE_2 ok.2.2.2.2.2.1.1.1) rfl (g_goodV u_ml_RX8_126 u_im_yX2_groupOf u_se_yX2_groupOf u_in_RX2 u_co_yX2_groupOf) rfl rfl rfl (by decide +kernel) ⟨Nat.le_of_ble_eq_true rfl, Nat.le_of_ble_eq_true rfl⟩ rfl hl.1 rfl (Nat.le_of_ble_eq_true rfl) dX8_scrap_132 ⟨Nat.zero_le _, Nat.zero_le _⟩) G (fun H locs G => ?_)
          exact ret dX8_scrap_135 rfl G (Prod.mk.inj (Option.some.inj h))
        have h := g_if h c12
        by_cases c16 : a2 = 4
        · have h := g_it h c16
          refine lv_tableIn (off := 91) (tgt := 136) hx hb dX8_scrap_45 (by rw [c16]; decide) (by rw [c16]; decide) (by rw [c16]; rfl) (by decide) ?_
          refine lv_aload_n hx hb dX8_scrap_136 rfl (lv_at hl 0 rfl) ?_
          refine gg8_0 C G ok.1 ok.2.1.1 u_fl_RX8_10 dX8_scrap_137 ?_
          refine lv_iload_n hx hb dX8_scrap_140 rfl (lv_at hl 1 rfl) ?_
          obtain ⟨v17, e_v17, h⟩ := g_bind h
          refine g_calli (g_runV (n := 1) (As := [.int a1]) (rest := []) C G (mX0_countFits l X σ (t + 1) a1 v17 ok.2.2.1 e_v17) ok.2.2.1.1.2 (gE_0 ok.2.2.1.1.1) rfl (g_goodV u_ml_RX8_129 u_im_yX0_countFits u_se_yX0_countFits u_in_RX0 u_co_yX0_countFits) rfl rfl rfl (by decide +kernel) ⟨Nat.le_of_ble_eq_true rfl, Nat.le_of_ble_eq_true rfl⟩ rfl hl.1 rfl (Nat.le_of_ble_eq_true rfl) dX8_scrap_141 ⟨Nat.zero_le _, Nat.zero_le _⟩) G (fun H locs G => ?_)
          exact ret dX8_scrap_144 rfl G (Prod.mk.inj (Option.some.inj h))
        have h := g_if h c16
        refine lv_tableOut (tgt := 145) hx hb dX8_scrap_45 (by have q0 := lv_neT c6 (a := 0) (by decide); have q1 := lv_neT c8 (a := 1) (by decide); have q2 := lv_neT c10 (a := 2) (by decide); have q3 := lv_neT c12 (a := 3) (by decide); have q4 := lv_neT c16 (a := 4) (by decide); omega) (by decide) ?_
        refine lv_aload_n hx hb dX8_scrap_145 rfl (lv_at hl 0 rfl) ?_
        refine gg8_0 C G ok.1 ok.2.1.1 u_fl_RX8_10 dX8_scrap_146 ?_
        refine lv_iload_n hx hb dX8_scrap_149 rfl (lv_at hl 1 rfl) ?_
        obtain ⟨v18, e_v18, h⟩ := g_bind h
        refine g_calli (g_runV (n := 1) (As := [.int a1]) (rest := []) C G (mX0_countFaults l X σ (t + 1) a1 v18 ok.2.2.1 e_v18) ok.2.2.1.1.2 (gE_0 ok.2.2.1.1.1) rfl (g_goodV u_ml_RX8_132 u_im_yX0_countFaults u_se_yX0_countFaults u_in_RX0 u_co_yX0_countFaults) rfl rfl rfl (by decide +kernel) ⟨Nat.le_of_ble_eq_true rfl, Nat.le_of_ble_eq_true rfl⟩ rfl hl.1 rfl (Nat.le_of_ble_eq_true rfl) dX8_scrap_150 ⟨Nat.zero_le _, Nat.zero_le _⟩) G (fun H locs G => ?_)
        exact ret dX8_scrap_153 rfl G (Prod.mk.inj (Option.some.inj h))
      · have h := g_if h c5
        refine lv_aload_n hx hb dX8_scrap_26 rfl (lv_at hl 0 rfl) ?_
        refine gg8_0 C G ok.1 ok.2.1.1 u_fl_RX8_10 dX8_scrap_27 ?_
        refine gn0_1 C G ok.2.2.1.1 ok.2.2.1.2.1.2 (List.mem_of_getElem? (i := 3) rfl) dX8_scrap_30 ?_
        refine lv_iload_n hx hb dX8_scrap_33 rfl (lv_at hl 1 rfl) ?_
        obtain ⟨v19, e_v19, h⟩ := g_bind h
        refine g_calli (g_runV (n := 1) (As := [.int a1]) (rest := []) C G (mX4_lies l X σ ((t + 1) + 8) a1 v19 ok.2.2.1.2.2.2 e_v19) ok.2.2.1.2.2.2.1.2 (gE_4 ok.2.2.1.2.2.2.1.1) rfl (g_goodV u_ml_RX8_110 u_im_yX4_lies u_se_yX4_lies u_in_RX4 u_co_yX4_lies) rfl rfl rfl (by decide +kernel) ⟨Nat.le_of_ble_eq_true rfl, Nat.le_of_ble_eq_true rfl⟩ rfl hl.1 rfl (Nat.le_of_ble_eq_true rfl) dX8_scrap_34 ⟨Nat.zero_le _, Nat.zero_le _⟩) G (fun H locs G => ?_)
        refine lv_if_ne (tgt := 44) hx hb dX8_scrap_37 (by decide) (fun c20 => ?_) (fun c20 => ?_)
        · have h := g_if h c20
          refine lv_iload_n hx hb dX8_scrap_44 rfl (lv_at hl 2 rfl) ?_
          by_cases c21 : a2 = 0
          · have h := g_it h c21
            refine lv_tableIn (off := 35) (tgt := 80) hx hb dX8_scrap_45 (by rw [c21]; decide) (by rw [c21]; decide) (by rw [c21]; rfl) (by decide) ?_
            refine lv_aload_n hx hb dX8_scrap_80 rfl (lv_at hl 0 rfl) ?_
            refine gg8_0 C G ok.1 ok.2.1.1 u_fl_RX8_10 dX8_scrap_81 ?_
            refine gn0_0 C G ok.2.2.1.1 ok.2.2.1.2.1.1 (List.mem_of_getElem? (i := 1) rfl) dX8_scrap_84 ?_
            refine lv_iload_n hx hb dX8_scrap_87 rfl (lv_at hl 1 rfl) ?_
            obtain ⟨v22, e_v22, h⟩ := g_bind h
            refine g_calli (g_runV (n := 1) (As := [.int a1]) (rest := []) C G (mX6_kind l X σ ((t + 1) + 1) a1 v22 ok.2.2.1.2.2.1 e_v22) ok.2.2.1.2.2.1.1.2 (gE_6 ok.2.2.1.2.2.1.1.1) rfl (g_goodV u_ml_RX8_113 u_im_yX6_kind u_se_yX6_kind u_in_RX6 u_co_yX6_kind) rfl rfl rfl (by decide +kernel) ⟨Nat.le_of_ble_eq_true rfl, Nat.le_of_ble_eq_true rfl⟩ rfl hl.1 rfl (Nat.le_of_ble_eq_true rfl) dX8_scrap_88 ⟨Nat.zero_le _, Nat.zero_le _⟩) G (fun H locs G => ?_)
            exact ret dX8_scrap_91 rfl G (Prod.mk.inj (Option.some.inj h))
          have h := g_if h c21
          by_cases c23 : a2 = 1
          · have h := g_it h c23
            refine lv_tableIn (off := 47) (tgt := 92) hx hb dX8_scrap_45 (by rw [c23]; decide) (by rw [c23]; decide) (by rw [c23]; rfl) (by decide) ?_
            refine lv_aload_n hx hb dX8_scrap_92 rfl (lv_at hl 0 rfl) ?_
            refine gg8_0 C G ok.1 ok.2.1.1 u_fl_RX8_10 dX8_scrap_93 ?_
            refine gn0_1 C G ok.2.2.1.1 ok.2.2.1.2.1.2 (List.mem_of_getElem? (i := 3) rfl) dX8_scrap_96 ?_
            refine lv_iload_n hx hb dX8_scrap_99 rfl (lv_at hl 1 rfl) ?_
            obtain ⟨v24, e_v24, h⟩ := g_bind h
            refine g_calli (g_runV (n := 1) (As := [.int a1]) (rest := []) C G (mX4_orientationOf l X σ ((t + 1) + 8) a1 v24 ok.2.2.1.2.2.2 e_v24) ok.2.2.1.2.2.2.1.2 (gE_4 ok.2.2.1.2.2.2.1.1) rfl (g_goodV u_ml_RX8_117 u_im_yX4_orientationOf u_se_yX4_orientationOf u_in_RX4 u_co_yX4_orientationOf) rfl rfl rfl (by decide +kernel) ⟨Nat.le_of_ble_eq_true rfl, Nat.le_of_ble_eq_true rfl⟩ rfl hl.1 rfl (Nat.le_of_ble_eq_true rfl) dX8_scrap_100 ⟨Nat.zero_le _, Nat.zero_le _⟩) G (fun H locs G => ?_)
            exact ret dX8_scrap_103 rfl G (Prod.mk.inj (Option.some.inj h))
          have h := g_if h c23
          by_cases c25 : a2 = 2
          · have h := g_it h c25
            refine lv_tableIn (off := 59) (tgt := 104) hx hb dX8_scrap_45 (by rw [c25]; decide) (by rw [c25]; decide) (by rw [c25]; rfl) (by decide) ?_
            refine lv_aload_n hx hb dX8_scrap_104 rfl (lv_at hl 0 rfl) ?_
            refine gg8_0 C G ok.1 ok.2.1.1 u_fl_RX8_10 dX8_scrap_105 ?_
            refine gn0_1 C G ok.2.2.1.1 ok.2.2.1.2.1.2 (List.mem_of_getElem? (i := 3) rfl) dX8_scrap_108 ?_
            refine lv_iload_n hx hb dX8_scrap_111 rfl (lv_at hl 1 rfl) ?_
            obtain ⟨v26, e_v26, h⟩ := g_bind h
            refine g_calli (g_runV (n := 1) (As := [.int a1]) (rest := []) C G (mX4_placeOf l X σ ((t + 1) + 8) a1 v26 ok.2.2.1.2.2.2 e_v26) ok.2.2.1.2.2.2.1.2 (gE_4 ok.2.2.1.2.2.2.1.1) rfl (g_goodV u_ml_RX8_120 u_im_yX4_placeOf u_se_yX4_placeOf u_in_RX4 u_co_yX4_placeOf) rfl rfl rfl (by decide +kernel) ⟨Nat.le_of_ble_eq_true rfl, Nat.le_of_ble_eq_true rfl⟩ rfl hl.1 rfl (Nat.le_of_ble_eq_true rfl) dX8_scrap_112 ⟨Nat.zero_le _, Nat.zero_le _⟩) G (fun H locs G => ?_)
            exact ret dX8_scrap_115 rfl G (Prod.mk.inj (Option.some.inj h))
          have h := g_if h c25
          by_cases c27 : a2 = 3
          · have h := g_it h c27
            refine lv_tableIn (off := 71) (tgt := 116) hx hb dX8_scrap_45 (by rw [c27]; decide) (by rw [c27]; decide) (by rw [c27]; rfl) (by decide) ?_
            refine lv_aload_n hx hb dX8_scrap_116 rfl (lv_at hl 0 rfl) ?_
            refine gg8_3 C G ok.1 ok.2.1.2.2.2.1 u_fl_RX8_29 dX8_scrap_117 ?_
            refine lv_aload_n hx hb dX8_scrap_120 rfl (lv_at hl 0 rfl) ?_
            refine gg8_0 C G ok.1 ok.2.1.1 u_fl_RX8_10 dX8_scrap_121 ?_
            obtain ⟨σ29, e_σ29, h⟩ := g_bind h
            refine g_callv (g_runV (n := 1) (As := [.ref (xN X + (t + 1))]) (rest := []) C G (mX2_gather l X σ σ29 (t + 108) (t + 1) ok.2.2.2.2.2.1 ok.2.2.1 e_σ29) ok.2.2.2.2.2.1.1.2 (gE_2 ok.2.2.2.2.2.1.1.1) rfl (g_goodV u_ml_RX8_123 u_im_yX2_gather u_se_yX2_gather u_in_RX2 u_co_yX2_gather) rfl rfl rfl (by decide +kernel) ⟨Nat.le_of_ble_eq_true rfl, Nat.le_of_ble_eq_true rfl⟩ rfl hl.1 rfl (Nat.le_of_ble_eq_true rfl) dX8_scrap_124 ⟨Nat.zero_le _, Nat.zero_le _⟩) G (fun H locs G => ?_)
            refine lv_aload_n hx hb dX8_scrap_127 rfl (lv_at hl 0 rfl) ?_
            refine gg8_3 C G ok.1 ok.2.1.2.2.2.1 u_fl_RX8_29 dX8_scrap_128 ?_
            refine lv_iload_n hx hb dX8_scrap_131 rfl (lv_at hl 1 rfl) ?_
            obtain ⟨v30, e_v30, h⟩ := g_bind h
            refine g_calli (g_runV (n := 1) (As := [.int a1]) (rest := []) C G (mX2_groupOf l X σ29 (t + 108) a1 v30 ok.2.2.2.2.2.1 e_v30) ok.2.2.2.2.2.1.1.2 (gE_2 ok.2.2.2.2.2.1.1.1) rfl (g_goodV u_ml_RX8_126 u_im_yX2_groupOf u_se_yX2_groupOf u_in_RX2 u_co_yX2_groupOf) rfl rfl rfl (by decide +kernel) ⟨Nat.le_of_ble_eq_true rfl, Nat.le_of_ble_eq_true rfl⟩ rfl hl.1 rfl (Nat.le_of_ble_eq_true rfl) dX8_scrap_132 ⟨Nat.zero_le _, Nat.zero_le _⟩) G (fun H locs G => ?_)
            exact ret dX8_scrap_135 rfl G (Prod.mk.inj (Option.some.inj h))
          have h := g_if h c27
          by_cases c31 : a2 = 4
          · have h := g_it h c31
            refine lv_tableIn (off := 91) (tgt := 136) hx hb dX8_scrap_45 (by rw [c31]; decide) (by rw [c31]; decide) (by rw [c31]; rfl) (by decide) ?_
            refine lv_aload_n hx hb dX8_scrap_136 rfl (lv_at hl 0 rfl) ?_
            refine gg8_0 C G ok.1 ok.2.1.1 u_fl_RX8_10 dX8_scrap_137 ?_
            refine lv_iload_n hx hb dX8_scrap_140 rfl (lv_at hl 1 rfl) ?_
            obtain ⟨v32, e_v32, h⟩ := g_bind h
            refine g_calli (g_runV (n := 1) (As := [.int a1]) (rest := []) C G (mX0_countFits l X σ (t + 1) a1 v32 ok.2.2.1 e_v32) ok.2.2.1.1.2 (gE_0 ok.2.2.1.1.1) rfl (g_goodV u_ml_RX8_129 u_im_yX0_countFits u_se_yX0_countFits u_in_RX0 u_co_yX0_countFits) rfl rfl rfl (by decide +kernel) ⟨Nat.le_of_ble_eq_true rfl, Nat.le_of_ble_eq_true rfl⟩ rfl hl.1 rfl (Nat.le_of_ble_eq_true rfl) dX8_scrap_141 ⟨Nat.zero_le _, Nat.zero_le _⟩) G (fun H locs G => ?_)
            exact ret dX8_scrap_144 rfl G (Prod.mk.inj (Option.some.inj h))
          have h := g_if h c31
          refine lv_tableOut (tgt := 145) hx hb dX8_scrap_45 (by have q0 := lv_neT c21 (a := 0) (by decide); have q1 := lv_neT c23 (a := 1) (by decide); have q2 := lv_neT c25 (a := 2) (by decide); have q3 := lv_neT c27 (a := 3) (by decide); have q4 := lv_neT c31 (a := 4) (by decide); omega) (by decide) ?_
          refine lv_aload_n hx hb dX8_scrap_145 rfl (lv_at hl 0 rfl) ?_
          refine gg8_0 C G ok.1 ok.2.1.1 u_fl_RX8_10 dX8_scrap_146 ?_
          refine lv_iload_n hx hb dX8_scrap_149 rfl (lv_at hl 1 rfl) ?_
          obtain ⟨v33, e_v33, h⟩ := g_bind h
          refine g_calli (g_runV (n := 1) (As := [.int a1]) (rest := []) C G (mX0_countFaults l X σ (t + 1) a1 v33 ok.2.2.1 e_v33) ok.2.2.1.1.2 (gE_0 ok.2.2.1.1.1) rfl (g_goodV u_ml_RX8_132 u_im_yX0_countFaults u_se_yX0_countFaults u_in_RX0 u_co_yX0_countFaults) rfl rfl rfl (by decide +kernel) ⟨Nat.le_of_ble_eq_true rfl, Nat.le_of_ble_eq_true rfl⟩ rfl hl.1 rfl (Nat.le_of_ble_eq_true rfl) dX8_scrap_150 ⟨Nat.zero_le _, Nat.zero_le _⟩) G (fun H locs G => ?_)
          exact ret dX8_scrap_153 rfl G (Prod.mk.inj (Option.some.inj h))
        · have h := g_it h c20
          refine lv_sipush (v := (-1004)) hx hb dX8_scrap_40 (by decide) ?_
          exact ret dX8_scrap_43 rfl G (Prod.mk.inj (Option.some.inj h))
    · have h := g_it h c4
      refine lv_sipush (v := (-1001)) hx hb dX8_scrap_17 (by decide) ?_
      exact ret dX8_scrap_20 rfl G (Prod.mk.inj (Option.some.inj h))

def fX8_isOrientation (σ : gM) (a1 : Int32) : Option (Int32) :=
  ((fX8_isWithin σ a1 0 7).bind fun v1 =>
  (if v1 = 0 ∨ v1 = 1 then
  some v1
  else none))
set_option maxHeartbeats 4000000 in
set_option maxRecDepth 100000 in
theorem mX8_isOrientation (l : Launch) (X : gX) (σ : gM) (a1 : Int32) (r : Int32) (h : fX8_isOrientation σ a1 = some r) : Met l yX8_isOrientation (Cond.code yX8_isOrientation cX8_isOrientation 1 (some .boolean) :: gBig) ({ frames := 1, cells := 0, slots := 0, locals := 22 }) (gPc X σ [.int a1]) (gQi X σ r) 0 0 (xA X) := by
  refine g_meti (cc := cX8_isOrientation) (maxL := 1) (own := RX8) (by decide) rfl rfl (Nat.le_of_ble_eq_true rfl) ?_
  intro p ev s m args below meth c Q C G ret ls hl
  obtain ⟨⟨hx, hb, hml, hown, hts⟩, hK⟩ := id C
  have hl : lv_has ls 1 [(0, .int a1)] := hl
  unfold fX8_isOrientation at h
  refine lv_iload_n hx hb dX8_isOrientation_0 rfl (lv_at hl 0 rfl) ?_
  refine lv_iconst (v := 0) hx hb dX8_isOrientation_1 (by decide) ?_
  refine lv_bipush (v := 7) hx hb dX8_isOrientation_2 (by decide) ?_
  obtain ⟨v1, e_v1, h⟩ := g_bind h
  refine g_calli (g_runS (n := 3) (As := [.int a1, .int 0, .int 7]) (rest := []) C G (mX8_isWithin l X σ a1 0 7 v1 e_v1) (g_goodS u_ml_RX8_47 u_st_yX8_isWithin u_in_RX8 u_co_yX8_isWithin) rfl rfl rfl (by decide +kernel) ⟨Nat.le_of_ble_eq_true rfl, Nat.le_of_ble_eq_true rfl⟩ rfl hl.1 rfl (Nat.le_of_ble_eq_true rfl) dX8_isOrientation_4 ⟨Nat.zero_le _, Nat.zero_le _⟩) G (fun H locs G => ?_)
  obtain ⟨c2, h⟩ := g_chk h
  exact ret dX8_isOrientation_7 (g_z c2) G ⟨Option.some.inj h, rfl⟩

def fX8_isEdge (σ : gM) (a1 : Int32) : Option (Int32) :=
  ((fX8_isWithin σ a1 0 3).bind fun v1 =>
  (if v1 = 0 ∨ v1 = 1 then
  some v1
  else none))
set_option maxHeartbeats 4000000 in
set_option maxRecDepth 100000 in
theorem mX8_isEdge (l : Launch) (X : gX) (σ : gM) (a1 : Int32) (r : Int32) (h : fX8_isEdge σ a1 = some r) : Met l yX8_isEdge (Cond.code yX8_isEdge cX8_isEdge 1 (some .boolean) :: gBig) ({ frames := 1, cells := 0, slots := 0, locals := 22 }) (gPc X σ [.int a1]) (gQi X σ r) 0 0 (xA X) := by
  refine g_meti (cc := cX8_isEdge) (maxL := 1) (own := RX8) (by decide) rfl rfl (Nat.le_of_ble_eq_true rfl) ?_
  intro p ev s m args below meth c Q C G ret ls hl
  obtain ⟨⟨hx, hb, hml, hown, hts⟩, hK⟩ := id C
  have hl : lv_has ls 1 [(0, .int a1)] := hl
  unfold fX8_isEdge at h
  refine lv_iload_n hx hb dX8_isEdge_0 rfl (lv_at hl 0 rfl) ?_
  refine lv_iconst (v := 0) hx hb dX8_isEdge_1 (by decide) ?_
  refine lv_iconst (v := 3) hx hb dX8_isEdge_2 (by decide) ?_
  obtain ⟨v1, e_v1, h⟩ := g_bind h
  refine g_calli (g_runS (n := 3) (As := [.int a1, .int 0, .int 3]) (rest := []) C G (mX8_isWithin l X σ a1 0 3 v1 e_v1) (g_goodS u_ml_RX8_47 u_st_yX8_isWithin u_in_RX8 u_co_yX8_isWithin) rfl rfl rfl (by decide +kernel) ⟨Nat.le_of_ble_eq_true rfl, Nat.le_of_ble_eq_true rfl⟩ rfl hl.1 rfl (Nat.le_of_ble_eq_true rfl) dX8_isEdge_3 ⟨Nat.zero_le _, Nat.zero_le _⟩) G (fun H locs G => ?_)
  obtain ⟨c2, h⟩ := g_chk h
  exact ret dX8_isEdge_6 (g_z c2) G ⟨Option.some.inj h, rfl⟩

def fX8_edge (σ : gM) (t : Nat) (a1 : Int32) (a2 : Int32) (a3 : Int32) (a4 : Int32) : Option (Int32) :=
  ((fX8_isScrap σ t a1).bind fun v1 =>
  (if v1 = 0 then
    some (-1001)
  else
    ((fX8_isOrientation σ a2).bind fun v3 =>
    (if v3 = 0 then
      some (-1001)
    else
      ((fX8_isEdge σ a3).bind fun v5 =>
      (if v5 = 0 then
        some (-1001)
      else
        ((fX8_isWithin σ a4 0 1).bind fun v7 =>
        (if v7 = 0 then
          some (-1001)
        else
          (if a4 = 0 then
            ((fX6_profile σ ((t + 1) + 1) a1 a2 a3).bind fun v10 =>
            some v10)
          else
            ((fX6_line σ ((t + 1) + 1) a1 a2 a3).bind fun v11 =>
            some v11))))))))))
set_option maxHeartbeats 4000000 in
set_option maxRecDepth 100000 in
theorem mX8_edge (l : Launch) (X : gX) (σ : gM) (t : Nat) (a1 : Int32) (a2 : Int32) (a3 : Int32) (a4 : Int32) (r : Int32) (ok : gok8 X t) (h : fX8_edge σ t a1 a2 a3 a4 = some r) : Met l yX8_edge (Cond.code yX8_edge cX8_edge 5 (some .int) :: gBig) ({ frames := 2, cells := 0, slots := 0, locals := 44 }) (gPc X σ [.ref (xN X + t), .int a1, .int a2, .int a3, .int a4]) (gQi X σ r) 0 0 (xA X) := by
  refine g_meti (cc := cX8_edge) (maxL := 5) (own := RX8) (by decide) rfl rfl (Nat.le_of_ble_eq_true rfl) ?_
  intro p ev s m args below meth c Q C G ret ls hl
  obtain ⟨⟨hx, hb, hml, hown, hts⟩, hK⟩ := id C
  have hl : lv_has ls 5 [(0, .ref (xN X + t)), (1, .int a1), (2, .int a2), (3, .int a3), (4, .int a4)] := hl
  unfold fX8_edge at h
  refine lv_aload_n hx hb dX8_edge_0 rfl (lv_at hl 0 rfl) ?_
  refine lv_iload_n hx hb dX8_edge_1 rfl (lv_at hl 1 rfl) ?_
  obtain ⟨v1, e_v1, h⟩ := g_bind h
  refine g_calli (g_runV (n := 1) (As := [.int a1]) (rest := []) C G (mX8_isScrap l X σ t a1 v1 ok e_v1) ok.1.2 (gE_8 ok.1.1) rfl (g_goodV u_ml_RX8_104 u_im_yX8_isScrap u_se_yX8_isScrap u_in_RX8 u_co_yX8_isScrap) rfl rfl rfl (by decide +kernel) ⟨Nat.le_of_ble_eq_true rfl, Nat.le_of_ble_eq_true rfl⟩ rfl hl.1 rfl (Nat.le_of_ble_eq_true rfl) dX8_edge_2 ⟨Nat.zero_le _, Nat.zero_le _⟩) G (fun H locs G => ?_)
  refine lv_if_eq (tgt := 32) hx hb dX8_edge_5 (by decide) (fun c2 => ?_) (fun c2 => ?_)
  · have h := g_it h c2
    refine lv_sipush (v := (-1001)) hx hb dX8_edge_32 (by decide) ?_
    exact ret dX8_edge_35 rfl G ⟨Option.some.inj h, rfl⟩
  · have h := g_if h c2
    refine lv_iload_n hx hb dX8_edge_8 rfl (lv_at hl 2 rfl) ?_
    obtain ⟨v3, e_v3, h⟩ := g_bind h
    refine g_calli (g_runS (n := 1) (As := [.int a2]) (rest := []) C G (mX8_isOrientation l X σ a2 v3 e_v3) (g_goodS u_ml_RX8_135 u_st_yX8_isOrientation u_in_RX8 u_co_yX8_isOrientation) rfl rfl rfl (by decide +kernel) ⟨Nat.le_of_ble_eq_true rfl, Nat.le_of_ble_eq_true rfl⟩ rfl hl.1 rfl (Nat.le_of_ble_eq_true rfl) dX8_edge_9 ⟨Nat.zero_le _, Nat.zero_le _⟩) G (fun H locs G => ?_)
    refine lv_if_eq (tgt := 32) hx hb dX8_edge_12 (by decide) (fun c4 => ?_) (fun c4 => ?_)
    · have h := g_it h c4
      refine lv_sipush (v := (-1001)) hx hb dX8_edge_32 (by decide) ?_
      exact ret dX8_edge_35 rfl G ⟨Option.some.inj h, rfl⟩
    · have h := g_if h c4
      refine lv_iload_n hx hb dX8_edge_15 rfl (lv_at hl 3 rfl) ?_
      obtain ⟨v5, e_v5, h⟩ := g_bind h
      refine g_calli (g_runS (n := 1) (As := [.int a3]) (rest := []) C G (mX8_isEdge l X σ a3 v5 e_v5) (g_goodS u_ml_RX8_138 u_st_yX8_isEdge u_in_RX8 u_co_yX8_isEdge) rfl rfl rfl (by decide +kernel) ⟨Nat.le_of_ble_eq_true rfl, Nat.le_of_ble_eq_true rfl⟩ rfl hl.1 rfl (Nat.le_of_ble_eq_true rfl) dX8_edge_16 ⟨Nat.zero_le _, Nat.zero_le _⟩) G (fun H locs G => ?_)
      refine lv_if_eq (tgt := 32) hx hb dX8_edge_19 (by decide) (fun c6 => ?_) (fun c6 => ?_)
      · have h := g_it h c6
        refine lv_sipush (v := (-1001)) hx hb dX8_edge_32 (by decide) ?_
        exact ret dX8_edge_35 rfl G ⟨Option.some.inj h, rfl⟩
      · have h := g_if h c6
        refine lv_iload hx hb dX8_edge_22 (lv_at hl 4 rfl) ?_
        refine lv_iconst (v := 0) hx hb dX8_edge_24 (by decide) ?_
        refine lv_iconst (v := 1) hx hb dX8_edge_25 (by decide) ?_
        obtain ⟨v7, e_v7, h⟩ := g_bind h
        refine g_calli (g_runS (n := 3) (As := [.int a4, .int 0, .int 1]) (rest := []) C G (mX8_isWithin l X σ a4 0 1 v7 e_v7) (g_goodS u_ml_RX8_47 u_st_yX8_isWithin u_in_RX8 u_co_yX8_isWithin) rfl rfl rfl (by decide +kernel) ⟨Nat.le_of_ble_eq_true rfl, Nat.le_of_ble_eq_true rfl⟩ rfl hl.1 rfl (Nat.le_of_ble_eq_true rfl) dX8_edge_26 ⟨Nat.zero_le _, Nat.zero_le _⟩) G (fun H locs G => ?_)
        refine lv_if_ne (tgt := 36) hx hb dX8_edge_29 (by decide) (fun c8 => ?_) (fun c8 => ?_)
        · have h := g_if h c8
          refine lv_iload hx hb dX8_edge_36 (lv_at hl 4 rfl) ?_
          refine lv_if_ne (tgt := 57) hx hb dX8_edge_38 (by decide) (fun c9 => ?_) (fun c9 => ?_)
          · have h := g_if h c9
            refine lv_aload_n hx hb dX8_edge_57 rfl (lv_at hl 0 rfl) ?_
            refine gg8_0 C G ok.1 ok.2.1.1 u_fl_RX8_10 dX8_edge_58 ?_
            refine gn0_0 C G ok.2.2.1.1 ok.2.2.1.2.1.1 (List.mem_of_getElem? (i := 1) rfl) dX8_edge_61 ?_
            refine lv_iload_n hx hb dX8_edge_64 rfl (lv_at hl 1 rfl) ?_
            refine lv_iload_n hx hb dX8_edge_65 rfl (lv_at hl 2 rfl) ?_
            refine lv_iload_n hx hb dX8_edge_66 rfl (lv_at hl 3 rfl) ?_
            obtain ⟨v11, e_v11, h⟩ := g_bind h
            refine g_calli (g_runV (n := 3) (As := [.int a1, .int a2, .int a3]) (rest := []) C G (mX6_line l X σ ((t + 1) + 1) a1 a2 a3 v11 ok.2.2.1.2.2.1 e_v11) ok.2.2.1.2.2.1.1.2 (gE_6 ok.2.2.1.2.2.1.1.1) rfl (g_goodV u_ml_RX8_145 u_im_yX6_line u_se_yX6_line u_in_RX6 u_co_yX6_line) rfl rfl rfl (by decide +kernel) ⟨Nat.le_of_ble_eq_true rfl, Nat.le_of_ble_eq_true rfl⟩ rfl hl.1 rfl (Nat.le_of_ble_eq_true rfl) dX8_edge_67 ⟨Nat.zero_le _, Nat.zero_le _⟩) G (fun H locs G => ?_)
            exact ret dX8_edge_70 rfl G ⟨Option.some.inj h, rfl⟩
          · have h := g_it h c9
            refine lv_aload_n hx hb dX8_edge_41 rfl (lv_at hl 0 rfl) ?_
            refine gg8_0 C G ok.1 ok.2.1.1 u_fl_RX8_10 dX8_edge_42 ?_
            refine gn0_0 C G ok.2.2.1.1 ok.2.2.1.2.1.1 (List.mem_of_getElem? (i := 1) rfl) dX8_edge_45 ?_
            refine lv_iload_n hx hb dX8_edge_48 rfl (lv_at hl 1 rfl) ?_
            refine lv_iload_n hx hb dX8_edge_49 rfl (lv_at hl 2 rfl) ?_
            refine lv_iload_n hx hb dX8_edge_50 rfl (lv_at hl 3 rfl) ?_
            obtain ⟨v10, e_v10, h⟩ := g_bind h
            refine g_calli (g_runV (n := 3) (As := [.int a1, .int a2, .int a3]) (rest := []) C G (mX6_profile l X σ ((t + 1) + 1) a1 a2 a3 v10 ok.2.2.1.2.2.1 e_v10) ok.2.2.1.2.2.1.1.2 (gE_6 ok.2.2.1.2.2.1.1.1) rfl (g_goodV u_ml_RX8_141 u_im_yX6_profile u_se_yX6_profile u_in_RX6 u_co_yX6_profile) rfl rfl rfl (by decide +kernel) ⟨Nat.le_of_ble_eq_true rfl, Nat.le_of_ble_eq_true rfl⟩ rfl hl.1 rfl (Nat.le_of_ble_eq_true rfl) dX8_edge_51 ⟨Nat.zero_le _, Nat.zero_le _⟩) G (fun H locs G => ?_)
            refine lv_goto (tgt := 70) hx hb dX8_edge_54 (by decide) ?_
            exact ret dX8_edge_70 rfl G ⟨Option.some.inj h, rfl⟩
        · have h := g_it h c8
          refine lv_sipush (v := (-1001)) hx hb dX8_edge_32 (by decide) ?_
          exact ret dX8_edge_35 rfl G ⟨Option.some.inj h, rfl⟩

def fX3_size (σ : gM) (t : Nat) : Option (Int32) :=
  some (σ t 2)
set_option maxHeartbeats 4000000 in
set_option maxRecDepth 100000 in
theorem mX3_size (l : Launch) (X : gX) (σ : gM) (t : Nat) (r : Int32) (ok : gok3 X t) (h : fX3_size σ t = some r) : Met l yX3_size (Cond.code yX3_size cX3_size 1 (some .int) :: gBig) ({ frames := 0, cells := 0, slots := 0, locals := 0 }) (gPc X σ [.ref (xN X + t)]) (gQi X σ r) 0 0 (xA X) := by
  refine g_meti (cc := cX3_size) (maxL := 1) (own := RX3) (by decide) rfl rfl (Nat.le_of_ble_eq_true rfl) ?_
  intro p ev s m args below meth c Q C G ret ls hl
  obtain ⟨⟨hx, hb, hml, hown, hts⟩, hK⟩ := id C
  have hl : lv_has ls 1 [(0, .ref (xN X + t))] := hl
  unfold fX3_size at h
  refine lv_aload_n hx hb dX3_size_0 rfl (lv_at hl 0 rfl) ?_
  refine gg3_2 C G ok.1 u_fl_RX3_18 dX3_size_1 ?_
  exact ret dX3_size_4 rfl G ⟨Option.some.inj h, rfl⟩

def fX3_restore (σ : gM) (t : Nat) (o1 : Nat) : Option (gM) :=
  ((fX3_state σ t ((σ t 2) - 1)).bind fun v1 =>
  (go v1 (
    some σ)
    fun k2 =>
    ((fX0_copy σ o1 k2).bind fun σ4 =>
    (gl (gset σ4 t (upd (σ4 t) 2 ((σ4 t 2) - 1))) fun σ5 =>
    some σ5))))
set_option maxHeartbeats 4000000 in
set_option maxRecDepth 100000 in
theorem mX3_restore (l : Launch) (X : gX) (σ σ' : gM) (t : Nat) (o1 : Nat) (ok : gok3 X t) (ok1 : gok0 X o1) (h : fX3_restore σ t o1 = some σ') : Met l yX3_restore (Cond.code yX3_restore cX3_restore 3 none :: gBig) ({ frames := 4, cells := 0, slots := 0, locals := 128 }) (gPc X σ [.ref (xN X + t), .ref (xN X + o1)]) (gQv X σ') 0 0 (xA X) := by
  refine g_metv (cc := cX3_restore) (maxL := 3) (own := RX3) (by decide) rfl rfl (Nat.le_of_ble_eq_true rfl) ?_
  intro p ev s m args below meth c Q C G ret ls hl
  obtain ⟨⟨hx, hb, hml, hown, hts⟩, hK⟩ := id C
  have hl : lv_has ls 3 [(0, .ref (xN X + t)), (1, .ref (xN X + o1))] := hl
  unfold fX3_restore at h
  refine lv_aload_n hx hb dX3_restore_0 rfl (lv_at hl 0 rfl) ?_
  refine lv_aload_n hx hb dX3_restore_1 rfl (lv_at hl 0 rfl) ?_
  refine gg3_2 C G ok.1 u_fl_RX3_18 dX3_restore_2 ?_
  refine lv_iconst (v := 1) hx hb dX3_restore_5 (by decide) ?_
  refine lv_isub hx hb dX3_restore_6 ?_
  obtain ⟨v1, e_v1, h⟩ := g_bind h
  refine g_callr (g_runV (n := 1) (As := [.int ((σ t 2) - 1)]) (rest := []) C G (mX3_state l X σ t ((σ t 2) - 1) v1 ok e_v1) ok.1.2 (gE_3 ok.1.1) rfl (g_goodV u_ml_RX3_25 u_im_yX3_state u_se_yX3_state u_in_RX3 u_co_yX3_state) rfl rfl rfl (by decide +kernel) ⟨Nat.le_of_ble_eq_true rfl, Nat.le_of_ble_eq_true rfl⟩ rfl hl.1 rfl (Nat.le_of_ble_eq_true rfl) dX3_restore_7 ⟨Nat.zero_le _, Nat.zero_le _⟩) G (fun H locs G => ?_)
  cases v1 with
  | none =>
    have h := g_gon h
    refine lv_astore_nN (lv' := [(2, .null), (0, .ref (xN X + t)), (1, .ref (xN X + o1))]) hx hb dX3_restore_10 rfl hl (by decide) rfl (fun ls hl => ?_)
    refine lv_aload_nN hx hb dX3_restore_11 rfl (lv_at hl 0 rfl) ?_
    refine lv_ifnullN (tgt := 30) hx hb dX3_restore_12 (by decide) ?_
    exact ret dX3_restore_30 G (Option.some.inj h)
  | some k2 =>
    have h := g_gos h
    have okk2 := okX3_state ok e_v1
    refine lv_astore_n (lv' := [(2, .ref (xN X + k2)), (0, .ref (xN X + t)), (1, .ref (xN X + o1))]) hx hb dX3_restore_10 rfl hl (by decide) rfl (fun ls hl => ?_)
    refine lv_aload_n hx hb dX3_restore_11 rfl (lv_at hl 0 rfl) ?_
    refine lv_ifnull hx hb dX3_restore_12 ?_
    refine lv_aload_n hx hb dX3_restore_15 rfl (lv_at hl 2 rfl) ?_
    refine lv_aload_n hx hb dX3_restore_16 rfl (lv_at hl 0 rfl) ?_
    obtain ⟨σ4, e_σ4, h⟩ := g_bind h
    refine g_callv (g_runV (n := 1) (As := [.ref (xN X + k2)]) (rest := []) C G (mX0_copy l X σ σ4 o1 k2 ok1 okk2 e_σ4) ok1.1.2 (gE_0 ok1.1.1) rfl (g_goodV u_ml_RX3_29 u_im_yX0_copy u_se_yX0_copy u_in_RX0 u_co_yX0_copy) rfl rfl rfl (by decide +kernel) ⟨Nat.le_of_ble_eq_true rfl, Nat.le_of_ble_eq_true rfl⟩ rfl hl.1 rfl (Nat.le_of_ble_eq_true rfl) dX3_restore_17 ⟨Nat.zero_le _, Nat.zero_le _⟩) G (fun H locs G => ?_)
    refine lv_aload_n hx hb dX3_restore_20 rfl (lv_at hl 1 rfl) ?_
    refine lv_dup hx hb dX3_restore_21 rfl ?_
    refine gg3_2 C G ok.1 u_fl_RX3_18 dX3_restore_22 ?_
    refine lv_iconst (v := 1) hx hb dX3_restore_25 (by decide) ?_
    refine lv_isub hx hb dX3_restore_26 ?_
    obtain ⟨σ5, e_σ5, h⟩ := g_let h
    refine gp3_2 C G ok.1 u_fl_RX3_18 dX3_restore_27 (fun H locs G => ?_)
    rw [e_σ5] at G
    exact ret dX3_restore_30 G (Option.some.inj h)

def fX8_undo (σ : gM) (t : Nat) : Option (Int32 × gM) :=
  ((fX3_size σ (t + 31)).bind fun v1 =>
  (if v1 = 0 then
    some ((-1002), σ)
  else
    ((fX3_restore σ (t + 31) (t + 1)).bind fun σ4 =>
    ((fX3_size σ4 (t + 31)).bind fun v5 =>
    some (v5, σ4)))))
set_option maxHeartbeats 4000000 in
set_option maxRecDepth 100000 in
theorem mX8_undo (l : Launch) (X : gX) (σ σ' : gM) (t : Nat) (r : Int32) (ok : gok8 X t) (h : fX8_undo σ t = some (r, σ')) : Met l yX8_undo (Cond.code yX8_undo cX8_undo 1 (some .int) :: gBig) ({ frames := 5, cells := 0, slots := 0, locals := 150 }) (gPc X σ [.ref (xN X + t)]) (gQi X σ' r) 0 0 (xA X) := by
  refine g_meti (cc := cX8_undo) (maxL := 1) (own := RX8) (by decide) rfl rfl (Nat.le_of_ble_eq_true rfl) ?_
  intro p ev s m args below meth c Q C G ret ls hl
  obtain ⟨⟨hx, hb, hml, hown, hts⟩, hK⟩ := id C
  have hl : lv_has ls 1 [(0, .ref (xN X + t))] := hl
  unfold fX8_undo at h
  refine lv_aload_n hx hb dX8_undo_0 rfl (lv_at hl 0 rfl) ?_
  refine gg8_2 C G ok.1 ok.2.1.2.2.1 u_fl_RX8_22 dX8_undo_1 ?_
  obtain ⟨v1, e_v1, h⟩ := g_bind h
  refine g_calli (g_runV (n := 0) (As := []) (rest := []) C G (mX3_size l X σ (t + 31) v1 ok.2.2.2.2.1 e_v1) ok.2.2.2.2.1.1.2 (gE_3 ok.2.2.2.2.1.1.1) rfl (g_goodV u_ml_RX8_148 u_im_yX3_size u_se_yX3_size u_in_RX3 u_co_yX3_size) rfl rfl rfl (by decide +kernel) ⟨Nat.le_of_ble_eq_true rfl, Nat.le_of_ble_eq_true rfl⟩ rfl hl.1 rfl (Nat.le_of_ble_eq_true rfl) dX8_undo_4 ⟨Nat.zero_le _, Nat.zero_le _⟩) G (fun H locs G => ?_)
  refine lv_if_ne (tgt := 14) hx hb dX8_undo_7 (by decide) (fun c2 => ?_) (fun c2 => ?_)
  · have h := g_if h c2
    refine lv_aload_n hx hb dX8_undo_14 rfl (lv_at hl 0 rfl) ?_
    refine gg8_2 C G ok.1 ok.2.1.2.2.1 u_fl_RX8_22 dX8_undo_15 ?_
    refine lv_aload_n hx hb dX8_undo_18 rfl (lv_at hl 0 rfl) ?_
    refine gg8_0 C G ok.1 ok.2.1.1 u_fl_RX8_10 dX8_undo_19 ?_
    obtain ⟨σ4, e_σ4, h⟩ := g_bind h
    refine g_callv (g_runV (n := 1) (As := [.ref (xN X + (t + 1))]) (rest := []) C G (mX3_restore l X σ σ4 (t + 31) (t + 1) ok.2.2.2.2.1 ok.2.2.1 e_σ4) ok.2.2.2.2.1.1.2 (gE_3 ok.2.2.2.2.1.1.1) rfl (g_goodV u_ml_RX8_149 u_im_yX3_restore u_se_yX3_restore u_in_RX3 u_co_yX3_restore) rfl rfl rfl (by decide +kernel) ⟨Nat.le_of_ble_eq_true rfl, Nat.le_of_ble_eq_true rfl⟩ rfl hl.1 rfl (Nat.le_of_ble_eq_true rfl) dX8_undo_22 ⟨Nat.zero_le _, Nat.zero_le _⟩) G (fun H locs G => ?_)
    refine lv_aload_n hx hb dX8_undo_25 rfl (lv_at hl 0 rfl) ?_
    refine gg8_2 C G ok.1 ok.2.1.2.2.1 u_fl_RX8_22 dX8_undo_26 ?_
    obtain ⟨v5, e_v5, h⟩ := g_bind h
    refine g_calli (g_runV (n := 0) (As := []) (rest := []) C G (mX3_size l X σ4 (t + 31) v5 ok.2.2.2.2.1 e_v5) ok.2.2.2.2.1.1.2 (gE_3 ok.2.2.2.2.1.1.1) rfl (g_goodV u_ml_RX8_148 u_im_yX3_size u_se_yX3_size u_in_RX3 u_co_yX3_size) rfl rfl rfl (by decide +kernel) ⟨Nat.le_of_ble_eq_true rfl, Nat.le_of_ble_eq_true rfl⟩ rfl hl.1 rfl (Nat.le_of_ble_eq_true rfl) dX8_undo_29 ⟨Nat.zero_le _, Nat.zero_le _⟩) G (fun H locs G => ?_)
    exact ret dX8_undo_32 rfl G (Prod.mk.inj (Option.some.inj h))
  · have h := g_it h c2
    refine lv_sipush (v := (-1002)) hx hb dX8_undo_10 (by decide) ?_
    exact ret dX8_undo_13 rfl G (Prod.mk.inj (Option.some.inj h))

def fX4_width (σ : gM) (t : Nat) : Option (Int32) :=
  some (σ t 3)
set_option maxHeartbeats 4000000 in
set_option maxRecDepth 100000 in
theorem mX4_width (l : Launch) (X : gX) (σ : gM) (t : Nat) (r : Int32) (ok : gok4 X t) (h : fX4_width σ t = some r) : Met l yX4_width (Cond.code yX4_width cX4_width 1 (some .int) :: gBig) ({ frames := 0, cells := 0, slots := 0, locals := 0 }) (gPc X σ [.ref (xN X + t)]) (gQi X σ r) 0 0 (xA X) := by
  refine g_meti (cc := cX4_width) (maxL := 1) (own := RX4) (by decide) rfl rfl (Nat.le_of_ble_eq_true rfl) ?_
  intro p ev s m args below meth c Q C G ret ls hl
  obtain ⟨⟨hx, hb, hml, hown, hts⟩, hK⟩ := id C
  have hl : lv_has ls 1 [(0, .ref (xN X + t))] := hl
  unfold fX4_width at h
  refine lv_aload_n hx hb dX4_width_0 rfl (lv_at hl 0 rfl) ?_
  refine gg4_3 C G ok.1 u_fl_RX4_30 dX4_width_1 ?_
  exact ret dX4_width_4 rfl G ⟨Option.some.inj h, rfl⟩

def fX4_height (σ : gM) (t : Nat) : Option (Int32) :=
  some (σ t 4)
set_option maxHeartbeats 4000000 in
set_option maxRecDepth 100000 in
theorem mX4_height (l : Launch) (X : gX) (σ : gM) (t : Nat) (r : Int32) (ok : gok4 X t) (h : fX4_height σ t = some r) : Met l yX4_height (Cond.code yX4_height cX4_height 1 (some .int) :: gBig) ({ frames := 0, cells := 0, slots := 0, locals := 0 }) (gPc X σ [.ref (xN X + t)]) (gQi X σ r) 0 0 (xA X) := by
  refine g_meti (cc := cX4_height) (maxL := 1) (own := RX4) (by decide) rfl rfl (Nat.le_of_ble_eq_true rfl) ?_
  intro p ev s m args below meth c Q C G ret ls hl
  obtain ⟨⟨hx, hb, hml, hown, hts⟩, hK⟩ := id C
  have hl : lv_has ls 1 [(0, .ref (xN X + t))] := hl
  unfold fX4_height at h
  refine lv_aload_n hx hb dX4_height_0 rfl (lv_at hl 0 rfl) ?_
  refine gg4_4 C G ok.1 u_fl_RX4_34 dX4_height_1 ?_
  exact ret dX4_height_4 rfl G ⟨Option.some.inj h, rfl⟩

def fX2_size (σ : gM) (t : Nat) : Option (Int32) :=
  ((fX2_countBelow σ t (σ t 1)).bind fun v1 =>
  some v1)
set_option maxHeartbeats 4000000 in
set_option maxRecDepth 100000 in
theorem mX2_size (l : Launch) (X : gX) (σ : gM) (t : Nat) (r : Int32) (ok : gok2 X t) (h : fX2_size σ t = some r) : Met l yX2_size (Cond.code yX2_size cX2_size 1 (some .int) :: gBig) ({ frames := 2, cells := 0, slots := 0, locals := 44 }) (gPc X σ [.ref (xN X + t)]) (gQi X σ r) 0 0 (xA X) := by
  refine g_meti (cc := cX2_size) (maxL := 1) (own := RX2) (by decide) rfl rfl (Nat.le_of_ble_eq_true rfl) ?_
  intro p ev s m args below meth c Q C G ret ls hl
  obtain ⟨⟨hx, hb, hml, hown, hts⟩, hK⟩ := id C
  have hl : lv_has ls 1 [(0, .ref (xN X + t))] := hl
  unfold fX2_size at h
  refine lv_aload_n hx hb dX2_size_0 rfl (lv_at hl 0 rfl) ?_
  refine lv_aload_n hx hb dX2_size_1 rfl (lv_at hl 0 rfl) ?_
  refine gg2_1 C G ok.1 u_fl_RX2_32 dX2_size_2 ?_
  obtain ⟨v1, e_v1, h⟩ := g_bind h
  refine g_calli (g_runV (n := 1) (As := [.int (σ t 1)]) (rest := []) C G (mX2_countBelow l X σ t (σ t 1) v1 ok e_v1) ok.1.2 (gE_2 ok.1.1) rfl (g_goodV u_ml_RX2_70 u_im_yX2_countBelow u_se_yX2_countBelow u_in_RX2 u_co_yX2_countBelow) rfl rfl rfl (by decide +kernel) ⟨Nat.le_of_ble_eq_true rfl, Nat.le_of_ble_eq_true rfl⟩ rfl hl.1 rfl (Nat.le_of_ble_eq_true rfl) dX2_size_5 ⟨Nat.zero_le _, Nat.zero_le _⟩) G (fun H locs G => ?_)
  exact ret dX2_size_8 rfl G ⟨Option.some.inj h, rfl⟩

def fX0_countSeams_17 (K4 : Int32 → Int32 → Option (Int32)) (σ : gM) (t : Nat) : Nat → Int32 → Int32 → Int32 → Option (Int32)
  | 0, _, _, _ => none
  | n + 1, x1, x2, x3 =>
    (if 2 < x3 then
      (gl (x2 + 1) fun w4 =>
      K4 x1 w4)
    else
      ((fX0_neighbourOnPage σ t x2 x3).bind fun v5 =>
      (if v5 = (-1) then
        (gl (x3 + 1) fun w7 =>
        fX0_countSeams_17 K4 σ t n x1 x2 w7)
      else
        (gl (x1 + 1) fun w8 =>
        (gl (x3 + 1) fun w9 =>
        fX0_countSeams_17 K4 σ t n w8 x2 w9)))))

def fX0_countSeams_4 (σ : gM) (t : Nat) : Nat → Int32 → Int32 → Option (Int32)
  | 0, _, _ => none
  | n + 1, x1, x2 =>
    ((fX6_size σ (t + 1)).bind fun v1 =>
    (if v1 ≤ x2 then
      some x1
    else
      fX0_countSeams_17 (fun y1 y2 => fX0_countSeams_4 σ t n y1 y2) σ t gF x1 x2 1))

def fX0_countSeams (σ : gM) (t : Nat) : Option (Int32) :=
  fX0_countSeams_4 σ t gF 0 0
set_option maxHeartbeats 4000000 in
set_option maxRecDepth 100000 in
theorem mX0_countSeams (l : Launch) (X : gX) (σ : gM) (t : Nat) (r : Int32) (ok : gok0 X t) (h : fX0_countSeams σ t = some r) : Met l yX0_countSeams (Cond.code yX0_countSeams cX0_countSeams 4 (some .int) :: gBig) ({ frames := 4, cells := 0, slots := 0, locals := 90 }) (gPc X σ [.ref (xN X + t)]) (gQi X σ r) 0 0 (xA X) := by
  refine g_meti (cc := cX0_countSeams) (maxL := 4) (own := RX0) (by decide) rfl rfl (Nat.le_of_ble_eq_true rfl) ?_
  intro p ev s m args below meth c Q C G ret ls hl
  obtain ⟨⟨hx, hb, hml, hown, hts⟩, hK⟩ := id C
  have hl : lv_has ls 4 [(0, .ref (xN X + t))] := hl
  have L17 : ∀ (K4 : Int32 → Int32 → Option (Int32)), (∀ (H : Heap) (locs : List Loc) (ls : Array Slot) (x1 : Int32) (x2 : Int32), gG X σ s H locs → lv_has ls 4 [(0, .ref (xN X + t)), (1, .int x1), (2, .int x2)] → K4 x1 x2 = some r → W p l ev ({ frames := 4, cells := 0, slots := 0, locals := 90 }) s m args below meth c H locs 0 0 Q (F0 m 4 ls [])) → ∀ (n : Nat) (H : Heap) (locs : List Loc) (ls : Array Slot) (x1 : Int32) (x2 : Int32) (x3 : Int32), gG X σ s H locs → lv_has ls 4 [(0, .ref (xN X + t)), (1, .int x1), (2, .int x2), (3, .int x3)] → fX0_countSeams_17 K4 σ t n x1 x2 x3 = some r → W p l ev ({ frames := 4, cells := 0, slots := 0, locals := 90 }) s m args below meth c H locs 0 0 Q (F0 m 17 ls []) := by
    intro K4 hK4 n
    induction n with
    | zero =>
      intro H locs ls x1 x2 x3 G hl h
      rw [fX0_countSeams_17] at h
      cases h
    | succ n ih =>
      intro H locs ls x1 x2 x3 G hl h
      rw [fX0_countSeams_17] at h
      refine lv_iload_n hx hb dX0_countSeams_17 rfl (lv_at hl 3 rfl) ?_
      refine lv_iconst (v := 2) hx hb dX0_countSeams_18 (by decide) ?_
      refine lv_icmp_gt (tgt := 41) hx hb dX0_countSeams_19 (by decide) (fun c3 => ?_) (fun c3 => ?_)
      · have h := g_it h c3
        obtain ⟨w4, e_w4⟩ : ∃ y : Int32, y = x2 + 1 := ⟨_, rfl⟩
        have h := g_let2 e_w4 h
        refine lv_iinc (v := w4) (lv' := [(2, .int w4), (0, .ref (xN X + t)), (1, .int x1), (3, .int x3)]) hx hb dX0_countSeams_41 hl (k := 2) rfl (by rw [e_w4]; rfl) (by decide) rfl (fun ls hl => ?_)
        refine lv_goto (tgt := 4) hx hb dX0_countSeams_44 (by decide) ?_
        exact hK4 _ _ _ x1 w4 G (lv_sub hl [1, 2, 0] rfl) h
      · have h := g_if h c3
        refine lv_aload_n hx hb dX0_countSeams_22 rfl (lv_at hl 0 rfl) ?_
        refine lv_iload_n hx hb dX0_countSeams_23 rfl (lv_at hl 2 rfl) ?_
        refine lv_iload_n hx hb dX0_countSeams_24 rfl (lv_at hl 3 rfl) ?_
        obtain ⟨v5, e_v5, h⟩ := g_bind h
        refine g_calli (g_runV (n := 2) (As := [.int x2, .int x3]) (rest := []) C G (mX0_neighbourOnPage l X σ t x2 x3 v5 ok e_v5) ok.1.2 (gE_0 ok.1.1) rfl (g_goodV u_ml_RX0_80 u_im_yX0_neighbourOnPage u_se_yX0_neighbourOnPage u_in_RX0 u_co_yX0_neighbourOnPage) rfl rfl rfl (by decide +kernel) ⟨Nat.le_of_ble_eq_true rfl, Nat.le_of_ble_eq_true rfl⟩ rfl hl.1 rfl (Nat.le_of_ble_eq_true rfl) dX0_countSeams_25 ⟨Nat.zero_le _, Nat.zero_le _⟩) G (fun H locs G => ?_)
        refine lv_iconst (v := (-1)) hx hb dX0_countSeams_28 (by decide) ?_
        refine lv_icmp_eq (tgt := 35) hx hb dX0_countSeams_29 (by decide) (fun c6 => ?_) (fun c6 => ?_)
        · have h := g_it h c6
          obtain ⟨w7, e_w7⟩ : ∃ y : Int32, y = x3 + 1 := ⟨_, rfl⟩
          have h := g_let2 e_w7 h
          refine lv_iinc (v := w7) (lv' := [(3, .int w7), (0, .ref (xN X + t)), (1, .int x1), (2, .int x2)]) hx hb dX0_countSeams_35 hl (k := 3) rfl (by rw [e_w7]; rfl) (by decide) rfl (fun ls hl => ?_)
          refine lv_goto (tgt := 17) hx hb dX0_countSeams_38 (by decide) ?_
          exact ih _ _ _ x1 x2 w7 G (lv_sub hl [1, 2, 3, 0] rfl) h
        · have h := g_if h c6
          obtain ⟨w8, e_w8⟩ : ∃ y : Int32, y = x1 + 1 := ⟨_, rfl⟩
          have h := g_let2 e_w8 h
          refine lv_iinc (v := w8) (lv' := [(1, .int w8), (0, .ref (xN X + t)), (2, .int x2), (3, .int x3)]) hx hb dX0_countSeams_32 hl (k := 1) rfl (by rw [e_w8]; rfl) (by decide) rfl (fun ls hl => ?_)
          obtain ⟨w9, e_w9⟩ : ∃ y : Int32, y = x3 + 1 := ⟨_, rfl⟩
          have h := g_let2 e_w9 h
          refine lv_iinc (v := w9) (lv' := [(3, .int w9), (1, .int w8), (0, .ref (xN X + t)), (2, .int x2)]) hx hb dX0_countSeams_35 hl (k := 3) rfl (by rw [e_w9]; rfl) (by decide) rfl (fun ls hl => ?_)
          refine lv_goto (tgt := 17) hx hb dX0_countSeams_38 (by decide) ?_
          exact ih _ _ _ w8 x2 w9 G (lv_sub hl [2, 1, 3, 0] rfl) h
  have L4 : ∀ (n : Nat) (H : Heap) (locs : List Loc) (ls : Array Slot) (x1 : Int32) (x2 : Int32), gG X σ s H locs → lv_has ls 4 [(0, .ref (xN X + t)), (1, .int x1), (2, .int x2)] → fX0_countSeams_4 σ t n x1 x2 = some r → W p l ev ({ frames := 4, cells := 0, slots := 0, locals := 90 }) s m args below meth c H locs 0 0 Q (F0 m 4 ls []) := by
    intro n
    induction n with
    | zero =>
      intro H locs ls x1 x2 G hl h
      rw [fX0_countSeams_4] at h
      cases h
    | succ n ih =>
      intro H locs ls x1 x2 G hl h
      rw [fX0_countSeams_4] at h
      refine lv_iload_n hx hb dX0_countSeams_4 rfl (lv_at hl 2 rfl) ?_
      refine lv_aload_n hx hb dX0_countSeams_5 rfl (lv_at hl 0 rfl) ?_
      refine gg0_0 C G ok.1 ok.2.1.1 u_fl_RX0_12 dX0_countSeams_6 ?_
      obtain ⟨v1, e_v1, h⟩ := g_bind h
      refine g_calli (g_runV (n := 0) (As := []) (rest := [.int x2]) C G (mX6_size l X σ (t + 1) v1 ok.2.2.1 e_v1) ok.2.2.1.1.2 (gE_6 ok.2.2.1.1.1) rfl (g_goodV u_ml_RX0_37 u_im_yX6_size u_se_yX6_size u_in_RX6 u_co_yX6_size) rfl rfl rfl (by decide +kernel) ⟨Nat.le_of_ble_eq_true rfl, Nat.le_of_ble_eq_true rfl⟩ rfl hl.1 rfl (Nat.le_of_ble_eq_true rfl) dX0_countSeams_9 ⟨Nat.zero_le _, Nat.zero_le _⟩) G (fun H locs G => ?_)
      refine lv_icmp_ge (tgt := 47) hx hb dX0_countSeams_12 (by decide) (fun c2 => ?_) (fun c2 => ?_)
      · have h := g_it h c2
        refine lv_iload_n hx hb dX0_countSeams_47 rfl (lv_at hl 1 rfl) ?_
        exact ret dX0_countSeams_48 rfl G ⟨Option.some.inj h, rfl⟩
      · have h := g_if h c2
        refine lv_iconst (v := 1) hx hb dX0_countSeams_15 (by decide) ?_
        refine lv_istore_n (lv' := [(3, .int 1), (0, .ref (xN X + t)), (1, .int x1), (2, .int x2)]) hx hb dX0_countSeams_16 rfl hl (by decide) rfl (fun ls hl => ?_)
        exact L17 (fun y1 y2 => fX0_countSeams_4 σ t n y1 y2) (fun H locs ls y1 y2 G hl h => ih H locs ls y1 y2 G hl h) gF _ _ _ x1 x2 1 G (lv_sub hl [1, 2, 3, 0] rfl) h
  unfold fX0_countSeams at h
  refine lv_iconst (v := 0) hx hb dX0_countSeams_0 (by decide) ?_
  refine lv_istore_n (lv' := [(1, .int 0), (0, .ref (xN X + t))]) hx hb dX0_countSeams_1 rfl hl (by decide) rfl (fun ls hl => ?_)
  refine lv_iconst (v := 0) hx hb dX0_countSeams_2 (by decide) ?_
  refine lv_istore_n (lv' := [(2, .int 0), (1, .int 0), (0, .ref (xN X + t))]) hx hb dX0_countSeams_3 rfl hl (by decide) rfl (fun ls hl => ?_)
  exact L4  gF _ _ _ 0 0 G (lv_sub hl [2, 1, 0] rfl) h

def fX0_countFittingSeams_17 (K4 : Int32 → Int32 → Option (Int32)) (σ : gM) (t : Nat) : Nat → Int32 → Int32 → Int32 → Option (Int32)
  | 0, _, _, _ => none
  | n + 1, x1, x2, x3 =>
    (if 2 < x3 then
      (gl (x2 + 1) fun w4 =>
      K4 x1 w4)
    else
      ((fX0_isJoined σ t x2 x3).bind fun v5 =>
      (if v5 = 0 then
        (gl (x3 + 1) fun w7 =>
        fX0_countFittingSeams_17 K4 σ t n x1 x2 w7)
      else
        (gl (x1 + 1) fun w8 =>
        (gl (x3 + 1) fun w9 =>
        fX0_countFittingSeams_17 K4 σ t n w8 x2 w9)))))

def fX0_countFittingSeams_4 (σ : gM) (t : Nat) : Nat → Int32 → Int32 → Option (Int32)
  | 0, _, _ => none
  | n + 1, x1, x2 =>
    ((fX6_size σ (t + 1)).bind fun v1 =>
    (if v1 ≤ x2 then
      some x1
    else
      fX0_countFittingSeams_17 (fun y1 y2 => fX0_countFittingSeams_4 σ t n y1 y2) σ t gF x1 x2 1))

def fX0_countFittingSeams (σ : gM) (t : Nat) : Option (Int32) :=
  fX0_countFittingSeams_4 σ t gF 0 0
set_option maxHeartbeats 4000000 in
set_option maxRecDepth 100000 in
theorem mX0_countFittingSeams (l : Launch) (X : gX) (σ : gM) (t : Nat) (r : Int32) (ok : gok0 X t) (h : fX0_countFittingSeams σ t = some r) : Met l yX0_countFittingSeams (Cond.code yX0_countFittingSeams cX0_countFittingSeams 4 (some .int) :: gBig) ({ frames := 4, cells := 0, slots := 0, locals := 98 }) (gPc X σ [.ref (xN X + t)]) (gQi X σ r) 0 0 (xA X) := by
  refine g_meti (cc := cX0_countFittingSeams) (maxL := 4) (own := RX0) (by decide) rfl rfl (Nat.le_of_ble_eq_true rfl) ?_
  intro p ev s m args below meth c Q C G ret ls hl
  obtain ⟨⟨hx, hb, hml, hown, hts⟩, hK⟩ := id C
  have hl : lv_has ls 4 [(0, .ref (xN X + t))] := hl
  have L17 : ∀ (K4 : Int32 → Int32 → Option (Int32)), (∀ (H : Heap) (locs : List Loc) (ls : Array Slot) (x1 : Int32) (x2 : Int32), gG X σ s H locs → lv_has ls 4 [(0, .ref (xN X + t)), (1, .int x1), (2, .int x2)] → K4 x1 x2 = some r → W p l ev ({ frames := 4, cells := 0, slots := 0, locals := 98 }) s m args below meth c H locs 0 0 Q (F0 m 4 ls [])) → ∀ (n : Nat) (H : Heap) (locs : List Loc) (ls : Array Slot) (x1 : Int32) (x2 : Int32) (x3 : Int32), gG X σ s H locs → lv_has ls 4 [(0, .ref (xN X + t)), (1, .int x1), (2, .int x2), (3, .int x3)] → fX0_countFittingSeams_17 K4 σ t n x1 x2 x3 = some r → W p l ev ({ frames := 4, cells := 0, slots := 0, locals := 98 }) s m args below meth c H locs 0 0 Q (F0 m 17 ls []) := by
    intro K4 hK4 n
    induction n with
    | zero =>
      intro H locs ls x1 x2 x3 G hl h
      rw [fX0_countFittingSeams_17] at h
      cases h
    | succ n ih =>
      intro H locs ls x1 x2 x3 G hl h
      rw [fX0_countFittingSeams_17] at h
      refine lv_iload_n hx hb dX0_countFittingSeams_17 rfl (lv_at hl 3 rfl) ?_
      refine lv_iconst (v := 2) hx hb dX0_countFittingSeams_18 (by decide) ?_
      refine lv_icmp_gt (tgt := 40) hx hb dX0_countFittingSeams_19 (by decide) (fun c3 => ?_) (fun c3 => ?_)
      · have h := g_it h c3
        obtain ⟨w4, e_w4⟩ : ∃ y : Int32, y = x2 + 1 := ⟨_, rfl⟩
        have h := g_let2 e_w4 h
        refine lv_iinc (v := w4) (lv' := [(2, .int w4), (0, .ref (xN X + t)), (1, .int x1), (3, .int x3)]) hx hb dX0_countFittingSeams_40 hl (k := 2) rfl (by rw [e_w4]; rfl) (by decide) rfl (fun ls hl => ?_)
        refine lv_goto (tgt := 4) hx hb dX0_countFittingSeams_43 (by decide) ?_
        exact hK4 _ _ _ x1 w4 G (lv_sub hl [1, 2, 0] rfl) h
      · have h := g_if h c3
        refine lv_aload_n hx hb dX0_countFittingSeams_22 rfl (lv_at hl 0 rfl) ?_
        refine lv_iload_n hx hb dX0_countFittingSeams_23 rfl (lv_at hl 2 rfl) ?_
        refine lv_iload_n hx hb dX0_countFittingSeams_24 rfl (lv_at hl 3 rfl) ?_
        obtain ⟨v5, e_v5, h⟩ := g_bind h
        refine g_calli (g_runV (n := 2) (As := [.int x2, .int x3]) (rest := []) C G (mX0_isJoined l X σ t x2 x3 v5 ok e_v5) ok.1.2 (gE_0 ok.1.1) rfl (g_goodV u_ml_RX0_83 u_im_yX0_isJoined u_se_yX0_isJoined u_in_RX0 u_co_yX0_isJoined) rfl rfl rfl (by decide +kernel) ⟨Nat.le_of_ble_eq_true rfl, Nat.le_of_ble_eq_true rfl⟩ rfl hl.1 rfl (Nat.le_of_ble_eq_true rfl) dX0_countFittingSeams_25 ⟨Nat.zero_le _, Nat.zero_le _⟩) G (fun H locs G => ?_)
        refine lv_if_eq (tgt := 34) hx hb dX0_countFittingSeams_28 (by decide) (fun c6 => ?_) (fun c6 => ?_)
        · have h := g_it h c6
          obtain ⟨w7, e_w7⟩ : ∃ y : Int32, y = x3 + 1 := ⟨_, rfl⟩
          have h := g_let2 e_w7 h
          refine lv_iinc (v := w7) (lv' := [(3, .int w7), (0, .ref (xN X + t)), (1, .int x1), (2, .int x2)]) hx hb dX0_countFittingSeams_34 hl (k := 3) rfl (by rw [e_w7]; rfl) (by decide) rfl (fun ls hl => ?_)
          refine lv_goto (tgt := 17) hx hb dX0_countFittingSeams_37 (by decide) ?_
          exact ih _ _ _ x1 x2 w7 G (lv_sub hl [1, 2, 3, 0] rfl) h
        · have h := g_if h c6
          obtain ⟨w8, e_w8⟩ : ∃ y : Int32, y = x1 + 1 := ⟨_, rfl⟩
          have h := g_let2 e_w8 h
          refine lv_iinc (v := w8) (lv' := [(1, .int w8), (0, .ref (xN X + t)), (2, .int x2), (3, .int x3)]) hx hb dX0_countFittingSeams_31 hl (k := 1) rfl (by rw [e_w8]; rfl) (by decide) rfl (fun ls hl => ?_)
          obtain ⟨w9, e_w9⟩ : ∃ y : Int32, y = x3 + 1 := ⟨_, rfl⟩
          have h := g_let2 e_w9 h
          refine lv_iinc (v := w9) (lv' := [(3, .int w9), (1, .int w8), (0, .ref (xN X + t)), (2, .int x2)]) hx hb dX0_countFittingSeams_34 hl (k := 3) rfl (by rw [e_w9]; rfl) (by decide) rfl (fun ls hl => ?_)
          refine lv_goto (tgt := 17) hx hb dX0_countFittingSeams_37 (by decide) ?_
          exact ih _ _ _ w8 x2 w9 G (lv_sub hl [2, 1, 3, 0] rfl) h
  have L4 : ∀ (n : Nat) (H : Heap) (locs : List Loc) (ls : Array Slot) (x1 : Int32) (x2 : Int32), gG X σ s H locs → lv_has ls 4 [(0, .ref (xN X + t)), (1, .int x1), (2, .int x2)] → fX0_countFittingSeams_4 σ t n x1 x2 = some r → W p l ev ({ frames := 4, cells := 0, slots := 0, locals := 98 }) s m args below meth c H locs 0 0 Q (F0 m 4 ls []) := by
    intro n
    induction n with
    | zero =>
      intro H locs ls x1 x2 G hl h
      rw [fX0_countFittingSeams_4] at h
      cases h
    | succ n ih =>
      intro H locs ls x1 x2 G hl h
      rw [fX0_countFittingSeams_4] at h
      refine lv_iload_n hx hb dX0_countFittingSeams_4 rfl (lv_at hl 2 rfl) ?_
      refine lv_aload_n hx hb dX0_countFittingSeams_5 rfl (lv_at hl 0 rfl) ?_
      refine gg0_0 C G ok.1 ok.2.1.1 u_fl_RX0_12 dX0_countFittingSeams_6 ?_
      obtain ⟨v1, e_v1, h⟩ := g_bind h
      refine g_calli (g_runV (n := 0) (As := []) (rest := [.int x2]) C G (mX6_size l X σ (t + 1) v1 ok.2.2.1 e_v1) ok.2.2.1.1.2 (gE_6 ok.2.2.1.1.1) rfl (g_goodV u_ml_RX0_37 u_im_yX6_size u_se_yX6_size u_in_RX6 u_co_yX6_size) rfl rfl rfl (by decide +kernel) ⟨Nat.le_of_ble_eq_true rfl, Nat.le_of_ble_eq_true rfl⟩ rfl hl.1 rfl (Nat.le_of_ble_eq_true rfl) dX0_countFittingSeams_9 ⟨Nat.zero_le _, Nat.zero_le _⟩) G (fun H locs G => ?_)
      refine lv_icmp_ge (tgt := 46) hx hb dX0_countFittingSeams_12 (by decide) (fun c2 => ?_) (fun c2 => ?_)
      · have h := g_it h c2
        refine lv_iload_n hx hb dX0_countFittingSeams_46 rfl (lv_at hl 1 rfl) ?_
        exact ret dX0_countFittingSeams_47 rfl G ⟨Option.some.inj h, rfl⟩
      · have h := g_if h c2
        refine lv_iconst (v := 1) hx hb dX0_countFittingSeams_15 (by decide) ?_
        refine lv_istore_n (lv' := [(3, .int 1), (0, .ref (xN X + t)), (1, .int x1), (2, .int x2)]) hx hb dX0_countFittingSeams_16 rfl hl (by decide) rfl (fun ls hl => ?_)
        exact L17 (fun y1 y2 => fX0_countFittingSeams_4 σ t n y1 y2) (fun H locs ls y1 y2 G hl h => ih H locs ls y1 y2 G hl h) gF _ _ _ x1 x2 1 G (lv_sub hl [1, 2, 3, 0] rfl) h
  unfold fX0_countFittingSeams at h
  refine lv_iconst (v := 0) hx hb dX0_countFittingSeams_0 (by decide) ?_
  refine lv_istore_n (lv' := [(1, .int 0), (0, .ref (xN X + t))]) hx hb dX0_countFittingSeams_1 rfl hl (by decide) rfl (fun ls hl => ?_)
  refine lv_iconst (v := 0) hx hb dX0_countFittingSeams_2 (by decide) ?_
  refine lv_istore_n (lv' := [(2, .int 0), (1, .int 0), (0, .ref (xN X + t))]) hx hb dX0_countFittingSeams_3 rfl hl (by decide) rfl (fun ls hl => ?_)
  exact L4  gF _ _ _ 0 0 G (lv_sub hl [2, 1, 0] rfl) h

def fX0_isAtBorder (σ : gM) (t : Nat) (a1 : Int32) (a2 : Int32) : Option (Int32) :=
  ((fX4_lies σ (t + 8) a1).bind fun v1 =>
  (if v1 = 0 then
    some 0
  else
    ((fX4_placeOf σ (t + 8) a1).bind fun v3 =>
    ((fX4_behind σ (t + 8) v3 a2).bind fun v4 =>
    (if v4 = (-1) then
      some 1
    else
      some 0)))))
set_option maxHeartbeats 4000000 in
set_option maxRecDepth 100000 in
theorem mX0_isAtBorder (l : Launch) (X : gX) (σ : gM) (t : Nat) (a1 : Int32) (a2 : Int32) (r : Int32) (ok : gok0 X t) (h : fX0_isAtBorder σ t a1 a2 = some r) : Met l yX0_isAtBorder (Cond.code yX0_isAtBorder cX0_isAtBorder 3 (some .boolean) :: gBig) ({ frames := 2, cells := 0, slots := 0, locals := 43 }) (gPc X σ [.ref (xN X + t), .int a1, .int a2]) (gQi X σ r) 0 0 (xA X) := by
  refine g_meti (cc := cX0_isAtBorder) (maxL := 3) (own := RX0) (by decide) rfl rfl (Nat.le_of_ble_eq_true rfl) ?_
  intro p ev s m args below meth c Q C G ret ls hl
  obtain ⟨⟨hx, hb, hml, hown, hts⟩, hK⟩ := id C
  have hl : lv_has ls 3 [(0, .ref (xN X + t)), (1, .int a1), (2, .int a2)] := hl
  unfold fX0_isAtBorder at h
  refine lv_aload_n hx hb dX0_isAtBorder_0 rfl (lv_at hl 0 rfl) ?_
  refine gg0_1 C G ok.1 ok.2.1.2 u_fl_RX0_21 dX0_isAtBorder_1 ?_
  refine lv_iload_n hx hb dX0_isAtBorder_4 rfl (lv_at hl 1 rfl) ?_
  obtain ⟨v1, e_v1, h⟩ := g_bind h
  refine g_calli (g_runV (n := 1) (As := [.int a1]) (rest := []) C G (mX4_lies l X σ (t + 8) a1 v1 ok.2.2.2 e_v1) ok.2.2.2.1.2 (gE_4 ok.2.2.2.1.1) rfl (g_goodV u_ml_RX0_41 u_im_yX4_lies u_se_yX4_lies u_in_RX4 u_co_yX4_lies) rfl rfl rfl (by decide +kernel) ⟨Nat.le_of_ble_eq_true rfl, Nat.le_of_ble_eq_true rfl⟩ rfl hl.1 rfl (Nat.le_of_ble_eq_true rfl) dX0_isAtBorder_5 ⟨Nat.zero_le _, Nat.zero_le _⟩) G (fun H locs G => ?_)
  refine lv_if_eq (tgt := 35) hx hb dX0_isAtBorder_8 (by decide) (fun c2 => ?_) (fun c2 => ?_)
  · have h := g_it h c2
    refine lv_iconst (v := 0) hx hb dX0_isAtBorder_35 (by decide) ?_
    exact ret dX0_isAtBorder_36 rfl G ⟨Option.some.inj h, rfl⟩
  · have h := g_if h c2
    refine lv_aload_n hx hb dX0_isAtBorder_11 rfl (lv_at hl 0 rfl) ?_
    refine gg0_1 C G ok.1 ok.2.1.2 u_fl_RX0_21 dX0_isAtBorder_12 ?_
    refine lv_aload_n hx hb dX0_isAtBorder_15 rfl (lv_at hl 0 rfl) ?_
    refine gg0_1 C G ok.1 ok.2.1.2 u_fl_RX0_21 dX0_isAtBorder_16 ?_
    refine lv_iload_n hx hb dX0_isAtBorder_19 rfl (lv_at hl 1 rfl) ?_
    obtain ⟨v3, e_v3, h⟩ := g_bind h
    refine g_calli (g_runV (n := 1) (As := [.int a1]) (rest := [.ref (xN X + (t + 8))]) C G (mX4_placeOf l X σ (t + 8) a1 v3 ok.2.2.2 e_v3) ok.2.2.2.1.2 (gE_4 ok.2.2.2.1.1) rfl (g_goodV u_ml_RX0_77 u_im_yX4_placeOf u_se_yX4_placeOf u_in_RX4 u_co_yX4_placeOf) rfl rfl rfl (by decide +kernel) ⟨Nat.le_of_ble_eq_true rfl, Nat.le_of_ble_eq_true rfl⟩ rfl hl.1 rfl (Nat.le_of_ble_eq_true rfl) dX0_isAtBorder_20 ⟨Nat.zero_le _, Nat.zero_le _⟩) G (fun H locs G => ?_)
    refine lv_iload_n hx hb dX0_isAtBorder_23 rfl (lv_at hl 2 rfl) ?_
    obtain ⟨v4, e_v4, h⟩ := g_bind h
    refine g_calli (g_runV (n := 2) (As := [.int v3, .int a2]) (rest := []) C G (mX4_behind l X σ (t + 8) v3 a2 v4 ok.2.2.2 e_v4) ok.2.2.2.1.2 (gE_4 ok.2.2.2.1.1) rfl (g_goodV u_ml_RX0_45 u_im_yX4_behind u_se_yX4_behind u_in_RX4 u_co_yX4_behind) rfl rfl rfl (by decide +kernel) ⟨Nat.le_of_ble_eq_true rfl, Nat.le_of_ble_eq_true rfl⟩ rfl hl.1 rfl (Nat.le_of_ble_eq_true rfl) dX0_isAtBorder_24 ⟨Nat.zero_le _, Nat.zero_le _⟩) G (fun H locs G => ?_)
    refine lv_iconst (v := (-1)) hx hb dX0_isAtBorder_27 (by decide) ?_
    refine lv_icmp_ne (tgt := 35) hx hb dX0_isAtBorder_28 (by decide) (fun c5 => ?_) (fun c5 => ?_)
    · have h := g_if h c5
      refine lv_iconst (v := 0) hx hb dX0_isAtBorder_35 (by decide) ?_
      exact ret dX0_isAtBorder_36 rfl G ⟨Option.some.inj h, rfl⟩
    · have h := g_it h c5
      refine lv_iconst (v := 1) hx hb dX0_isAtBorder_31 (by decide) ?_
      refine lv_goto (tgt := 36) hx hb dX0_isAtBorder_32 (by decide) ?_
      exact ret dX0_isAtBorder_36 rfl G ⟨Option.some.inj h, rfl⟩

def fX0_countBorderEdges_18 (K4 : Int32 → Int32 → Option (Int32)) (σ : gM) (t : Nat) (a1 : Int32) : Nat → Int32 → Int32 → Int32 → Option (Int32)
  | 0, _, _, _ => none
  | n + 1, x2, x3, x4 =>
    (if 4 ≤ x4 then
      (gl (x3 + 1) fun w4 =>
      K4 x2 w4)
    else
      ((fX0_isAtBorder σ t x3 x4).bind fun v5 =>
      (if v5 = 0 then
        (gl (x4 + 1) fun w7 =>
        fX0_countBorderEdges_18 K4 σ t a1 n x2 x3 w7)
      else
        ((fX0_verdictOnPage σ t x3 x4).bind fun v8 =>
        (if v8 = a1 then
          (gl (x2 + 1) fun w10 =>
          (gl (x4 + 1) fun w11 =>
          fX0_countBorderEdges_18 K4 σ t a1 n w10 x3 w11))
        else
          (gl (x4 + 1) fun w12 =>
          fX0_countBorderEdges_18 K4 σ t a1 n x2 x3 w12))))))

def fX0_countBorderEdges_4 (σ : gM) (t : Nat) (a1 : Int32) : Nat → Int32 → Int32 → Option (Int32)
  | 0, _, _ => none
  | n + 1, x2, x3 =>
    ((fX6_size σ (t + 1)).bind fun v1 =>
    (if v1 ≤ x3 then
      some x2
    else
      fX0_countBorderEdges_18 (fun y2 y3 => fX0_countBorderEdges_4 σ t a1 n y2 y3) σ t a1 gF x2 x3 0))

def fX0_countBorderEdges (σ : gM) (t : Nat) (a1 : Int32) : Option (Int32) :=
  fX0_countBorderEdges_4 σ t a1 gF 0 0
set_option maxHeartbeats 4000000 in
set_option maxRecDepth 100000 in
theorem mX0_countBorderEdges (l : Launch) (X : gX) (σ : gM) (t : Nat) (a1 : Int32) (r : Int32) (ok : gok0 X t) (h : fX0_countBorderEdges σ t a1 = some r) : Met l yX0_countBorderEdges (Cond.code yX0_countBorderEdges cX0_countBorderEdges 5 (some .int) :: gBig) ({ frames := 4, cells := 0, slots := 0, locals := 98 }) (gPc X σ [.ref (xN X + t), .int a1]) (gQi X σ r) 0 0 (xA X) := by
  refine g_meti (cc := cX0_countBorderEdges) (maxL := 5) (own := RX0) (by decide) rfl rfl (Nat.le_of_ble_eq_true rfl) ?_
  intro p ev s m args below meth c Q C G ret ls hl
  obtain ⟨⟨hx, hb, hml, hown, hts⟩, hK⟩ := id C
  have hl : lv_has ls 5 [(0, .ref (xN X + t)), (1, .int a1)] := hl
  have L18 : ∀ (K4 : Int32 → Int32 → Option (Int32)), (∀ (H : Heap) (locs : List Loc) (ls : Array Slot) (x2 : Int32) (x3 : Int32), gG X σ s H locs → lv_has ls 5 [(0, .ref (xN X + t)), (1, .int a1), (2, .int x2), (3, .int x3)] → K4 x2 x3 = some r → W p l ev ({ frames := 4, cells := 0, slots := 0, locals := 98 }) s m args below meth c H locs 0 0 Q (F0 m 4 ls [])) → ∀ (n : Nat) (H : Heap) (locs : List Loc) (ls : Array Slot) (x2 : Int32) (x3 : Int32) (x4 : Int32), gG X σ s H locs → lv_has ls 5 [(0, .ref (xN X + t)), (1, .int a1), (2, .int x2), (3, .int x3), (4, .int x4)] → fX0_countBorderEdges_18 K4 σ t a1 n x2 x3 x4 = some r → W p l ev ({ frames := 4, cells := 0, slots := 0, locals := 98 }) s m args below meth c H locs 0 0 Q (F0 m 18 ls []) := by
    intro K4 hK4 n
    induction n with
    | zero =>
      intro H locs ls x2 x3 x4 G hl h
      rw [fX0_countBorderEdges_18] at h
      cases h
    | succ n ih =>
      intro H locs ls x2 x3 x4 G hl h
      rw [fX0_countBorderEdges_18] at h
      refine lv_iload hx hb dX0_countBorderEdges_18 (lv_at hl 4 rfl) ?_
      refine lv_iconst (v := 4) hx hb dX0_countBorderEdges_20 (by decide) ?_
      refine lv_icmp_ge (tgt := 54) hx hb dX0_countBorderEdges_21 (by decide) (fun c3 => ?_) (fun c3 => ?_)
      · have h := g_it h c3
        obtain ⟨w4, e_w4⟩ : ∃ y : Int32, y = x3 + 1 := ⟨_, rfl⟩
        have h := g_let2 e_w4 h
        refine lv_iinc (v := w4) (lv' := [(3, .int w4), (0, .ref (xN X + t)), (1, .int a1), (2, .int x2), (4, .int x4)]) hx hb dX0_countBorderEdges_54 hl (k := 3) rfl (by rw [e_w4]; rfl) (by decide) rfl (fun ls hl => ?_)
        refine lv_goto (tgt := 4) hx hb dX0_countBorderEdges_57 (by decide) ?_
        exact hK4 _ _ _ x2 w4 G (lv_sub hl [1, 2, 3, 0] rfl) h
      · have h := g_if h c3
        refine lv_aload_n hx hb dX0_countBorderEdges_24 rfl (lv_at hl 0 rfl) ?_
        refine lv_iload_n hx hb dX0_countBorderEdges_25 rfl (lv_at hl 3 rfl) ?_
        refine lv_iload hx hb dX0_countBorderEdges_26 (lv_at hl 4 rfl) ?_
        obtain ⟨v5, e_v5, h⟩ := g_bind h
        refine g_calli (g_runV (n := 2) (As := [.int x3, .int x4]) (rest := []) C G (mX0_isAtBorder l X σ t x3 x4 v5 ok e_v5) ok.1.2 (gE_0 ok.1.1) rfl (g_goodV u_ml_RX0_87 u_im_yX0_isAtBorder u_se_yX0_isAtBorder u_in_RX0 u_co_yX0_isAtBorder) rfl rfl rfl (by decide +kernel) ⟨Nat.le_of_ble_eq_true rfl, Nat.le_of_ble_eq_true rfl⟩ rfl hl.1 rfl (Nat.le_of_ble_eq_true rfl) dX0_countBorderEdges_28 ⟨Nat.zero_le _, Nat.zero_le _⟩) G (fun H locs G => ?_)
        refine lv_if_eq (tgt := 48) hx hb dX0_countBorderEdges_31 (by decide) (fun c6 => ?_) (fun c6 => ?_)
        · have h := g_it h c6
          obtain ⟨w7, e_w7⟩ : ∃ y : Int32, y = x4 + 1 := ⟨_, rfl⟩
          have h := g_let2 e_w7 h
          refine lv_iinc (v := w7) (lv' := [(4, .int w7), (0, .ref (xN X + t)), (1, .int a1), (2, .int x2), (3, .int x3)]) hx hb dX0_countBorderEdges_48 hl (k := 4) rfl (by rw [e_w7]; rfl) (by decide) rfl (fun ls hl => ?_)
          refine lv_goto (tgt := 18) hx hb dX0_countBorderEdges_51 (by decide) ?_
          exact ih _ _ _ x2 x3 w7 G (lv_sub hl [1, 2, 3, 4, 0] rfl) h
        · have h := g_if h c6
          refine lv_aload_n hx hb dX0_countBorderEdges_34 rfl (lv_at hl 0 rfl) ?_
          refine lv_iload_n hx hb dX0_countBorderEdges_35 rfl (lv_at hl 3 rfl) ?_
          refine lv_iload hx hb dX0_countBorderEdges_36 (lv_at hl 4 rfl) ?_
          obtain ⟨v8, e_v8, h⟩ := g_bind h
          refine g_calli (g_runV (n := 2) (As := [.int x3, .int x4]) (rest := []) C G (mX0_verdictOnPage l X σ t x3 x4 v8 ok e_v8) ok.1.2 (gE_0 ok.1.1) rfl (g_goodV u_ml_RX0_74 u_im_yX0_verdictOnPage u_se_yX0_verdictOnPage u_in_RX0 u_co_yX0_verdictOnPage) rfl rfl rfl (by decide +kernel) ⟨Nat.le_of_ble_eq_true rfl, Nat.le_of_ble_eq_true rfl⟩ rfl hl.1 rfl (Nat.le_of_ble_eq_true rfl) dX0_countBorderEdges_38 ⟨Nat.zero_le _, Nat.zero_le _⟩) G (fun H locs G => ?_)
          refine lv_iload_n hx hb dX0_countBorderEdges_41 rfl (lv_at hl 1 rfl) ?_
          refine lv_icmp_ne (tgt := 48) hx hb dX0_countBorderEdges_42 (by decide) (fun c9 => ?_) (fun c9 => ?_)
          · have h := g_if h c9
            obtain ⟨w12, e_w12⟩ : ∃ y : Int32, y = x4 + 1 := ⟨_, rfl⟩
            have h := g_let2 e_w12 h
            refine lv_iinc (v := w12) (lv' := [(4, .int w12), (0, .ref (xN X + t)), (1, .int a1), (2, .int x2), (3, .int x3)]) hx hb dX0_countBorderEdges_48 hl (k := 4) rfl (by rw [e_w12]; rfl) (by decide) rfl (fun ls hl => ?_)
            refine lv_goto (tgt := 18) hx hb dX0_countBorderEdges_51 (by decide) ?_
            exact ih _ _ _ x2 x3 w12 G (lv_sub hl [1, 2, 3, 4, 0] rfl) h
          · have h := g_it h c9
            obtain ⟨w10, e_w10⟩ : ∃ y : Int32, y = x2 + 1 := ⟨_, rfl⟩
            have h := g_let2 e_w10 h
            refine lv_iinc (v := w10) (lv' := [(2, .int w10), (0, .ref (xN X + t)), (1, .int a1), (3, .int x3), (4, .int x4)]) hx hb dX0_countBorderEdges_45 hl (k := 2) rfl (by rw [e_w10]; rfl) (by decide) rfl (fun ls hl => ?_)
            obtain ⟨w11, e_w11⟩ : ∃ y : Int32, y = x4 + 1 := ⟨_, rfl⟩
            have h := g_let2 e_w11 h
            refine lv_iinc (v := w11) (lv' := [(4, .int w11), (2, .int w10), (0, .ref (xN X + t)), (1, .int a1), (3, .int x3)]) hx hb dX0_countBorderEdges_48 hl (k := 4) rfl (by rw [e_w11]; rfl) (by decide) rfl (fun ls hl => ?_)
            refine lv_goto (tgt := 18) hx hb dX0_countBorderEdges_51 (by decide) ?_
            exact ih _ _ _ w10 x3 w11 G (lv_sub hl [2, 3, 1, 4, 0] rfl) h
  have L4 : ∀ (n : Nat) (H : Heap) (locs : List Loc) (ls : Array Slot) (x2 : Int32) (x3 : Int32), gG X σ s H locs → lv_has ls 5 [(0, .ref (xN X + t)), (1, .int a1), (2, .int x2), (3, .int x3)] → fX0_countBorderEdges_4 σ t a1 n x2 x3 = some r → W p l ev ({ frames := 4, cells := 0, slots := 0, locals := 98 }) s m args below meth c H locs 0 0 Q (F0 m 4 ls []) := by
    intro n
    induction n with
    | zero =>
      intro H locs ls x2 x3 G hl h
      rw [fX0_countBorderEdges_4] at h
      cases h
    | succ n ih =>
      intro H locs ls x2 x3 G hl h
      rw [fX0_countBorderEdges_4] at h
      refine lv_iload_n hx hb dX0_countBorderEdges_4 rfl (lv_at hl 3 rfl) ?_
      refine lv_aload_n hx hb dX0_countBorderEdges_5 rfl (lv_at hl 0 rfl) ?_
      refine gg0_0 C G ok.1 ok.2.1.1 u_fl_RX0_12 dX0_countBorderEdges_6 ?_
      obtain ⟨v1, e_v1, h⟩ := g_bind h
      refine g_calli (g_runV (n := 0) (As := []) (rest := [.int x3]) C G (mX6_size l X σ (t + 1) v1 ok.2.2.1 e_v1) ok.2.2.1.1.2 (gE_6 ok.2.2.1.1.1) rfl (g_goodV u_ml_RX0_37 u_im_yX6_size u_se_yX6_size u_in_RX6 u_co_yX6_size) rfl rfl rfl (by decide +kernel) ⟨Nat.le_of_ble_eq_true rfl, Nat.le_of_ble_eq_true rfl⟩ rfl hl.1 rfl (Nat.le_of_ble_eq_true rfl) dX0_countBorderEdges_9 ⟨Nat.zero_le _, Nat.zero_le _⟩) G (fun H locs G => ?_)
      refine lv_icmp_ge (tgt := 60) hx hb dX0_countBorderEdges_12 (by decide) (fun c2 => ?_) (fun c2 => ?_)
      · have h := g_it h c2
        refine lv_iload_n hx hb dX0_countBorderEdges_60 rfl (lv_at hl 2 rfl) ?_
        exact ret dX0_countBorderEdges_61 rfl G ⟨Option.some.inj h, rfl⟩
      · have h := g_if h c2
        refine lv_iconst (v := 0) hx hb dX0_countBorderEdges_15 (by decide) ?_
        refine lv_istore (lv' := [(4, .int 0), (0, .ref (xN X + t)), (1, .int a1), (2, .int x2), (3, .int x3)]) hx hb dX0_countBorderEdges_16 hl (by decide) rfl (fun ls hl => ?_)
        exact L18 (fun y2 y3 => fX0_countBorderEdges_4 σ t a1 n y2 y3) (fun H locs ls y2 y3 G hl h => ih H locs ls y2 y3 G hl h) gF _ _ _ x2 x3 0 G (lv_sub hl [1, 2, 3, 4, 0] rfl) h
  unfold fX0_countBorderEdges at h
  refine lv_iconst (v := 0) hx hb dX0_countBorderEdges_0 (by decide) ?_
  refine lv_istore_n (lv' := [(2, .int 0), (0, .ref (xN X + t)), (1, .int a1)]) hx hb dX0_countBorderEdges_1 rfl hl (by decide) rfl (fun ls hl => ?_)
  refine lv_iconst (v := 0) hx hb dX0_countBorderEdges_2 (by decide) ?_
  refine lv_istore_n (lv' := [(3, .int 0), (2, .int 0), (0, .ref (xN X + t)), (1, .int a1)]) hx hb dX0_countBorderEdges_3 rfl hl (by decide) rfl (fun ls hl => ?_)
  exact L4  gF _ _ _ 0 0 G (lv_sub hl [2, 3, 1, 0] rfl) h

def fX7_length (σ : gM) (t : Nat) : Option (Int32) :=
  some (σ t 2)
set_option maxHeartbeats 4000000 in
set_option maxRecDepth 100000 in
theorem mX7_length (l : Launch) (X : gX) (σ : gM) (t : Nat) (r : Int32) (ok : gok7 X t) (h : fX7_length σ t = some r) : Met l yX7_length (Cond.code yX7_length cX7_length 1 (some .int) :: gBig) ({ frames := 0, cells := 0, slots := 0, locals := 0 }) (gPc X σ [.ref (xN X + t)]) (gQi X σ r) 0 0 (xA X) := by
  refine g_meti (cc := cX7_length) (maxL := 1) (own := RX7) (by decide) rfl rfl (Nat.le_of_ble_eq_true rfl) ?_
  intro p ev s m args below meth c Q C G ret ls hl
  obtain ⟨⟨hx, hb, hml, hown, hts⟩, hK⟩ := id C
  have hl : lv_has ls 1 [(0, .ref (xN X + t))] := hl
  unfold fX7_length at h
  refine lv_aload_n hx hb dX7_length_0 rfl (lv_at hl 0 rfl) ?_
  refine gg7_2 C G ok.1 u_fl_RX7_27 dX7_length_1 ?_
  exact ret dX7_length_4 rfl G ⟨Option.some.inj h, rfl⟩

def fX8_count (σ : gM) (t : Nat) (a1 : Int32) : Option (Int32 × gM) :=
  (if a1 = 0 then
    ((fX6_size σ ((t + 1) + 1)).bind fun v2 =>
    some (v2, σ))
  else if a1 = 1 then
    ((fX0_countLying σ (t + 1)).bind fun v4 =>
    some (v4, σ))
  else if a1 = 2 then
    ((fX4_width σ ((t + 1) + 8)).bind fun v6 =>
    some (v6, σ))
  else if a1 = 3 then
    ((fX4_height σ ((t + 1) + 8)).bind fun v8 =>
    some (v8, σ))
  else if a1 = 4 then
    ((fX2_gather σ (t + 108) (t + 1)).bind fun σ11 =>
    ((fX2_size σ11 (t + 108)).bind fun v12 =>
    some (v12, σ11)))
  else if a1 = 5 then
    ((fX0_countSeams σ (t + 1)).bind fun v14 =>
    some (v14, σ))
  else if a1 = 6 then
    ((fX0_countFittingSeams σ (t + 1)).bind fun v16 =>
    some (v16, σ))
  else if a1 = 7 then
    ((fX0_countBorderEdges σ (t + 1) 0).bind fun v18 =>
    some (v18, σ))
  else if a1 = 8 then
    ((fX0_countBorderEdges σ (t + 1) 4).bind fun v20 =>
    some (v20, σ))
  else if a1 = 9 then
    ((fX4_places σ ((t + 1) + 8)).bind fun v22 =>
    ((fX0_countLying σ (t + 1)).bind fun v23 =>
    some ((v22 - v23), σ)))
  else if a1 = 10 then
    ((fX3_size σ (t + 31)).bind fun v25 =>
    some (v25, σ))
  else if a1 = 11 then
    ((fX7_length σ (t + 111)).bind fun v27 =>
    some (v27, σ))
  else 
    some ((-1001), σ))
set_option maxHeartbeats 4000000 in
set_option maxRecDepth 100000 in
theorem mX8_count (l : Launch) (X : gX) (σ σ' : gM) (t : Nat) (a1 : Int32) (r : Int32) (ok : gok8 X t) (h : fX8_count σ t a1 = some (r, σ')) : Met l yX8_count (Cond.code yX8_count cX8_count 2 (some .int) :: gBig) ({ frames := 6, cells := 0, slots := 0, locals := 146 }) (gPc X σ [.ref (xN X + t), .int a1]) (gQi X σ' r) 0 0 (xA X) := by
  refine g_meti (cc := cX8_count) (maxL := 2) (own := RX8) (by decide) rfl rfl (Nat.le_of_ble_eq_true rfl) ?_
  intro p ev s m args below meth c Q C G ret ls hl
  obtain ⟨⟨hx, hb, hml, hown, hts⟩, hK⟩ := id C
  have hl : lv_has ls 2 [(0, .ref (xN X + t)), (1, .int a1)] := hl
  unfold fX8_count at h
  refine lv_iload_n hx hb dX8_count_0 rfl (lv_at hl 1 rfl) ?_
  by_cases c1 : a1 = 0
  · have h := g_it h c1
    refine lv_tableIn (off := 63) (tgt := 64) hx hb dX8_count_1 (by rw [c1]; decide) (by rw [c1]; decide) (by rw [c1]; rfl) (by decide) ?_
    refine lv_aload_n hx hb dX8_count_64 rfl (lv_at hl 0 rfl) ?_
    refine gg8_0 C G ok.1 ok.2.1.1 u_fl_RX8_10 dX8_count_65 ?_
    refine gn0_0 C G ok.2.2.1.1 ok.2.2.1.2.1.1 (List.mem_of_getElem? (i := 1) rfl) dX8_count_68 ?_
    obtain ⟨v2, e_v2, h⟩ := g_bind h
    refine g_calli (g_runV (n := 0) (As := []) (rest := []) C G (mX6_size l X σ ((t + 1) + 1) v2 ok.2.2.1.2.2.1 e_v2) ok.2.2.1.2.2.1.1.2 (gE_6 ok.2.2.1.2.2.1.1.1) rfl (g_goodV u_ml_RX8_77 u_im_yX6_size u_se_yX6_size u_in_RX6 u_co_yX6_size) rfl rfl rfl (by decide +kernel) ⟨Nat.le_of_ble_eq_true rfl, Nat.le_of_ble_eq_true rfl⟩ rfl hl.1 rfl (Nat.le_of_ble_eq_true rfl) dX8_count_71 ⟨Nat.zero_le _, Nat.zero_le _⟩) G (fun H locs G => ?_)
    exact ret dX8_count_74 rfl G (Prod.mk.inj (Option.some.inj h))
  have h := g_if h c1
  by_cases c3 : a1 = 1
  · have h := g_it h c3
    refine lv_tableIn (off := 74) (tgt := 75) hx hb dX8_count_1 (by rw [c3]; decide) (by rw [c3]; decide) (by rw [c3]; rfl) (by decide) ?_
    refine lv_aload_n hx hb dX8_count_75 rfl (lv_at hl 0 rfl) ?_
    refine gg8_0 C G ok.1 ok.2.1.1 u_fl_RX8_10 dX8_count_76 ?_
    obtain ⟨v4, e_v4, h⟩ := g_bind h
    refine g_calli (g_runV (n := 0) (As := []) (rest := []) C G (mX0_countLying l X σ (t + 1) v4 ok.2.2.1 e_v4) ok.2.2.1.1.2 (gE_0 ok.2.2.1.1.1) rfl (g_goodV u_ml_RX8_51 u_im_yX0_countLying u_se_yX0_countLying u_in_RX0 u_co_yX0_countLying) rfl rfl rfl (by decide +kernel) ⟨Nat.le_of_ble_eq_true rfl, Nat.le_of_ble_eq_true rfl⟩ rfl hl.1 rfl (Nat.le_of_ble_eq_true rfl) dX8_count_79 ⟨Nat.zero_le _, Nat.zero_le _⟩) G (fun H locs G => ?_)
    exact ret dX8_count_82 rfl G (Prod.mk.inj (Option.some.inj h))
  have h := g_if h c3
  by_cases c5 : a1 = 2
  · have h := g_it h c5
    refine lv_tableIn (off := 82) (tgt := 83) hx hb dX8_count_1 (by rw [c5]; decide) (by rw [c5]; decide) (by rw [c5]; rfl) (by decide) ?_
    refine lv_aload_n hx hb dX8_count_83 rfl (lv_at hl 0 rfl) ?_
    refine gg8_0 C G ok.1 ok.2.1.1 u_fl_RX8_10 dX8_count_84 ?_
    refine gn0_1 C G ok.2.2.1.1 ok.2.2.1.2.1.2 (List.mem_of_getElem? (i := 3) rfl) dX8_count_87 ?_
    obtain ⟨v6, e_v6, h⟩ := g_bind h
    refine g_calli (g_runV (n := 0) (As := []) (rest := []) C G (mX4_width l X σ ((t + 1) + 8) v6 ok.2.2.1.2.2.2 e_v6) ok.2.2.1.2.2.2.1.2 (gE_4 ok.2.2.1.2.2.2.1.1) rfl (g_goodV u_ml_RX8_152 u_im_yX4_width u_se_yX4_width u_in_RX4 u_co_yX4_width) rfl rfl rfl (by decide +kernel) ⟨Nat.le_of_ble_eq_true rfl, Nat.le_of_ble_eq_true rfl⟩ rfl hl.1 rfl (Nat.le_of_ble_eq_true rfl) dX8_count_90 ⟨Nat.zero_le _, Nat.zero_le _⟩) G (fun H locs G => ?_)
    exact ret dX8_count_93 rfl G (Prod.mk.inj (Option.some.inj h))
  have h := g_if h c5
  by_cases c7 : a1 = 3
  · have h := g_it h c7
    refine lv_tableIn (off := 93) (tgt := 94) hx hb dX8_count_1 (by rw [c7]; decide) (by rw [c7]; decide) (by rw [c7]; rfl) (by decide) ?_
    refine lv_aload_n hx hb dX8_count_94 rfl (lv_at hl 0 rfl) ?_
    refine gg8_0 C G ok.1 ok.2.1.1 u_fl_RX8_10 dX8_count_95 ?_
    refine gn0_1 C G ok.2.2.1.1 ok.2.2.1.2.1.2 (List.mem_of_getElem? (i := 3) rfl) dX8_count_98 ?_
    obtain ⟨v8, e_v8, h⟩ := g_bind h
    refine g_calli (g_runV (n := 0) (As := []) (rest := []) C G (mX4_height l X σ ((t + 1) + 8) v8 ok.2.2.1.2.2.2 e_v8) ok.2.2.1.2.2.2.1.2 (gE_4 ok.2.2.1.2.2.2.1.1) rfl (g_goodV u_ml_RX8_155 u_im_yX4_height u_se_yX4_height u_in_RX4 u_co_yX4_height) rfl rfl rfl (by decide +kernel) ⟨Nat.le_of_ble_eq_true rfl, Nat.le_of_ble_eq_true rfl⟩ rfl hl.1 rfl (Nat.le_of_ble_eq_true rfl) dX8_count_101 ⟨Nat.zero_le _, Nat.zero_le _⟩) G (fun H locs G => ?_)
    exact ret dX8_count_104 rfl G (Prod.mk.inj (Option.some.inj h))
  have h := g_if h c7
  by_cases c9 : a1 = 4
  · have h := g_it h c9
    refine lv_tableIn (off := 104) (tgt := 105) hx hb dX8_count_1 (by rw [c9]; decide) (by rw [c9]; decide) (by rw [c9]; rfl) (by decide) ?_
    refine lv_aload_n hx hb dX8_count_105 rfl (lv_at hl 0 rfl) ?_
    refine gg8_3 C G ok.1 ok.2.1.2.2.2.1 u_fl_RX8_29 dX8_count_106 ?_
    refine lv_aload_n hx hb dX8_count_109 rfl (lv_at hl 0 rfl) ?_
    refine gg8_0 C G ok.1 ok.2.1.1 u_fl_RX8_10 dX8_count_110 ?_
    obtain ⟨σ11, e_σ11, h⟩ := g_bind h
    refine g_callv (g_runV (n := 1) (As := [.ref (xN X + (t + 1))]) (rest := []) C G (mX2_gather l X σ σ11 (t + 108) (t + 1) ok.2.2.2.2.2.1 ok.2.2.1 e_σ11) ok.2.2.2.2.2.1.1.2 (gE_2 ok.2.2.2.2.2.1.1.1) rfl (g_goodV u_ml_RX8_123 u_im_yX2_gather u_se_yX2_gather u_in_RX2 u_co_yX2_gather) rfl rfl rfl (by decide +kernel) ⟨Nat.le_of_ble_eq_true rfl, Nat.le_of_ble_eq_true rfl⟩ rfl hl.1 rfl (Nat.le_of_ble_eq_true rfl) dX8_count_113 ⟨Nat.zero_le _, Nat.zero_le _⟩) G (fun H locs G => ?_)
    refine lv_aload_n hx hb dX8_count_116 rfl (lv_at hl 0 rfl) ?_
    refine gg8_3 C G ok.1 ok.2.1.2.2.2.1 u_fl_RX8_29 dX8_count_117 ?_
    obtain ⟨v12, e_v12, h⟩ := g_bind h
    refine g_calli (g_runV (n := 0) (As := []) (rest := []) C G (mX2_size l X σ11 (t + 108) v12 ok.2.2.2.2.2.1 e_v12) ok.2.2.2.2.2.1.1.2 (gE_2 ok.2.2.2.2.2.1.1.1) rfl (g_goodV u_ml_RX8_158 u_im_yX2_size u_se_yX2_size u_in_RX2 u_co_yX2_size) rfl rfl rfl (by decide +kernel) ⟨Nat.le_of_ble_eq_true rfl, Nat.le_of_ble_eq_true rfl⟩ rfl hl.1 rfl (Nat.le_of_ble_eq_true rfl) dX8_count_120 ⟨Nat.zero_le _, Nat.zero_le _⟩) G (fun H locs G => ?_)
    exact ret dX8_count_123 rfl G (Prod.mk.inj (Option.some.inj h))
  have h := g_if h c9
  by_cases c13 : a1 = 5
  · have h := g_it h c13
    refine lv_tableIn (off := 123) (tgt := 124) hx hb dX8_count_1 (by rw [c13]; decide) (by rw [c13]; decide) (by rw [c13]; rfl) (by decide) ?_
    refine lv_aload_n hx hb dX8_count_124 rfl (lv_at hl 0 rfl) ?_
    refine gg8_0 C G ok.1 ok.2.1.1 u_fl_RX8_10 dX8_count_125 ?_
    obtain ⟨v14, e_v14, h⟩ := g_bind h
    refine g_calli (g_runV (n := 0) (As := []) (rest := []) C G (mX0_countSeams l X σ (t + 1) v14 ok.2.2.1 e_v14) ok.2.2.1.1.2 (gE_0 ok.2.2.1.1.1) rfl (g_goodV u_ml_RX8_159 u_im_yX0_countSeams u_se_yX0_countSeams u_in_RX0 u_co_yX0_countSeams) rfl rfl rfl (by decide +kernel) ⟨Nat.le_of_ble_eq_true rfl, Nat.le_of_ble_eq_true rfl⟩ rfl hl.1 rfl (Nat.le_of_ble_eq_true rfl) dX8_count_128 ⟨Nat.zero_le _, Nat.zero_le _⟩) G (fun H locs G => ?_)
    exact ret dX8_count_131 rfl G (Prod.mk.inj (Option.some.inj h))
  have h := g_if h c13
  by_cases c15 : a1 = 6
  · have h := g_it h c15
    refine lv_tableIn (off := 131) (tgt := 132) hx hb dX8_count_1 (by rw [c15]; decide) (by rw [c15]; decide) (by rw [c15]; rfl) (by decide) ?_
    refine lv_aload_n hx hb dX8_count_132 rfl (lv_at hl 0 rfl) ?_
    refine gg8_0 C G ok.1 ok.2.1.1 u_fl_RX8_10 dX8_count_133 ?_
    obtain ⟨v16, e_v16, h⟩ := g_bind h
    refine g_calli (g_runV (n := 0) (As := []) (rest := []) C G (mX0_countFittingSeams l X σ (t + 1) v16 ok.2.2.1 e_v16) ok.2.2.1.1.2 (gE_0 ok.2.2.1.1.1) rfl (g_goodV u_ml_RX8_162 u_im_yX0_countFittingSeams u_se_yX0_countFittingSeams u_in_RX0 u_co_yX0_countFittingSeams) rfl rfl rfl (by decide +kernel) ⟨Nat.le_of_ble_eq_true rfl, Nat.le_of_ble_eq_true rfl⟩ rfl hl.1 rfl (Nat.le_of_ble_eq_true rfl) dX8_count_136 ⟨Nat.zero_le _, Nat.zero_le _⟩) G (fun H locs G => ?_)
    exact ret dX8_count_139 rfl G (Prod.mk.inj (Option.some.inj h))
  have h := g_if h c15
  by_cases c17 : a1 = 7
  · have h := g_it h c17
    refine lv_tableIn (off := 139) (tgt := 140) hx hb dX8_count_1 (by rw [c17]; decide) (by rw [c17]; decide) (by rw [c17]; rfl) (by decide) ?_
    refine lv_aload_n hx hb dX8_count_140 rfl (lv_at hl 0 rfl) ?_
    refine gg8_0 C G ok.1 ok.2.1.1 u_fl_RX8_10 dX8_count_141 ?_
    refine lv_iconst (v := 0) hx hb dX8_count_144 (by decide) ?_
    obtain ⟨v18, e_v18, h⟩ := g_bind h
    refine g_calli (g_runV (n := 1) (As := [.int 0]) (rest := []) C G (mX0_countBorderEdges l X σ (t + 1) 0 v18 ok.2.2.1 e_v18) ok.2.2.1.1.2 (gE_0 ok.2.2.1.1.1) rfl (g_goodV u_ml_RX8_165 u_im_yX0_countBorderEdges u_se_yX0_countBorderEdges u_in_RX0 u_co_yX0_countBorderEdges) rfl rfl rfl (by decide +kernel) ⟨Nat.le_of_ble_eq_true rfl, Nat.le_of_ble_eq_true rfl⟩ rfl hl.1 rfl (Nat.le_of_ble_eq_true rfl) dX8_count_145 ⟨Nat.zero_le _, Nat.zero_le _⟩) G (fun H locs G => ?_)
    exact ret dX8_count_148 rfl G (Prod.mk.inj (Option.some.inj h))
  have h := g_if h c17
  by_cases c19 : a1 = 8
  · have h := g_it h c19
    refine lv_tableIn (off := 148) (tgt := 149) hx hb dX8_count_1 (by rw [c19]; decide) (by rw [c19]; decide) (by rw [c19]; rfl) (by decide) ?_
    refine lv_aload_n hx hb dX8_count_149 rfl (lv_at hl 0 rfl) ?_
    refine gg8_0 C G ok.1 ok.2.1.1 u_fl_RX8_10 dX8_count_150 ?_
    refine lv_iconst (v := 4) hx hb dX8_count_153 (by decide) ?_
    obtain ⟨v20, e_v20, h⟩ := g_bind h
    refine g_calli (g_runV (n := 1) (As := [.int 4]) (rest := []) C G (mX0_countBorderEdges l X σ (t + 1) 4 v20 ok.2.2.1 e_v20) ok.2.2.1.1.2 (gE_0 ok.2.2.1.1.1) rfl (g_goodV u_ml_RX8_165 u_im_yX0_countBorderEdges u_se_yX0_countBorderEdges u_in_RX0 u_co_yX0_countBorderEdges) rfl rfl rfl (by decide +kernel) ⟨Nat.le_of_ble_eq_true rfl, Nat.le_of_ble_eq_true rfl⟩ rfl hl.1 rfl (Nat.le_of_ble_eq_true rfl) dX8_count_154 ⟨Nat.zero_le _, Nat.zero_le _⟩) G (fun H locs G => ?_)
    exact ret dX8_count_157 rfl G (Prod.mk.inj (Option.some.inj h))
  have h := g_if h c19
  by_cases c21 : a1 = 9
  · have h := g_it h c21
    refine lv_tableIn (off := 157) (tgt := 158) hx hb dX8_count_1 (by rw [c21]; decide) (by rw [c21]; decide) (by rw [c21]; rfl) (by decide) ?_
    refine lv_aload_n hx hb dX8_count_158 rfl (lv_at hl 0 rfl) ?_
    refine gg8_0 C G ok.1 ok.2.1.1 u_fl_RX8_10 dX8_count_159 ?_
    refine gn0_1 C G ok.2.2.1.1 ok.2.2.1.2.1.2 (List.mem_of_getElem? (i := 3) rfl) dX8_count_162 ?_
    obtain ⟨v22, e_v22, h⟩ := g_bind h
    refine g_calli (g_runV (n := 0) (As := []) (rest := []) C G (mX4_places l X σ ((t + 1) + 8) v22 ok.2.2.1.2.2.2 e_v22) ok.2.2.1.2.2.2.1.2 (gE_4 ok.2.2.1.2.2.2.1.1) rfl (g_goodV u_ml_RX8_168 u_im_yX4_places u_se_yX4_places u_in_RX4 u_co_yX4_places) rfl rfl rfl (by decide +kernel) ⟨Nat.le_of_ble_eq_true rfl, Nat.le_of_ble_eq_true rfl⟩ rfl hl.1 rfl (Nat.le_of_ble_eq_true rfl) dX8_count_165 ⟨Nat.zero_le _, Nat.zero_le _⟩) G (fun H locs G => ?_)
    refine lv_aload_n hx hb dX8_count_168 rfl (lv_at hl 0 rfl) ?_
    refine gg8_0 C G ok.1 ok.2.1.1 u_fl_RX8_10 dX8_count_169 ?_
    obtain ⟨v23, e_v23, h⟩ := g_bind h
    refine g_calli (g_runV (n := 0) (As := []) (rest := [.int v22]) C G (mX0_countLying l X σ (t + 1) v23 ok.2.2.1 e_v23) ok.2.2.1.1.2 (gE_0 ok.2.2.1.1.1) rfl (g_goodV u_ml_RX8_51 u_im_yX0_countLying u_se_yX0_countLying u_in_RX0 u_co_yX0_countLying) rfl rfl rfl (by decide +kernel) ⟨Nat.le_of_ble_eq_true rfl, Nat.le_of_ble_eq_true rfl⟩ rfl hl.1 rfl (Nat.le_of_ble_eq_true rfl) dX8_count_172 ⟨Nat.zero_le _, Nat.zero_le _⟩) G (fun H locs G => ?_)
    refine lv_isub hx hb dX8_count_175 ?_
    exact ret dX8_count_176 rfl G (Prod.mk.inj (Option.some.inj h))
  have h := g_if h c21
  by_cases c24 : a1 = 10
  · have h := g_it h c24
    refine lv_tableIn (off := 176) (tgt := 177) hx hb dX8_count_1 (by rw [c24]; decide) (by rw [c24]; decide) (by rw [c24]; rfl) (by decide) ?_
    refine lv_aload_n hx hb dX8_count_177 rfl (lv_at hl 0 rfl) ?_
    refine gg8_2 C G ok.1 ok.2.1.2.2.1 u_fl_RX8_22 dX8_count_178 ?_
    obtain ⟨v25, e_v25, h⟩ := g_bind h
    refine g_calli (g_runV (n := 0) (As := []) (rest := []) C G (mX3_size l X σ (t + 31) v25 ok.2.2.2.2.1 e_v25) ok.2.2.2.2.1.1.2 (gE_3 ok.2.2.2.2.1.1.1) rfl (g_goodV u_ml_RX8_148 u_im_yX3_size u_se_yX3_size u_in_RX3 u_co_yX3_size) rfl rfl rfl (by decide +kernel) ⟨Nat.le_of_ble_eq_true rfl, Nat.le_of_ble_eq_true rfl⟩ rfl hl.1 rfl (Nat.le_of_ble_eq_true rfl) dX8_count_181 ⟨Nat.zero_le _, Nat.zero_le _⟩) G (fun H locs G => ?_)
    exact ret dX8_count_184 rfl G (Prod.mk.inj (Option.some.inj h))
  have h := g_if h c24
  by_cases c26 : a1 = 11
  · have h := g_it h c26
    refine lv_tableIn (off := 184) (tgt := 185) hx hb dX8_count_1 (by rw [c26]; decide) (by rw [c26]; decide) (by rw [c26]; rfl) (by decide) ?_
    refine lv_aload_n hx hb dX8_count_185 rfl (lv_at hl 0 rfl) ?_
    refine gg8_4 C G ok.1 ok.2.1.2.2.2.2.1 u_fl_RX8_36 dX8_count_186 ?_
    obtain ⟨v27, e_v27, h⟩ := g_bind h
    refine g_calli (g_runV (n := 0) (As := []) (rest := []) C G (mX7_length l X σ (t + 111) v27 ok.2.2.2.2.2.2.1 e_v27) ok.2.2.2.2.2.2.1.1.2 (gE_7 ok.2.2.2.2.2.2.1.1.1) rfl (g_goodV u_ml_RX8_171 u_im_yX7_length u_se_yX7_length u_in_RX7 u_co_yX7_length) rfl rfl rfl (by decide +kernel) ⟨Nat.le_of_ble_eq_true rfl, Nat.le_of_ble_eq_true rfl⟩ rfl hl.1 rfl (Nat.le_of_ble_eq_true rfl) dX8_count_189 ⟨Nat.zero_le _, Nat.zero_le _⟩) G (fun H locs G => ?_)
    exact ret dX8_count_192 rfl G (Prod.mk.inj (Option.some.inj h))
  have h := g_if h c26
  refine lv_tableOut (tgt := 193) hx hb dX8_count_1 (by have q0 := lv_neT c1 (a := 0) (by decide); have q1 := lv_neT c3 (a := 1) (by decide); have q2 := lv_neT c5 (a := 2) (by decide); have q3 := lv_neT c7 (a := 3) (by decide); have q4 := lv_neT c9 (a := 4) (by decide); have q5 := lv_neT c13 (a := 5) (by decide); have q6 := lv_neT c15 (a := 6) (by decide); have q7 := lv_neT c17 (a := 7) (by decide); have q8 := lv_neT c19 (a := 8) (by decide); have q9 := lv_neT c21 (a := 9) (by decide); have q10 := lv_neT c24 (a := 10) (by decide); have q11 := lv_neT c26 (a := 11) (by decide); omega) (by decide) ?_
  refine lv_sipush (v := (-1001)) hx hb dX8_count_193 (by decide) ?_
  exact ret dX8_count_196 rfl G (Prod.mk.inj (Option.some.inj h))
