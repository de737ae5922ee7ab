def fX0_countWays_5 (σ : gM) (t : Nat) (a1 : Int32) (a2 : Int32) : Nat → Int32 → Int32 → Option (Int32)
  | 0, _, _ => none
  | n + 1, x3, x4 =>
    (if 8 ≤ x4 then
      some x3
    else
      ((fX0_canLie σ t a1 a2 x4).bind fun v2 =>
      (if v2 = 0 then
        (gl (x4 + 1) fun w4 =>
        fX0_countWays_5 σ t a1 a2 n x3 w4)
      else
        (gl (x3 + 1) fun w5 =>
        (gl (x4 + 1) fun w6 =>
        fX0_countWays_5 σ t a1 a2 n w5 w6)))))

def fX0_countWays (σ : gM) (t : Nat) (a1 : Int32) (a2 : Int32) : Option (Int32) :=
  fX0_countWays_5 σ t a1 a2 gF 0 0
set_option maxHeartbeats 4000000 in
set_option maxRecDepth 100000 in
theorem mX0_countWays (l : Launch) (X : gX) (σ : gM) (t : Nat) (a1 : Int32) (a2 : Int32) (r : Int32) (ok : gok0 X t) (h : fX0_countWays σ t a1 a2 = some r) : Met l yX0_countWays (Cond.code yX0_countWays cX0_countWays 5 (some .int) :: gBig) ({ frames := 4, cells := 0, slots := 0, locals := 99 }) (gPc X σ [.ref (xN X + t), .int a1, .int a2]) (gQi X σ r) 0 0 (xA X) := by
  refine g_meti (cc := cX0_countWays) (maxL := 5) (own := RX0) (by decide) rfl rfl (Nat.le_of_ble_eq_true rfl) ?_
  intro p ev s m args below meth c Q C G ret ls hl
  obtain ⟨⟨hx, hb, hml, hown, hts⟩, hK⟩ := id C
  have hl : lv_has ls 5 [(0, .ref (xN X + t)), (1, .int a1), (2, .int a2)] := hl
  have L5 : ∀ (n : Nat) (H : Heap) (locs : List Loc) (ls : Array Slot) (x3 : Int32) (x4 : Int32), gG X σ s H locs → lv_has ls 5 [(0, .ref (xN X + t)), (1, .int a1), (2, .int a2), (3, .int x3), (4, .int x4)] → fX0_countWays_5 σ t a1 a2 n x3 x4 = some r → W p l ev ({ frames := 4, cells := 0, slots := 0, locals := 99 }) s m args below meth c H locs 0 0 Q (F0 m 5 ls []) := by
    intro n
    induction n with
    | zero =>
      intro H locs ls x3 x4 G hl h
      rw [fX0_countWays_5] at h
      cases h
    | succ n ih =>
      intro H locs ls x3 x4 G hl h
      rw [fX0_countWays_5] at h
      refine lv_iload hx hb dX0_countWays_5 (lv_at hl 4 rfl) ?_
      refine lv_bipush (v := 8) hx hb dX0_countWays_7 (by decide) ?_
      refine lv_icmp_ge (tgt := 32) hx hb dX0_countWays_9 (by decide) (fun c1 => ?_) (fun c1 => ?_)
      · have h := g_it h c1
        refine lv_iload_n hx hb dX0_countWays_32 rfl (lv_at hl 3 rfl) ?_
        exact ret dX0_countWays_33 rfl G ⟨Option.some.inj h, rfl⟩
      · have h := g_if h c1
        refine lv_aload_n hx hb dX0_countWays_12 rfl (lv_at hl 0 rfl) ?_
        refine lv_iload_n hx hb dX0_countWays_13 rfl (lv_at hl 1 rfl) ?_
        refine lv_iload_n hx hb dX0_countWays_14 rfl (lv_at hl 2 rfl) ?_
        refine lv_iload hx hb dX0_countWays_15 (lv_at hl 4 rfl) ?_
        obtain ⟨v2, e_v2, h⟩ := g_bind h
        refine g_calli (g_runV (n := 3) (As := [.int a1, .int a2, .int x4]) (rest := []) C G (mX0_canLie l X σ t a1 a2 x4 v2 ok e_v2) ok.1.2 (gE_0 ok.1.1) rfl (g_goodV u_ml_RX0_67 u_im_yX0_canLie u_se_yX0_canLie u_in_RX0 u_co_yX0_canLie) rfl rfl rfl (by decide +kernel) ⟨Nat.le_of_ble_eq_true rfl, Nat.le_of_ble_eq_true rfl⟩ rfl hl.1 rfl (Nat.le_of_ble_eq_true rfl) dX0_countWays_17 ⟨Nat.zero_le _, Nat.zero_le _⟩) G (fun H locs G => ?_)
        refine lv_if_eq (tgt := 26) hx hb dX0_countWays_20 (by decide) (fun c3 => ?_) (fun c3 => ?_)
        · have h := g_it h c3
          obtain ⟨w4, e_w4⟩ : ∃ y : Int32, y = x4 + 1 := ⟨_, rfl⟩
          have h := g_let2 e_w4 h
          refine lv_iinc (v := w4) (lv' := [(4, .int w4), (0, .ref (xN X + t)), (1, .int a1), (2, .int a2), (3, .int x3)]) hx hb dX0_countWays_26 hl (k := 4) rfl (by rw [e_w4]; rfl) (by decide) rfl (fun ls hl => ?_)
          refine lv_goto (tgt := 5) hx hb dX0_countWays_29 (by decide) ?_
          exact ih _ _ _ x3 w4 G (lv_sub hl [1, 2, 3, 4, 0] rfl) h
        · have h := g_if h c3
          obtain ⟨w5, e_w5⟩ : ∃ y : Int32, y = x3 + 1 := ⟨_, rfl⟩
          have h := g_let2 e_w5 h
          refine lv_iinc (v := w5) (lv' := [(3, .int w5), (0, .ref (xN X + t)), (1, .int a1), (2, .int a2), (4, .int x4)]) hx hb dX0_countWays_23 hl (k := 3) rfl (by rw [e_w5]; rfl) (by decide) rfl (fun ls hl => ?_)
          obtain ⟨w6, e_w6⟩ : ∃ y : Int32, y = x4 + 1 := ⟨_, rfl⟩
          have h := g_let2 e_w6 h
          refine lv_iinc (v := w6) (lv' := [(4, .int w6), (3, .int w5), (0, .ref (xN X + t)), (1, .int a1), (2, .int a2)]) hx hb dX0_countWays_26 hl (k := 4) rfl (by rw [e_w6]; rfl) (by decide) rfl (fun ls hl => ?_)
          refine lv_goto (tgt := 5) hx hb dX0_countWays_29 (by decide) ?_
          exact ih _ _ _ w5 w6 G (lv_sub hl [2, 3, 4, 1, 0] rfl) h
  unfold fX0_countWays at h
  refine lv_iconst (v := 0) hx hb dX0_countWays_0 (by decide) ?_
  refine lv_istore_n (lv' := [(3, .int 0), (0, .ref (xN X + t)), (1, .int a1), (2, .int a2)]) hx hb dX0_countWays_1 rfl hl (by decide) rfl (fun ls hl => ?_)
  refine lv_iconst (v := 0) hx hb dX0_countWays_2 (by decide) ?_
  refine lv_istore (lv' := [(4, .int 0), (3, .int 0), (0, .ref (xN X + t)), (1, .int a1), (2, .int a2)]) hx hb dX0_countWays_3 hl (by decide) rfl (fun ls hl => ?_)
  exact L5  gF _ _ _ 0 0 G (lv_sub hl [2, 3, 4, 1, 0] rfl) h

def fX8_ways (σ : gM) (t : Nat) (a1 : Int32) (a2 : Int32) : Option (Int32) :=
  ((fX8_isScrap σ t a1).bind fun v1 =>
  (if v1 = 0 then
    some (-1001)
  else
    ((fX8_isPlace σ t a2).bind fun v3 =>
    (if v3 = 0 then
      some (-1001)
    else
      ((fX4_scrapAt σ ((t + 1) + 8) a2).bind fun v5 =>
      (if v5 = (-1) then
        ((fX0_countWays σ (t + 1) a1 a2).bind fun v7 =>
        some v7)
      else
        (if v5 = a1 then
          ((fX0_countWays σ (t + 1) a1 a2).bind fun v9 =>
          some v9)
        else
          some (-1002))))))))
set_option maxHeartbeats 4000000 in
set_option maxRecDepth 100000 in
theorem mX8_ways (l : Launch) (X : gX) (σ : gM) (t : Nat) (a1 : Int32) (a2 : Int32) (r : Int32) (ok : gok8 X t) (h : fX8_ways σ t a1 a2 = some r) : Met l yX8_ways (Cond.code yX8_ways cX8_ways 4 (some .int) :: gBig) ({ frames := 5, cells := 0, slots := 0, locals := 123 }) (gPc X σ [.ref (xN X + t), .int a1, .int a2]) (gQi X σ r) 0 0 (xA X) := by
  refine g_meti (cc := cX8_ways) (maxL := 4) (own := RX8) (by decide) rfl rfl (Nat.le_of_ble_eq_true rfl) ?_
  intro p ev s m args below meth c Q C G ret ls hl
  obtain ⟨⟨hx, hb, hml, hown, hts⟩, hK⟩ := id C
  have hl : lv_has ls 4 [(0, .ref (xN X + t)), (1, .int a1), (2, .int a2)] := hl
  unfold fX8_ways at h
  refine lv_aload_n hx hb dX8_ways_0 rfl (lv_at hl 0 rfl) ?_
  refine lv_iload_n hx hb dX8_ways_1 rfl (lv_at hl 1 rfl) ?_
  obtain ⟨v1, e_v1, h⟩ := g_bind h
  refine g_calli (g_runV (n := 1) (As := [.int a1]) (rest := []) C G (mX8_isScrap l X σ t a1 v1 ok e_v1) ok.1.2 (gE_8 ok.1.1) rfl (g_goodV u_ml_RX8_104 u_im_yX8_isScrap u_se_yX8_isScrap u_in_RX8 u_co_yX8_isScrap) rfl rfl rfl (by decide +kernel) ⟨Nat.le_of_ble_eq_true rfl, Nat.le_of_ble_eq_true rfl⟩ rfl hl.1 rfl (Nat.le_of_ble_eq_true rfl) dX8_ways_2 ⟨Nat.zero_le _, Nat.zero_le _⟩) G (fun H locs G => ?_)
  refine lv_if_eq (tgt := 16) hx hb dX8_ways_5 (by decide) (fun c2 => ?_) (fun c2 => ?_)
  · have h := g_it h c2
    refine lv_sipush (v := (-1001)) hx hb dX8_ways_16 (by decide) ?_
    exact ret dX8_ways_19 rfl G ⟨Option.some.inj h, rfl⟩
  · have h := g_if h c2
    refine lv_aload_n hx hb dX8_ways_8 rfl (lv_at hl 0 rfl) ?_
    refine lv_iload_n hx hb dX8_ways_9 rfl (lv_at hl 2 rfl) ?_
    obtain ⟨v3, e_v3, h⟩ := g_bind h
    refine g_calli (g_runV (n := 1) (As := [.int a2]) (rest := []) C G (mX8_isPlace l X σ t a2 v3 ok e_v3) ok.1.2 (gE_8 ok.1.1) rfl (g_goodV u_ml_RX8_174 u_im_yX8_isPlace u_se_yX8_isPlace u_in_RX8 u_co_yX8_isPlace) rfl rfl rfl (by decide +kernel) ⟨Nat.le_of_ble_eq_true rfl, Nat.le_of_ble_eq_true rfl⟩ rfl hl.1 rfl (Nat.le_of_ble_eq_true rfl) dX8_ways_10 ⟨Nat.zero_le _, Nat.zero_le _⟩) G (fun H locs G => ?_)
    refine lv_if_ne (tgt := 20) hx hb dX8_ways_13 (by decide) (fun c4 => ?_) (fun c4 => ?_)
    · have h := g_if h c4
      refine lv_aload_n hx hb dX8_ways_20 rfl (lv_at hl 0 rfl) ?_
      refine gg8_0 C G ok.1 ok.2.1.1 u_fl_RX8_10 dX8_ways_21 ?_
      refine gn0_1 C G ok.2.2.1.1 ok.2.2.1.2.1.2 (List.mem_of_getElem? (i := 3) rfl) dX8_ways_24 ?_
      refine lv_iload_n hx hb dX8_ways_27 rfl (lv_at hl 2 rfl) ?_
      obtain ⟨v5, e_v5, h⟩ := g_bind h
      refine g_calli (g_runV (n := 1) (As := [.int a2]) (rest := []) C G (mX4_scrapAt l X σ ((t + 1) + 8) a2 v5 ok.2.2.1.2.2.2 e_v5) ok.2.2.1.2.2.2.1.2 (gE_4 ok.2.2.1.2.2.2.1.1) rfl (g_goodV u_ml_RX8_194 u_im_yX4_scrapAt u_se_yX4_scrapAt u_in_RX4 u_co_yX4_scrapAt) rfl rfl rfl (by decide +kernel) ⟨Nat.le_of_ble_eq_true rfl, Nat.le_of_ble_eq_true rfl⟩ rfl hl.1 rfl (Nat.le_of_ble_eq_true rfl) dX8_ways_28 ⟨Nat.zero_le _, Nat.zero_le _⟩) G (fun H locs G => ?_)
      refine lv_istore_n (lv' := [(3, .int v5), (0, .ref (xN X + t)), (1, .int a1), (2, .int a2)]) hx hb dX8_ways_31 rfl hl (by decide) rfl (fun ls hl => ?_)
      refine lv_iload_n hx hb dX8_ways_32 rfl (lv_at hl 0 rfl) ?_
      refine lv_iconst (v := (-1)) hx hb dX8_ways_33 (by decide) ?_
      refine lv_icmp_eq (tgt := 46) hx hb dX8_ways_34 (by decide) (fun c6 => ?_) (fun c6 => ?_)
      · have h := g_it h c6
        refine lv_aload_n hx hb dX8_ways_46 rfl (lv_at hl 1 rfl) ?_
        refine gg8_0 C G ok.1 ok.2.1.1 u_fl_RX8_10 dX8_ways_47 ?_
        refine lv_iload_n hx hb dX8_ways_50 rfl (lv_at hl 2 rfl) ?_
        refine lv_iload_n hx hb dX8_ways_51 rfl (lv_at hl 3 rfl) ?_
        obtain ⟨v7, e_v7, h⟩ := g_bind h
        refine g_calli (g_runV (n := 2) (As := [.int a1, .int a2]) (rest := []) C G (mX0_countWays l X σ (t + 1) a1 a2 v7 ok.2.2.1 e_v7) ok.2.2.1.1.2 (gE_0 ok.2.2.1.1.1) rfl (g_goodV u_ml_RX8_201 u_im_yX0_countWays u_se_yX0_countWays u_in_RX0 u_co_yX0_countWays) rfl rfl rfl (by decide +kernel) ⟨Nat.le_of_ble_eq_true rfl, Nat.le_of_ble_eq_true rfl⟩ rfl hl.1 rfl (Nat.le_of_ble_eq_true rfl) dX8_ways_52 ⟨Nat.zero_le _, Nat.zero_le _⟩) G (fun H locs G => ?_)
        exact ret dX8_ways_55 rfl G ⟨Option.some.inj h, rfl⟩
      · have h := g_if h c6
        refine lv_iload_n hx hb dX8_ways_37 rfl (lv_at hl 0 rfl) ?_
        refine lv_iload_n hx hb dX8_ways_38 rfl (lv_at hl 2 rfl) ?_
        refine lv_icmp_eq (tgt := 46) hx hb dX8_ways_39 (by decide) (fun c8 => ?_) (fun c8 => ?_)
        · have h := g_it h c8
          refine lv_aload_n hx hb dX8_ways_46 rfl (lv_at hl 1 rfl) ?_
          refine gg8_0 C G ok.1 ok.2.1.1 u_fl_RX8_10 dX8_ways_47 ?_
          refine lv_iload_n hx hb dX8_ways_50 rfl (lv_at hl 2 rfl) ?_
          refine lv_iload_n hx hb dX8_ways_51 rfl (lv_at hl 3 rfl) ?_
          obtain ⟨v9, e_v9, h⟩ := g_bind h
          refine g_calli (g_runV (n := 2) (As := [.int a1, .int a2]) (rest := []) C G (mX0_countWays l X σ (t + 1) a1 a2 v9 ok.2.2.1 e_v9) ok.2.2.1.1.2 (gE_0 ok.2.2.1.1.1) rfl (g_goodV u_ml_RX8_201 u_im_yX0_countWays u_se_yX0_countWays u_in_RX0 u_co_yX0_countWays) rfl rfl rfl (by decide +kernel) ⟨Nat.le_of_ble_eq_true rfl, Nat.le_of_ble_eq_true rfl⟩ rfl hl.1 rfl (Nat.le_of_ble_eq_true rfl) dX8_ways_52 ⟨Nat.zero_le _, Nat.zero_le _⟩) G (fun H locs G => ?_)
          exact ret dX8_ways_55 rfl G ⟨Option.some.inj h, rfl⟩
        · have h := g_if h c8
          refine lv_sipush (v := (-1002)) hx hb dX8_ways_42 (by decide) ?_
          exact ret dX8_ways_45 rfl G ⟨Option.some.inj h, rfl⟩
    · have h := g_it h c4
      refine lv_sipush (v := (-1001)) hx hb dX8_ways_16 (by decide) ?_
      exact ret dX8_ways_19 rfl G ⟨Option.some.inj h, rfl⟩

def fX0_bestPlace_48 (K7 : Int32 → Int32 → Int32 → Option (Int32)) (σ : gM) (t : Nat) (a1 : Int32) : Nat → Int32 → Int32 → Int32 → Int32 → Int32 → Option (Int32)
  | 0, _, _, _, _, _ => none
  | n + 1, x2, x3, x4, x5, x6 =>
    (if 8 ≤ x6 then
      (gl (x4 + 1) fun w7 =>
      K7 x2 x3 w7)
    else
      (if x5 ≤ x3 then
        (gl (x4 + 1) fun w9 =>
        K7 x2 x3 w9)
      else
        ((fX0_canLie σ t a1 x4 x6).bind fun v10 =>
        (if v10 = 0 then
          (gl (x6 + 1) fun w12 =>
          fX0_bestPlace_48 K7 σ t a1 n x2 x3 x4 x5 w12)
        else
          (gl ((x4 * 10) + x6) fun w13 =>
          (gl (x6 + 1) fun w14 =>
          fX0_bestPlace_48 K7 σ t a1 n w13 x5 x4 x5 w14))))))

def fX0_bestPlace_7 (σ : gM) (t : Nat) (a1 : Int32) : Nat → Int32 → Int32 → Int32 → Option (Int32)
  | 0, _, _, _ => none
  | n + 1, x2, x3, x4 =>
    ((fX4_places σ (t + 8)).bind fun v1 =>
    (if v1 ≤ x4 then
      some x2
    else
      ((fX4_scrapAt σ (t + 8) x4).bind fun v3 =>
      (if v3 = (-1) then
        ((fX0_seamsAt σ t a1 x4).bind fun v5 =>
        fX0_bestPlace_48 (fun y2 y3 y4 => fX0_bestPlace_7 σ t a1 n y2 y3 y4) σ t a1 gF x2 x3 x4 v5 0)
      else
        fX0_bestPlace_48 (fun y2 y3 y4 => fX0_bestPlace_7 σ t a1 n y2 y3 y4) σ t a1 gF x2 x3 x4 (-1) 0))))

def fX0_bestPlace (σ : gM) (t : Nat) (a1 : Int32) : Option (Int32) :=
  fX0_bestPlace_7 σ t a1 gF (-1) (-1) 0
set_option maxHeartbeats 4000000 in
set_option maxRecDepth 100000 in
theorem mX0_bestPlace (l : Launch) (X : gX) (σ : gM) (t : Nat) (a1 : Int32) (r : Int32) (ok : gok0 X t) (h : fX0_bestPlace σ t a1 = some r) : Met l yX0_bestPlace (Cond.code yX0_bestPlace cX0_bestPlace 7 (some .int) :: gBig) ({ frames := 4, cells := 0, slots := 0, locals := 99 }) (gPc X σ [.ref (xN X + t), .int a1]) (gQi X σ r) 0 0 (xA X) := by
  refine g_meti (cc := cX0_bestPlace) (maxL := 7) (own := RX0) (by decide) rfl rfl (Nat.le_of_ble_eq_true rfl) ?_
  intro p ev s m args below meth c Q C G ret ls hl
  obtain ⟨⟨hx, hb, hml, hown, hts⟩, hK⟩ := id C
  have hl : lv_has ls 7 [(0, .ref (xN X + t)), (1, .int a1)] := hl
  have L48 : ∀ (K7 : Int32 → Int32 → Int32 → Option (Int32)), (∀ (H : Heap) (locs : List Loc) (ls : Array Slot) (x2 : Int32) (x3 : Int32) (x4 : Int32), gG X σ s H locs → lv_has ls 7 [(0, .ref (xN X + t)), (1, .int a1), (2, .int x2), (3, .int x3), (4, .int x4)] → K7 x2 x3 x4 = some r → W p l ev ({ frames := 4, cells := 0, slots := 0, locals := 99 }) s m args below meth c H locs 0 0 Q (F0 m 7 ls [])) → ∀ (n : Nat) (H : Heap) (locs : List Loc) (ls : Array Slot) (x2 : Int32) (x3 : Int32) (x4 : Int32) (x5 : Int32) (x6 : Int32), gG X σ s H locs → lv_has ls 7 [(0, .ref (xN X + t)), (1, .int a1), (2, .int x2), (3, .int x3), (4, .int x4), (5, .int x5), (6, .int x6)] → fX0_bestPlace_48 K7 σ t a1 n x2 x3 x4 x5 x6 = some r → W p l ev ({ frames := 4, cells := 0, slots := 0, locals := 99 }) s m args below meth c H locs 0 0 Q (F0 m 48 ls []) := by
    intro K7 hK7 n
    induction n with
    | zero =>
      intro H locs ls x2 x3 x4 x5 x6 G hl h
      rw [fX0_bestPlace_48] at h
      cases h
    | succ n ih =>
      intro H locs ls x2 x3 x4 x5 x6 G hl h
      rw [fX0_bestPlace_48] at h
      refine lv_iload hx hb dX0_bestPlace_48 (lv_at hl 6 rfl) ?_
      refine lv_bipush (v := 8) hx hb dX0_bestPlace_50 (by decide) ?_
      refine lv_icmp_ge (tgt := 91) hx hb dX0_bestPlace_52 (by decide) (fun c6 => ?_) (fun c6 => ?_)
      · have h := g_it h c6
        obtain ⟨w7, e_w7⟩ : ∃ y : Int32, y = x4 + 1 := ⟨_, rfl⟩
        have h := g_let2 e_w7 h
        refine lv_iinc (v := w7) (lv' := [(4, .int w7), (0, .ref (xN X + t)), (1, .int a1), (2, .int x2), (3, .int x3), (5, .int x5), (6, .int x6)]) hx hb dX0_bestPlace_91 hl (k := 4) rfl (by rw [e_w7]; rfl) (by decide) rfl (fun ls hl => ?_)
        refine lv_goto (tgt := 7) hx hb dX0_bestPlace_94 (by decide) ?_
        exact hK7 _ _ _ x2 x3 w7 G (lv_sub hl [1, 2, 3, 4, 0] rfl) h
      · have h := g_if h c6
        refine lv_iload hx hb dX0_bestPlace_55 (lv_at hl 5 rfl) ?_
        refine lv_iload_n hx hb dX0_bestPlace_57 rfl (lv_at hl 3 rfl) ?_
        refine lv_icmp_le (tgt := 91) hx hb dX0_bestPlace_58 (by decide) (fun c8 => ?_) (fun c8 => ?_)
        · have h := g_it h c8
          obtain ⟨w9, e_w9⟩ : ∃ y : Int32, y = x4 + 1 := ⟨_, rfl⟩
          have h := g_let2 e_w9 h
          refine lv_iinc (v := w9) (lv' := [(4, .int w9), (0, .ref (xN X + t)), (1, .int a1), (2, .int x2), (3, .int x3), (5, .int x5), (6, .int x6)]) hx hb dX0_bestPlace_91 hl (k := 4) rfl (by rw [e_w9]; rfl) (by decide) rfl (fun ls hl => ?_)
          refine lv_goto (tgt := 7) hx hb dX0_bestPlace_94 (by decide) ?_
          exact hK7 _ _ _ x2 x3 w9 G (lv_sub hl [1, 2, 3, 4, 0] rfl) h
        · have h := g_if h c8
          refine lv_aload_n hx hb dX0_bestPlace_61 rfl (lv_at hl 0 rfl) ?_
          refine lv_iload_n hx hb dX0_bestPlace_62 rfl (lv_at hl 1 rfl) ?_
          refine lv_iload hx hb dX0_bestPlace_63 (lv_at hl 4 rfl) ?_
          refine lv_iload hx hb dX0_bestPlace_65 (lv_at hl 6 rfl) ?_
          obtain ⟨v10, e_v10, h⟩ := g_bind h
          refine g_calli (g_runV (n := 3) (As := [.int a1, .int x4, .int x6]) (rest := []) C G (mX0_canLie l X σ t a1 x4 x6 v10 ok e_v10) ok.1.2 (gE_0 ok.1.1) rfl (g_goodV u_ml_RX0_67 u_im_yX0_canLie u_se_yX0_canLie u_in_RX0 u_co_yX0_canLie) rfl rfl rfl (by decide +kernel) ⟨Nat.le_of_ble_eq_true rfl, Nat.le_of_ble_eq_true rfl⟩ rfl hl.1 rfl (Nat.le_of_ble_eq_true rfl) dX0_bestPlace_67 ⟨Nat.zero_le _, Nat.zero_le _⟩) G (fun H locs G => ?_)
          refine lv_if_eq (tgt := 85) hx hb dX0_bestPlace_70 (by decide) (fun c11 => ?_) (fun c11 => ?_)
          · have h := g_it h c11
            obtain ⟨w12, e_w12⟩ : ∃ y : Int32, y = x6 + 1 := ⟨_, rfl⟩
            have h := g_let2 e_w12 h
            refine lv_iinc (v := w12) (lv' := [(6, .int w12), (0, .ref (xN X + t)), (1, .int a1), (2, .int x2), (3, .int x3), (4, .int x4), (5, .int x5)]) hx hb dX0_bestPlace_85 hl (k := 6) rfl (by rw [e_w12]; rfl) (by decide) rfl (fun ls hl => ?_)
            refine lv_goto (tgt := 48) hx hb dX0_bestPlace_88 (by decide) ?_
            exact ih _ _ _ x2 x3 x4 x5 w12 G (lv_sub hl [1, 2, 3, 4, 5, 6, 0] rfl) h
          · have h := g_if h c11
            refine lv_iload hx hb dX0_bestPlace_73 (lv_at hl 4 rfl) ?_
            refine lv_bipush (v := 10) hx hb dX0_bestPlace_75 (by decide) ?_
            refine lv_imul hx hb dX0_bestPlace_77 ?_
            refine lv_iload hx hb dX0_bestPlace_78 (lv_at hl 6 rfl) ?_
            refine lv_iadd hx hb dX0_bestPlace_80 ?_
            refine lv_topi (fun w13 e_w13 => ?_)
            have h := g_let2 e_w13 h
            refine lv_istore_n (lv' := [(2, .int w13), (0, .ref (xN X + t)), (1, .int a1), (3, .int x3), (4, .int x4), (5, .int x5), (6, .int x6)]) hx hb dX0_bestPlace_81 rfl hl (by decide) rfl (fun ls hl => ?_)
            refine lv_iload hx hb dX0_bestPlace_82 (lv_at hl 5 rfl) ?_
            refine lv_istore_n (lv' := [(3, .int x5), (2, .int w13), (0, .ref (xN X + t)), (1, .int a1), (4, .int x4), (5, .int x5), (6, .int x6)]) hx hb dX0_bestPlace_84 rfl hl (by decide) rfl (fun ls hl => ?_)
            obtain ⟨w14, e_w14⟩ : ∃ y : Int32, y = x6 + 1 := ⟨_, rfl⟩
            have h := g_let2 e_w14 h
            refine lv_iinc (v := w14) (lv' := [(6, .int w14), (3, .int x5), (2, .int w13), (0, .ref (xN X + t)), (1, .int a1), (4, .int x4), (5, .int x5)]) hx hb dX0_bestPlace_85 hl (k := 6) rfl (by rw [e_w14]; rfl) (by decide) rfl (fun ls hl => ?_)
            refine lv_goto (tgt := 48) hx hb dX0_bestPlace_88 (by decide) ?_
            exact ih _ _ _ w13 x5 x4 x5 w14 G (lv_sub hl [3, 4, 2, 1, 5, 6, 0] rfl) h
  have L7 : ∀ (n : Nat) (H : Heap) (locs : List Loc) (ls : Array Slot) (x2 : Int32) (x3 : Int32) (x4 : Int32), gG X σ s H locs → lv_has ls 7 [(0, .ref (xN X + t)), (1, .int a1), (2, .int x2), (3, .int x3), (4, .int x4)] → fX0_bestPlace_7 σ t a1 n x2 x3 x4 = some r → W p l ev ({ frames := 4, cells := 0, slots := 0, locals := 99 }) s m args below meth c H locs 0 0 Q (F0 m 7 ls []) := by
    intro n
    induction n with
    | zero =>
      intro H locs ls x2 x3 x4 G hl h
      rw [fX0_bestPlace_7] at h
      cases h
    | succ n ih =>
      intro H locs ls x2 x3 x4 G hl h
      rw [fX0_bestPlace_7] at h
      refine lv_iload hx hb dX0_bestPlace_7 (lv_at hl 4 rfl) ?_
      refine lv_aload_n hx hb dX0_bestPlace_9 rfl (lv_at hl 0 rfl) ?_
      refine gg0_1 C G ok.1 ok.2.1.2 u_fl_RX0_21 dX0_bestPlace_10 ?_
      obtain ⟨v1, e_v1, h⟩ := g_bind h
      refine g_calli (g_runV (n := 0) (As := []) (rest := [.int x4]) C G (mX4_places l X σ (t + 8) v1 ok.2.2.2 e_v1) ok.2.2.2.1.2 (gE_4 ok.2.2.2.1.1) rfl (g_goodV u_ml_RX0_90 u_im_yX4_places u_se_yX4_places u_in_RX4 u_co_yX4_places) rfl rfl rfl (by decide +kernel) ⟨Nat.le_of_ble_eq_true rfl, Nat.le_of_ble_eq_true rfl⟩ rfl hl.1 rfl (Nat.le_of_ble_eq_true rfl) dX0_bestPlace_13 ⟨Nat.zero_le _, Nat.zero_le _⟩) G (fun H locs G => ?_)
      refine lv_icmp_ge (tgt := 97) hx hb dX0_bestPlace_16 (by decide) (fun c2 => ?_) (fun c2 => ?_)
      · have h := g_it h c2
        refine lv_iload_n hx hb dX0_bestPlace_97 rfl (lv_at hl 2 rfl) ?_
        exact ret dX0_bestPlace_98 rfl G ⟨Option.some.inj h, rfl⟩
      · have h := g_if h c2
        refine lv_aload_n hx hb dX0_bestPlace_19 rfl (lv_at hl 0 rfl) ?_
        refine gg0_1 C G ok.1 ok.2.1.2 u_fl_RX0_21 dX0_bestPlace_20 ?_
        refine lv_iload hx hb dX0_bestPlace_23 (lv_at hl 4 rfl) ?_
        obtain ⟨v3, e_v3, h⟩ := g_bind h
        refine g_calli (g_runV (n := 1) (As := [.int x4]) (rest := []) C G (mX4_scrapAt l X σ (t + 8) x4 v3 ok.2.2.2 e_v3) ok.2.2.2.1.2 (gE_4 ok.2.2.2.1.1) rfl (g_goodV u_ml_RX0_49 u_im_yX4_scrapAt u_se_yX4_scrapAt u_in_RX4 u_co_yX4_scrapAt) rfl rfl rfl (by decide +kernel) ⟨Nat.le_of_ble_eq_true rfl, Nat.le_of_ble_eq_true rfl⟩ rfl hl.1 rfl (Nat.le_of_ble_eq_true rfl) dX0_bestPlace_25 ⟨Nat.zero_le _, Nat.zero_le _⟩) G (fun H locs G => ?_)
        refine lv_iconst (v := (-1)) hx hb dX0_bestPlace_28 (by decide) ?_
        refine lv_icmp_ne (tgt := 42) hx hb dX0_bestPlace_29 (by decide) (fun c4 => ?_) (fun c4 => ?_)
        · have h := g_if h c4
          refine lv_iconst (v := (-1)) hx hb dX0_bestPlace_42 (by decide) ?_
          refine lv_istore (lv' := [(5, .int (-1)), (0, .ref (xN X + t)), (1, .int a1), (2, .int x2), (3, .int x3), (4, .int x4)]) hx hb dX0_bestPlace_43 hl (by decide) rfl (fun ls hl => ?_)
          refine lv_iconst (v := 0) hx hb dX0_bestPlace_45 (by decide) ?_
          refine lv_istore (lv' := [(6, .int 0), (5, .int (-1)), (0, .ref (xN X + t)), (1, .int a1), (2, .int x2), (3, .int x3), (4, .int x4)]) hx hb dX0_bestPlace_46 hl (by decide) rfl (fun ls hl => ?_)
          exact L48 (fun y2 y3 y4 => fX0_bestPlace_7 σ t a1 n y2 y3 y4) (fun H locs ls y2 y3 y4 G hl h => ih H locs ls y2 y3 y4 G hl h) gF _ _ _ x2 x3 x4 (-1) 0 G (lv_sub hl [2, 3, 4, 5, 6, 1, 0] rfl) h
        · have h := g_it h c4
          refine lv_aload_n hx hb dX0_bestPlace_32 rfl (lv_at hl 0 rfl) ?_
          refine lv_iload_n hx hb dX0_bestPlace_33 rfl (lv_at hl 1 rfl) ?_
          refine lv_iload hx hb dX0_bestPlace_34 (lv_at hl 4 rfl) ?_
          obtain ⟨v5, e_v5, h⟩ := g_bind h
          refine g_calli (g_runV (n := 2) (As := [.int a1, .int x4]) (rest := []) C G (mX0_seamsAt l X σ t a1 x4 v5 ok e_v5) ok.1.2 (gE_0 ok.1.1) rfl (g_goodV u_ml_RX0_93 u_im_yX0_seamsAt u_se_yX0_seamsAt u_in_RX0 u_co_yX0_seamsAt) rfl rfl rfl (by decide +kernel) ⟨Nat.le_of_ble_eq_true rfl, Nat.le_of_ble_eq_true rfl⟩ rfl hl.1 rfl (Nat.le_of_ble_eq_true rfl) dX0_bestPlace_36 ⟨Nat.zero_le _, Nat.zero_le _⟩) G (fun H locs G => ?_)
          refine lv_goto (tgt := 43) hx hb dX0_bestPlace_39 (by decide) ?_
          refine lv_istore (lv' := [(5, .int v5), (0, .ref (xN X + t)), (1, .int a1), (2, .int x2), (3, .int x3), (4, .int x4)]) hx hb dX0_bestPlace_43 hl (by decide) rfl (fun ls hl => ?_)
          refine lv_iconst (v := 0) hx hb dX0_bestPlace_45 (by decide) ?_
          refine lv_istore (lv' := [(6, .int 0), (5, .int v5), (0, .ref (xN X + t)), (1, .int a1), (2, .int x2), (3, .int x3), (4, .int x4)]) hx hb dX0_bestPlace_46 hl (by decide) rfl (fun ls hl => ?_)
          exact L48 (fun y2 y3 y4 => fX0_bestPlace_7 σ t a1 n y2 y3 y4) (fun H locs ls y2 y3 y4 G hl h => ih H locs ls y2 y3 y4 G hl h) gF _ _ _ x2 x3 x4 v5 0 G (lv_sub hl [2, 3, 4, 5, 6, 1, 0] rfl) h
  unfold fX0_bestPlace at h
  refine lv_iconst (v := (-1)) hx hb dX0_bestPlace_0 (by decide) ?_
  refine lv_istore_n (lv' := [(2, .int (-1)), (0, .ref (xN X + t)), (1, .int a1)]) hx hb dX0_bestPlace_1 rfl hl (by decide) rfl (fun ls hl => ?_)
  refine lv_iconst (v := (-1)) hx hb dX0_bestPlace_2 (by decide) ?_
  refine lv_istore_n (lv' := [(3, .int (-1)), (2, .int (-1)), (0, .ref (xN X + t)), (1, .int a1)]) hx hb dX0_bestPlace_3 rfl hl (by decide) rfl (fun ls hl => ?_)
  refine lv_iconst (v := 0) hx hb dX0_bestPlace_4 (by decide) ?_
  refine lv_istore (lv' := [(4, .int 0), (3, .int (-1)), (2, .int (-1)), (0, .ref (xN X + t)), (1, .int a1)]) hx hb dX0_bestPlace_5 hl (by decide) rfl (fun ls hl => ?_)
  exact L7  gF _ _ _ (-1) (-1) 0 G (lv_sub hl [3, 4, 2, 1, 0] rfl) h

def fX8_bestFor (σ : gM) (t : Nat) (a1 : Int32) : Option (Int32) :=
  ((fX8_isScrap σ t a1).bind fun v1 =>
  (if v1 = 0 then
    some (-1001)
  else
    ((fX4_lies σ ((t + 1) + 8) a1).bind fun v3 =>
    (if v3 = 0 then
      ((fX0_bestPlace σ (t + 1) a1).bind fun v5 =>
      (if v5 = (-1) then
        some (-1004)
      else
        some v5))
    else
      some (-1002)))))
set_option maxHeartbeats 4000000 in
set_option maxRecDepth 100000 in
theorem mX8_bestFor (l : Launch) (X : gX) (σ : gM) (t : Nat) (a1 : Int32) (r : Int32) (ok : gok8 X t) (h : fX8_bestFor σ t a1 = some r) : Met l yX8_bestFor (Cond.code yX8_bestFor cX8_bestFor 3 (some .int) :: gBig) ({ frames := 5, cells := 0, slots := 0, locals := 125 }) (gPc X σ [.ref (xN X + t), .int a1]) (gQi X σ r) 0 0 (xA X) := by
  refine g_meti (cc := cX8_bestFor) (maxL := 3) (own := RX8) (by decide) rfl rfl (Nat.le_of_ble_eq_true rfl) ?_
  intro p ev s m args below meth c Q C G ret ls hl
  obtain ⟨⟨hx, hb, hml, hown, hts⟩, hK⟩ := id C
  have hl : lv_has ls 3 [(0, .ref (xN X + t)), (1, .int a1)] := hl
  unfold fX8_bestFor at h
  refine lv_aload_n hx hb dX8_bestFor_0 rfl (lv_at hl 0 rfl) ?_
  refine lv_iload_n hx hb dX8_bestFor_1 rfl (lv_at hl 1 rfl) ?_
  obtain ⟨v1, e_v1, h⟩ := g_bind h
  refine g_calli (g_runV (n := 1) (As := [.int a1]) (rest := []) C G (mX8_isScrap l X σ t a1 v1 ok e_v1) ok.1.2 (gE_8 ok.1.1) rfl (g_goodV u_ml_RX8_104 u_im_yX8_isScrap u_se_yX8_isScrap u_in_RX8 u_co_yX8_isScrap) rfl rfl rfl (by decide +kernel) ⟨Nat.le_of_ble_eq_true rfl, Nat.le_of_ble_eq_true rfl⟩ rfl hl.1 rfl (Nat.le_of_ble_eq_true rfl) dX8_bestFor_2 ⟨Nat.zero_le _, Nat.zero_le _⟩) G (fun H locs G => ?_)
  refine lv_if_ne (tgt := 12) hx hb dX8_bestFor_5 (by decide) (fun c2 => ?_) (fun c2 => ?_)
  · have h := g_if h c2
    refine lv_aload_n hx hb dX8_bestFor_12 rfl (lv_at hl 0 rfl) ?_
    refine gg8_0 C G ok.1 ok.2.1.1 u_fl_RX8_10 dX8_bestFor_13 ?_
    refine gn0_1 C G ok.2.2.1.1 ok.2.2.1.2.1.2 (List.mem_of_getElem? (i := 3) rfl) dX8_bestFor_16 ?_
    refine lv_iload_n hx hb dX8_bestFor_19 rfl (lv_at hl 1 rfl) ?_
    obtain ⟨v3, e_v3, h⟩ := g_bind h
    refine g_calli (g_runV (n := 1) (As := [.int a1]) (rest := []) C G (mX4_lies l X σ ((t + 1) + 8) a1 v3 ok.2.2.1.2.2.2 e_v3) ok.2.2.1.2.2.2.1.2 (gE_4 ok.2.2.1.2.2.2.1.1) rfl (g_goodV u_ml_RX8_110 u_im_yX4_lies u_se_yX4_lies u_in_RX4 u_co_yX4_lies) rfl rfl rfl (by decide +kernel) ⟨Nat.le_of_ble_eq_true rfl, Nat.le_of_ble_eq_true rfl⟩ rfl hl.1 rfl (Nat.le_of_ble_eq_true rfl) dX8_bestFor_20 ⟨Nat.zero_le _, Nat.zero_le _⟩) G (fun H locs G => ?_)
    refine lv_if_eq (tgt := 30) hx hb dX8_bestFor_23 (by decide) (fun c4 => ?_) (fun c4 => ?_)
    · have h := g_it h c4
      refine lv_aload_n hx hb dX8_bestFor_30 rfl (lv_at hl 0 rfl) ?_
      refine gg8_0 C G ok.1 ok.2.1.1 u_fl_RX8_10 dX8_bestFor_31 ?_
      refine lv_iload_n hx hb dX8_bestFor_34 rfl (lv_at hl 1 rfl) ?_
      obtain ⟨v5, e_v5, h⟩ := g_bind h
      refine g_calli (g_runV (n := 1) (As := [.int a1]) (rest := []) C G (mX0_bestPlace l X σ (t + 1) a1 v5 ok.2.2.1 e_v5) ok.2.2.1.1.2 (gE_0 ok.2.2.1.1.1) rfl (g_goodV u_ml_RX8_204 u_im_yX0_bestPlace u_se_yX0_bestPlace u_in_RX0 u_co_yX0_bestPlace) rfl rfl rfl (by decide +kernel) ⟨Nat.le_of_ble_eq_true rfl, Nat.le_of_ble_eq_true rfl⟩ rfl hl.1 rfl (Nat.le_of_ble_eq_true rfl) dX8_bestFor_35 ⟨Nat.zero_le _, Nat.zero_le _⟩) G (fun H locs G => ?_)
      refine lv_istore_n (lv' := [(2, .int v5), (0, .ref (xN X + t)), (1, .int a1)]) hx hb dX8_bestFor_38 rfl hl (by decide) rfl (fun ls hl => ?_)
      refine lv_iload_n hx hb dX8_bestFor_39 rfl (lv_at hl 0 rfl) ?_
      refine lv_iconst (v := (-1)) hx hb dX8_bestFor_40 (by decide) ?_
      refine lv_icmp_ne (tgt := 50) hx hb dX8_bestFor_41 (by decide) (fun c6 => ?_) (fun c6 => ?_)
      · have h := g_if h c6
        refine lv_iload_n hx hb dX8_bestFor_50 rfl (lv_at hl 0 rfl) ?_
        exact ret dX8_bestFor_51 rfl G ⟨Option.some.inj h, rfl⟩
      · have h := g_it h c6
        refine lv_sipush (v := (-1004)) hx hb dX8_bestFor_44 (by decide) ?_
        refine lv_goto (tgt := 51) hx hb dX8_bestFor_47 (by decide) ?_
        exact ret dX8_bestFor_51 rfl G ⟨Option.some.inj h, rfl⟩
    · have h := g_if h c4
      refine lv_sipush (v := (-1002)) hx hb dX8_bestFor_26 (by decide) ?_
      exact ret dX8_bestFor_29 rfl G ⟨Option.some.inj h, rfl⟩
  · have h := g_it h c2
    refine lv_sipush (v := (-1001)) hx hb dX8_bestFor_8 (by decide) ?_
    exact ret dX8_bestFor_11 rfl G ⟨Option.some.inj h, rfl⟩

def fX0_layNext_2 (t : Nat) : Nat → gM → Int32 → Option (Int32 × gM)
  | 0, _, _ => none
  | n + 1, σ, x1 =>
    ((fX6_size σ (t + 1)).bind fun v1 =>
    (if v1 ≤ x1 then
      some (0, σ)
    else
      ((fX4_lies σ (t + 8) x1).bind fun v3 =>
      (if v3 = 0 then
        ((fX0_bestPlace σ t x1).bind fun v5 =>
        (if v5 = (-1) then
          (gl (x1 + 1) fun w7 =>
          fX0_layNext_2 t n σ w7)
        else
          ((fX4_put σ (t + 8) x1 (v5 / 10) (v5 - v5 / 10 * 10)).bind fun σ9 =>
          some (1, σ9))))
      else
        (gl (x1 + 1) fun w11 =>
        fX0_layNext_2 t n σ w11)))))

def fX0_layNext (σ : gM) (t : Nat) : Option (Int32 × gM) :=
  fX0_layNext_2 t gF σ 0
set_option maxHeartbeats 4000000 in
set_option maxRecDepth 100000 in
theorem mX0_layNext (l : Launch) (X : gX) (σ σ' : gM) (t : Nat) (r : Int32) (ok : gok0 X t) (h : fX0_layNext σ t = some (r, σ')) : Met l yX0_layNext (Cond.code yX0_layNext cX0_layNext 3 (some .boolean) :: gBig) ({ frames := 5, cells := 0, slots := 0, locals := 125 }) (gPc X σ [.ref (xN X + t)]) (gQi X σ' r) 0 0 (xA X) := by
  refine g_meti (cc := cX0_layNext) (maxL := 3) (own := RX0) (by decide) rfl rfl (Nat.le_of_ble_eq_true rfl) ?_
  intro p ev s m args below meth c Q C G ret ls hl
  obtain ⟨⟨hx, hb, hml, hown, hts⟩, hK⟩ := id C
  have hl : lv_has ls 3 [(0, .ref (xN X + t))] := hl
  have L2 : ∀ (n : Nat) (H : Heap) (locs : List Loc) (ls : Array Slot) (σ : gM) (x1 : Int32), gG X σ s H locs → lv_has ls 3 [(0, .ref (xN X + t)), (1, .int x1)] → fX0_layNext_2 t n σ x1 = some (r, σ') → W p l ev ({ frames := 5, cells := 0, slots := 0, locals := 125 }) s m args below meth c H locs 0 0 Q (F0 m 2 ls []) := by
    intro n
    induction n with
    | zero =>
      intro H locs ls σ x1 G hl h
      rw [fX0_layNext_2] at h
      cases h
    | succ n ih =>
      intro H locs ls σ x1 G hl h
      rw [fX0_layNext_2] at h
      refine lv_iload_n hx hb dX0_layNext_2 rfl (lv_at hl 1 rfl) ?_
      refine lv_aload_n hx hb dX0_layNext_3 rfl (lv_at hl 0 rfl) ?_
      refine gg0_0 C G ok.1 ok.2.1.1 u_fl_RX0_12 dX0_layNext_4 ?_
      obtain ⟨v1, e_v1, h⟩ := g_bind h
      refine g_calli (g_runV (n := 0) (As := []) (rest := [.int x1]) C G (mX6_size l X σ (t + 1) v1 ok.2.2.1 e_v1) ok.2.2.1.1.2 (gE_6 ok.2.2.1.1.1) rfl (g_goodV u_ml_RX0_37 u_im_yX6_size u_se_yX6_size u_in_RX6 u_co_yX6_size) rfl rfl rfl (by decide +kernel) ⟨Nat.le_of_ble_eq_true rfl, Nat.le_of_ble_eq_true rfl⟩ rfl hl.1 rfl (Nat.le_of_ble_eq_true rfl) dX0_layNext_7 ⟨Nat.zero_le _, Nat.zero_le _⟩) G (fun H locs G => ?_)
      refine lv_icmp_ge (tgt := 63) hx hb dX0_layNext_10 (by decide) (fun c2 => ?_) (fun c2 => ?_)
      · have h := g_it h c2
        refine lv_iconst (v := 0) hx hb dX0_layNext_63 (by decide) ?_
        exact ret dX0_layNext_64 rfl G (Prod.mk.inj (Option.some.inj h))
      · have h := g_if h c2
        refine lv_aload_n hx hb dX0_layNext_13 rfl (lv_at hl 0 rfl) ?_
        refine gg0_1 C G ok.1 ok.2.1.2 u_fl_RX0_21 dX0_layNext_14 ?_
        refine lv_iload_n hx hb dX0_layNext_17 rfl (lv_at hl 1 rfl) ?_
        obtain ⟨v3, e_v3, h⟩ := g_bind h
        refine g_calli (g_runV (n := 1) (As := [.int x1]) (rest := []) C G (mX4_lies l X σ (t + 8) x1 v3 ok.2.2.2 e_v3) ok.2.2.2.1.2 (gE_4 ok.2.2.2.1.1) rfl (g_goodV u_ml_RX0_41 u_im_yX4_lies u_se_yX4_lies u_in_RX4 u_co_yX4_lies) rfl rfl rfl (by decide +kernel) ⟨Nat.le_of_ble_eq_true rfl, Nat.le_of_ble_eq_true rfl⟩ rfl hl.1 rfl (Nat.le_of_ble_eq_true rfl) dX0_layNext_18 ⟨Nat.zero_le _, Nat.zero_le _⟩) G (fun H locs G => ?_)
        refine lv_if_eq (tgt := 28) hx hb dX0_layNext_21 (by decide) (fun c4 => ?_) (fun c4 => ?_)
        · have h := g_it h c4
          refine lv_aload_n hx hb dX0_layNext_28 rfl (lv_at hl 0 rfl) ?_
          refine lv_iload_n hx hb dX0_layNext_29 rfl (lv_at hl 1 rfl) ?_
          obtain ⟨v5, e_v5, h⟩ := g_bind h
          refine g_calli (g_runV (n := 1) (As := [.int x1]) (rest := []) C G (mX0_bestPlace l X σ t x1 v5 ok e_v5) ok.1.2 (gE_0 ok.1.1) rfl (g_goodV u_ml_RX0_96 u_im_yX0_bestPlace u_se_yX0_bestPlace u_in_RX0 u_co_yX0_bestPlace) rfl rfl rfl (by decide +kernel) ⟨Nat.le_of_ble_eq_true rfl, Nat.le_of_ble_eq_true rfl⟩ rfl hl.1 rfl (Nat.le_of_ble_eq_true rfl) dX0_layNext_30 ⟨Nat.zero_le _, Nat.zero_le _⟩) G (fun H locs G => ?_)
          refine lv_istore_n (lv' := [(2, .int v5), (0, .ref (xN X + t)), (1, .int x1)]) hx hb dX0_layNext_33 rfl hl (by decide) rfl (fun ls hl => ?_)
          refine lv_iload_n hx hb dX0_layNext_34 rfl (lv_at hl 0 rfl) ?_
          refine lv_iconst (v := (-1)) hx hb dX0_layNext_35 (by decide) ?_
          refine lv_icmp_eq (tgt := 57) hx hb dX0_layNext_36 (by decide) (fun c6 => ?_) (fun c6 => ?_)
          · have h := g_it h c6
            obtain ⟨w7, e_w7⟩ : ∃ y : Int32, y = x1 + 1 := ⟨_, rfl⟩
            have h := g_let2 e_w7 h
            refine lv_iinc (v := w7) (lv' := [(1, .int w7), (2, .int v5), (0, .ref (xN X + t))]) hx hb dX0_layNext_57 hl (k := 2) rfl (by rw [e_w7]; rfl) (by decide) rfl (fun ls hl => ?_)
            refine lv_goto (tgt := 2) hx hb dX0_layNext_60 (by decide) ?_
            exact ih _ _ _ σ w7 G (lv_sub hl [2, 0] rfl) h
          · have h := g_if h c6
            refine lv_aload_n hx hb dX0_layNext_39 rfl (lv_at hl 1 rfl) ?_
            refine gg0_1 C G ok.1 ok.2.1.2 u_fl_RX0_21 dX0_layNext_40 ?_
            refine lv_iload_n hx hb dX0_layNext_43 rfl (lv_at hl 2 rfl) ?_
            refine lv_iload_n hx hb dX0_layNext_44 rfl (lv_at hl 0 rfl) ?_
            refine lv_bipush (v := 10) hx hb dX0_layNext_45 (by decide) ?_
            refine lv_idiv hx hb dX0_layNext_47 (by decide) ?_
            refine lv_iload_n hx hb dX0_layNext_48 rfl (lv_at hl 0 rfl) ?_
            refine lv_bipush (v := 10) hx hb dX0_layNext_49 (by decide) ?_
            refine lv_irem hx hb dX0_layNext_51 (by decide) ?_
            obtain ⟨σ9, e_σ9, h⟩ := g_bind h
            refine g_callv (g_runV (n := 3) (As := [.int x1, .int (v5 / 10), .int (v5 - v5 / 10 * 10)]) (rest := []) C G (mX4_put l X σ σ9 (t + 8) x1 (v5 / 10) (v5 - v5 / 10 * 10) ok.2.2.2 e_σ9) ok.2.2.2.1.2 (gE_4 ok.2.2.2.1.1) rfl (g_goodV u_ml_RX0_99 u_im_yX4_put u_se_yX4_put u_in_RX4 u_co_yX4_put) rfl rfl rfl (by decide +kernel) ⟨Nat.le_of_ble_eq_true rfl, Nat.le_of_ble_eq_true rfl⟩ rfl hl.1 rfl (Nat.le_of_ble_eq_true rfl) dX0_layNext_52 ⟨Nat.zero_le _, Nat.zero_le _⟩) G (fun H locs G => ?_)
            refine lv_iconst (v := 1) hx hb dX0_layNext_55 (by decide) ?_
            exact ret dX0_layNext_56 rfl G (Prod.mk.inj (Option.some.inj h))
        · have h := g_if h c4
          refine lv_iconst (v := (-1)) hx hb dX0_layNext_24 (by decide) ?_
          refine lv_goto (tgt := 33) hx hb dX0_layNext_25 (by decide) ?_
          refine lv_istore_n (lv' := [(2, .int (-1)), (0, .ref (xN X + t)), (1, .int x1)]) hx hb dX0_layNext_33 rfl hl (by decide) rfl (fun ls hl => ?_)
          refine lv_iload_n hx hb dX0_layNext_34 rfl (lv_at hl 0 rfl) ?_
          refine lv_iconst (v := (-1)) hx hb dX0_layNext_35 (by decide) ?_
          refine lv_icmp_eq (tgt := 57) hx hb dX0_layNext_36 (by decide) (fun _ => ?_) (fun c10 => absurd c10 (by decide))
          obtain ⟨w11, e_w11⟩ : ∃ y : Int32, y = x1 + 1 := ⟨_, rfl⟩
          have h := g_let2 e_w11 h
          refine lv_iinc (v := w11) (lv' := [(1, .int w11), (2, .int (-1)), (0, .ref (xN X + t))]) hx hb dX0_layNext_57 hl (k := 2) rfl (by rw [e_w11]; rfl) (by decide) rfl (fun ls hl => ?_)
          refine lv_goto (tgt := 2) hx hb dX0_layNext_60 (by decide) ?_
          exact ih _ _ _ σ w11 G (lv_sub hl [2, 0] rfl) h
  unfold fX0_layNext at h
  refine lv_iconst (v := 0) hx hb dX0_layNext_0 (by decide) ?_
  refine lv_istore_n (lv' := [(1, .int 0), (0, .ref (xN X + t))]) hx hb dX0_layNext_1 rfl hl (by decide) rfl (fun ls hl => ?_)
  exact L2  gF _ _ _ σ 0 G (lv_sub hl [1, 0] rfl) h

def fX8_fill_13 (t : Nat) : Nat → gM → Int32 → Option (Int32 × gM)
  | 0, _, _ => none
  | n + 1, σ, x1 =>
    (if 12 ≤ x1 then
      some (x1, σ)
    else
      ((fX0_layNext σ (t + 1)).bind fun pv4 => gl pv4.1 fun v4 => gl pv4.2 fun σ5 =>
      (if v4 = 0 then
        some (x1, σ5)
      else
        (gl (x1 + 1) fun w7 =>
        fX8_fill_13 t n σ5 w7))))

def fX8_fill (σ : gM) (t : Nat) : Option (Int32 × gM) :=
  ((fX3_keep σ (t + 31) (t + 1)).bind fun σ2 =>
  fX8_fill_13 t gF σ2 0)
set_option maxHeartbeats 4000000 in
set_option maxRecDepth 100000 in
theorem mX8_fill (l : Launch) (X : gX) (σ σ' : gM) (t : Nat) (r : Int32) (ok : gok8 X t) (h : fX8_fill σ t = some (r, σ')) : Met l yX8_fill (Cond.code yX8_fill cX8_fill 2 (some .int) :: gBig) ({ frames := 6, cells := 0, slots := 0, locals := 150 }) (gPc X σ [.ref (xN X + t)]) (gQi X σ' r) 0 0 (xA X) := by
  refine g_meti (cc := cX8_fill) (maxL := 2) (own := RX8) (by decide) rfl rfl (Nat.le_of_ble_eq_true rfl) ?_
  intro p ev s m args below meth c Q C G ret ls hl
  obtain ⟨⟨hx, hb, hml, hown, hts⟩, hK⟩ := id C
  have hl : lv_has ls 2 [(0, .ref (xN X + t))] := hl
  have L13 : ∀ (n : Nat) (H : Heap) (locs : List Loc) (ls : Array Slot) (σ : gM) (x1 : Int32), gG X σ s H locs → lv_has ls 2 [(0, .ref (xN X + t)), (1, .int x1)] → fX8_fill_13 t n σ x1 = some (r, σ') → W p l ev ({ frames := 6, cells := 0, slots := 0, locals := 150 }) s m args below meth c H locs 0 0 Q (F0 m 13 ls []) := by
    intro n
    induction n with
    | zero =>
      intro H locs ls σ x1 G hl h
      rw [fX8_fill_13] at h
      cases h
    | succ n ih =>
      intro H locs ls σ x1 G hl h
      rw [fX8_fill_13] at h
      refine lv_iload_n hx hb dX8_fill_13 rfl (lv_at hl 1 rfl) ?_
      refine lv_bipush (v := 12) hx hb dX8_fill_14 (by decide) ?_
      refine lv_icmp_ge (tgt := 35) hx hb dX8_fill_16 (by decide) (fun c3 => ?_) (fun c3 => ?_)
      · have h := g_it h c3
        refine lv_iload_n hx hb dX8_fill_35 rfl (lv_at hl 1 rfl) ?_
        exact ret dX8_fill_36 rfl G (Prod.mk.inj (Option.some.inj h))
      · have h := g_if h c3
        refine lv_aload_n hx hb dX8_fill_19 rfl (lv_at hl 0 rfl) ?_
        refine gg8_0 C G ok.1 ok.2.1.1 u_fl_RX8_10 dX8_fill_20 ?_
        obtain ⟨⟨v4, σ5⟩, e_v4, h⟩ := g_bind h
        have h := g_let2 (v := v4) rfl h
        have h := g_let2 (v := σ5) rfl h
        refine g_calli (g_runV (n := 0) (As := []) (rest := []) C G (mX0_layNext l X σ σ5 (t + 1) v4 ok.2.2.1 e_v4) ok.2.2.1.1.2 (gE_0 ok.2.2.1.1.1) rfl (g_goodV u_ml_RX8_207 u_im_yX0_layNext u_se_yX0_layNext u_in_RX0 u_co_yX0_layNext) rfl rfl rfl (by decide +kernel) ⟨Nat.le_of_ble_eq_true rfl, Nat.le_of_ble_eq_true rfl⟩ rfl hl.1 rfl (Nat.le_of_ble_eq_true rfl) dX8_fill_23 ⟨Nat.zero_le _, Nat.zero_le _⟩) G (fun H locs G => ?_)
        refine lv_if_eq (tgt := 35) hx hb dX8_fill_26 (by decide) (fun c6 => ?_) (fun c6 => ?_)
        · have h := g_it h c6
          refine lv_iload_n hx hb dX8_fill_35 rfl (lv_at hl 1 rfl) ?_
          exact ret dX8_fill_36 rfl G (Prod.mk.inj (Option.some.inj h))
        · have h := g_if h c6
          obtain ⟨w7, e_w7⟩ : ∃ y : Int32, y = x1 + 1 := ⟨_, rfl⟩
          have h := g_let2 e_w7 h
          refine lv_iinc (v := w7) (lv' := [(1, .int w7), (0, .ref (xN X + t))]) hx hb dX8_fill_29 hl (k := 1) rfl (by rw [e_w7]; rfl) (by decide) rfl (fun ls hl => ?_)
          refine lv_goto (tgt := 13) hx hb dX8_fill_32 (by decide) ?_
          exact ih _ _ _ σ5 w7 G (lv_sub hl [1, 0] rfl) h
  unfold fX8_fill at h
  refine lv_aload_n hx hb dX8_fill_0 rfl (lv_at hl 0 rfl) ?_
  refine gg8_2 C G ok.1 ok.2.1.2.2.1 u_fl_RX8_22 dX8_fill_1 ?_
  refine lv_aload_n hx hb dX8_fill_4 rfl (lv_at hl 0 rfl) ?_
  refine gg8_0 C G ok.1 ok.2.1.1 u_fl_RX8_10 dX8_fill_5 ?_
  obtain ⟨σ2, e_σ2, h⟩ := g_bind h
  refine g_callv (g_runV (n := 1) (As := [.ref (xN X + (t + 1))]) (rest := []) C G (mX3_keep l X σ σ2 (t + 31) (t + 1) ok.2.2.2.2.1 ok.2.2.1 e_σ2) ok.2.2.2.2.1.1.2 (gE_3 ok.2.2.2.2.1.1.1) rfl (g_goodV u_ml_RX8_55 u_im_yX3_keep u_se_yX3_keep u_in_RX3 u_co_yX3_keep) rfl rfl rfl (by decide +kernel) ⟨Nat.le_of_ble_eq_true rfl, Nat.le_of_ble_eq_true rfl⟩ rfl hl.1 rfl (Nat.le_of_ble_eq_true rfl) dX8_fill_8 ⟨Nat.zero_le _, Nat.zero_le _⟩) G (fun H locs G => ?_)
  refine lv_iconst (v := 0) hx hb dX8_fill_11 (by decide) ?_
  refine lv_istore_n (lv' := [(1, .int 0), (0, .ref (xN X + t))]) hx hb dX8_fill_12 rfl hl (by decide) rfl (fun ls hl => ?_)
  exact L13  gF _ _ _ σ2 0 G (lv_sub hl [1, 0] rfl) h

def fX2_scrapOf_5 (σ : gM) (t : Nat) (a1 : Int32) (a2 : Int32) : Nat → Int32 → Int32 → Option (Int32)
  | 0, _, _ => none
  | n + 1, x3, x4 =>
    (if (σ t 1) ≤ x4 then
      some (-1)
    else
      ((fX5_get σ (t + 1) x4).bind fun v2 =>
      (if v2 = (-1) then
        (gl (x4 + 1) fun w4 =>
        fX2_scrapOf_5 σ t a1 a2 n x3 w4)
      else
        ((fX2_groupOf σ t x4).bind fun v5 =>
        (if v5 = a1 then
          (if x3 = a2 then
            some x4
          else
            (gl (x3 + 1) fun w8 =>
            (gl (x4 + 1) fun w9 =>
            fX2_scrapOf_5 σ t a1 a2 n w8 w9)))
        else
          (gl (x4 + 1) fun w10 =>
          fX2_scrapOf_5 σ t a1 a2 n x3 w10))))))

def fX2_scrapOf (σ : gM) (t : Nat) (a1 : Int32) (a2 : Int32) : Option (Int32) :=
  fX2_scrapOf_5 σ t a1 a2 gF 0 0
set_option maxHeartbeats 4000000 in
set_option maxRecDepth 100000 in
theorem mX2_scrapOf (l : Launch) (X : gX) (σ : gM) (t : Nat) (a1 : Int32) (a2 : Int32) (r : Int32) (ok : gok2 X t) (h : fX2_scrapOf σ t a1 a2 = some r) : Met l yX2_scrapOf (Cond.code yX2_scrapOf cX2_scrapOf 5 (some .int) :: gBig) ({ frames := 3, cells := 0, slots := 0, locals := 65 }) (gPc X σ [.ref (xN X + t), .int a1, .int a2]) (gQi X σ r) 0 0 (xA X) := by
  refine g_meti (cc := cX2_scrapOf) (maxL := 5) (own := RX2) (by decide) rfl rfl (Nat.le_of_ble_eq_true rfl) ?_
  intro p ev s m args below meth c Q C G ret ls hl
  obtain ⟨⟨hx, hb, hml, hown, hts⟩, hK⟩ := id C
  have hl : lv_has ls 5 [(0, .ref (xN X + t)), (1, .int a1), (2, .int a2)] := hl
  have L5 : ∀ (n : Nat) (H : Heap) (locs : List Loc) (ls : Array Slot) (x3 : Int32) (x4 : Int32), gG X σ s H locs → lv_has ls 5 [(0, .ref (xN X + t)), (1, .int a1), (2, .int a2), (3, .int x3), (4, .int x4)] → fX2_scrapOf_5 σ t a1 a2 n x3 x4 = some r → W p l ev ({ frames := 3, cells := 0, slots := 0, locals := 65 }) s m args below meth c H locs 0 0 Q (F0 m 5 ls []) := by
    intro n
    induction n with
    | zero =>
      intro H locs ls x3 x4 G hl h
      rw [fX2_scrapOf_5] at h
      cases h
    | succ n ih =>
      intro H locs ls x3 x4 G hl h
      rw [fX2_scrapOf_5] at h
      refine lv_iload hx hb dX2_scrapOf_5 (lv_at hl 4 rfl) ?_
      refine lv_aload_n hx hb dX2_scrapOf_7 rfl (lv_at hl 0 rfl) ?_
      refine gg2_1 C G ok.1 u_fl_RX2_32 dX2_scrapOf_8 ?_
      refine lv_icmp_ge (tgt := 54) hx hb dX2_scrapOf_11 (by decide) (fun c1 => ?_) (fun c1 => ?_)
      · have h := g_it h c1
        refine lv_iconst (v := (-1)) hx hb dX2_scrapOf_54 (by decide) ?_
        exact ret dX2_scrapOf_55 rfl G ⟨Option.some.inj h, rfl⟩
      · have h := g_if h c1
        refine lv_aload_n hx hb dX2_scrapOf_14 rfl (lv_at hl 0 rfl) ?_
        refine gg2_0 C G ok.1 ok.2.1 u_fl_RX2_14 dX2_scrapOf_15 ?_
        refine lv_iload hx hb dX2_scrapOf_18 (lv_at hl 4 rfl) ?_
        obtain ⟨v2, e_v2, h⟩ := g_bind h
        refine g_calli (g_runV (n := 1) (As := [.int x4]) (rest := []) C G (mX5_get l X σ (t + 1) x4 v2 ok.2.2 e_v2) ok.2.2.1.2 (gE_5 ok.2.2.1.1) rfl (g_goodV u_ml_RX2_61 u_im_yX5_get u_se_yX5_get u_in_RX5 u_co_yX5_get) rfl rfl rfl (by decide +kernel) ⟨Nat.le_of_ble_eq_true rfl, Nat.le_of_ble_eq_true rfl⟩ rfl hl.1 rfl (Nat.le_of_ble_eq_true rfl) dX2_scrapOf_20 ⟨Nat.zero_le _, Nat.zero_le _⟩) G (fun H locs G => ?_)
        refine lv_iconst (v := (-1)) hx hb dX2_scrapOf_23 (by decide) ?_
        refine lv_icmp_eq (tgt := 48) hx hb dX2_scrapOf_24 (by decide) (fun c3 => ?_) (fun c3 => ?_)
        · have h := g_it h c3
          obtain ⟨w4, e_w4⟩ : ∃ y : Int32, y = x4 + 1 := ⟨_, rfl⟩
          have h := g_let2 e_w4 h
          refine lv_iinc (v := w4) (lv' := [(4, .int w4), (0, .ref (xN X + t)), (1, .int a1), (2, .int a2), (3, .int x3)]) hx hb dX2_scrapOf_48 hl (k := 4) rfl (by rw [e_w4]; rfl) (by decide) rfl (fun ls hl => ?_)
          refine lv_goto (tgt := 5) hx hb dX2_scrapOf_51 (by decide) ?_
          exact ih _ _ _ x3 w4 G (lv_sub hl [1, 2, 3, 4, 0] rfl) h
        · have h := g_if h c3
          refine lv_aload_n hx hb dX2_scrapOf_27 rfl (lv_at hl 0 rfl) ?_
          refine lv_iload hx hb dX2_scrapOf_28 (lv_at hl 4 rfl) ?_
          obtain ⟨v5, e_v5, h⟩ := g_bind h
          refine g_calli (g_runV (n := 1) (As := [.int x4]) (rest := []) C G (mX2_groupOf l X σ t x4 v5 ok e_v5) ok.1.2 (gE_2 ok.1.1) rfl (g_goodV u_ml_RX2_73 u_im_yX2_groupOf u_se_yX2_groupOf u_in_RX2 u_co_yX2_groupOf) rfl rfl rfl (by decide +kernel) ⟨Nat.le_of_ble_eq_true rfl, Nat.le_of_ble_eq_true rfl⟩ rfl hl.1 rfl (Nat.le_of_ble_eq_true rfl) dX2_scrapOf_30 ⟨Nat.zero_le _, Nat.zero_le _⟩) G (fun H locs G => ?_)
          refine lv_iload_n hx hb dX2_scrapOf_33 rfl (lv_at hl 1 rfl) ?_
          refine lv_icmp_ne (tgt := 48) hx hb dX2_scrapOf_34 (by decide) (fun c6 => ?_) (fun c6 => ?_)
          · have h := g_if h c6
            obtain ⟨w10, e_w10⟩ : ∃ y : Int32, y = x4 + 1 := ⟨_, rfl⟩
            have h := g_let2 e_w10 h
            refine lv_iinc (v := w10) (lv' := [(4, .int w10), (0, .ref (xN X + t)), (1, .int a1), (2, .int a2), (3, .int x3)]) hx hb dX2_scrapOf_48 hl (k := 4) rfl (by rw [e_w10]; rfl) (by decide) rfl (fun ls hl => ?_)
            refine lv_goto (tgt := 5) hx hb dX2_scrapOf_51 (by decide) ?_
            exact ih _ _ _ x3 w10 G (lv_sub hl [1, 2, 3, 4, 0] rfl) h
          · have h := g_it h c6
            refine lv_iload_n hx hb dX2_scrapOf_37 rfl (lv_at hl 3 rfl) ?_
            refine lv_iload_n hx hb dX2_scrapOf_38 rfl (lv_at hl 2 rfl) ?_
            refine lv_icmp_ne (tgt := 45) hx hb dX2_scrapOf_39 (by decide) (fun c7 => ?_) (fun c7 => ?_)
            · have h := g_if h c7
              obtain ⟨w8, e_w8⟩ : ∃ y : Int32, y = x3 + 1 := ⟨_, rfl⟩
              have h := g_let2 e_w8 h
              refine lv_iinc (v := w8) (lv' := [(3, .int w8), (0, .ref (xN X + t)), (1, .int a1), (2, .int a2), (4, .int x4)]) hx hb dX2_scrapOf_45 hl (k := 3) rfl (by rw [e_w8]; rfl) (by decide) rfl (fun ls hl => ?_)
              obtain ⟨w9, e_w9⟩ : ∃ y : Int32, y = x4 + 1 := ⟨_, rfl⟩
              have h := g_let2 e_w9 h
              refine lv_iinc (v := w9) (lv' := [(4, .int w9), (3, .int w8), (0, .ref (xN X + t)), (1, .int a1), (2, .int a2)]) hx hb dX2_scrapOf_48 hl (k := 4) rfl (by rw [e_w9]; rfl) (by decide) rfl (fun ls hl => ?_)
              refine lv_goto (tgt := 5) hx hb dX2_scrapOf_51 (by decide) ?_
              exact ih _ _ _ w8 w9 G (lv_sub hl [2, 3, 4, 1, 0] rfl) h
            · have h := g_it h c7
              refine lv_iload hx hb dX2_scrapOf_42 (lv_at hl 4 rfl) ?_
              exact ret dX2_scrapOf_44 rfl G ⟨Option.some.inj h, rfl⟩
  unfold fX2_scrapOf at h
  refine lv_iconst (v := 0) hx hb dX2_scrapOf_0 (by decide) ?_
  refine lv_istore_n (lv' := [(3, .int 0), (0, .ref (xN X + t)), (1, .int a1), (2, .int a2)]) hx hb dX2_scrapOf_1 rfl hl (by decide) rfl (fun ls hl => ?_)
  refine lv_iconst (v := 0) hx hb dX2_scrapOf_2 (by decide) ?_
  refine lv_istore (lv' := [(4, .int 0), (3, .int 0), (0, .ref (xN X + t)), (1, .int a1), (2, .int a2)]) hx hb dX2_scrapOf_3 hl (by decide) rfl (fun ls hl => ?_)
  exact L5  gF _ _ _ 0 0 G (lv_sub hl [2, 3, 4, 1, 0] rfl) h

def fX8_member (σ : gM) (t : Nat) (a1 : Int32) (a2 : Int32) : Option (Int32 × gM) :=
  ((fX2_gather σ (t + 108) (t + 1)).bind fun σ2 =>
  ((fX2_size σ2 (t + 108)).bind fun v3 =>
  ((fX8_isWithin σ2 a1 0 (v3 - 1)).bind fun v4 =>
  (if v4 = 0 then
    some ((-1001), σ2)
  else
    (if 0 ≤ a2 then
      ((fX2_scrapOf σ2 (t + 108) a1 a2).bind fun v7 =>
      (if v7 = (-1) then
        some ((-1004), σ2)
      else
        some (v7, σ2)))
    else
      some ((-1001), σ2))))))
set_option maxHeartbeats 4000000 in
set_option maxRecDepth 100000 in
theorem mX8_member (l : Launch) (X : gX) (σ σ' : gM) (t : Nat) (a1 : Int32) (a2 : Int32) (r : Int32) (ok : gok8 X t) (h : fX8_member σ t a1 a2 = some (r, σ')) : Met l yX8_member (Cond.code yX8_member cX8_member 4 (some .int) :: gBig) ({ frames := 6, cells := 0, slots := 0, locals := 146 }) (gPc X σ [.ref (xN X + t), .int a1, .int a2]) (gQi X σ' r) 0 0 (xA X) := by
  refine g_meti (cc := cX8_member) (maxL := 4) (own := RX8) (by decide) rfl rfl (Nat.le_of_ble_eq_true rfl) ?_
  intro p ev s m args below meth c Q C G ret ls hl
  obtain ⟨⟨hx, hb, hml, hown, hts⟩, hK⟩ := id C
  have hl : lv_has ls 4 [(0, .ref (xN X + t)), (1, .int a1), (2, .int a2)] := hl
  unfold fX8_member at h
  refine lv_aload_n hx hb dX8_member_0 rfl (lv_at hl 0 rfl) ?_
  refine gg8_3 C G ok.1 ok.2.1.2.2.2.1 u_fl_RX8_29 dX8_member_1 ?_
  refine lv_aload_n hx hb dX8_member_4 rfl (lv_at hl 0 rfl) ?_
  refine gg8_0 C G ok.1 ok.2.1.1 u_fl_RX8_10 dX8_member_5 ?_
  obtain ⟨σ2, e_σ2, h⟩ := g_bind h
  refine g_callv (g_runV (n := 1) (As := [.ref (xN X + (t + 1))]) (rest := []) C G (mX2_gather l X σ σ2 (t + 108) (t + 1) ok.2.2.2.2.2.1 ok.2.2.1 e_σ2) ok.2.2.2.2.2.1.1.2 (gE_2 ok.2.2.2.2.2.1.1.1) rfl (g_goodV u_ml_RX8_123 u_im_yX2_gather u_se_yX2_gather u_in_RX2 u_co_yX2_gather) rfl rfl rfl (by decide +kernel) ⟨Nat.le_of_ble_eq_true rfl, Nat.le_of_ble_eq_true rfl⟩ rfl hl.1 rfl (Nat.le_of_ble_eq_true rfl) dX8_member_8 ⟨Nat.zero_le _, Nat.zero_le _⟩) G (fun H locs G => ?_)
  refine lv_iload_n hx hb dX8_member_11 rfl (lv_at hl 1 rfl) ?_
  refine lv_iconst (v := 0) hx hb dX8_member_12 (by decide) ?_
  refine lv_aload_n hx hb dX8_member_13 rfl (lv_at hl 0 rfl) ?_
  refine gg8_3 C G ok.1 ok.2.1.2.2.2.1 u_fl_RX8_29 dX8_member_14 ?_
  obtain ⟨v3, e_v3, h⟩ := g_bind h
  refine g_calli (g_runV (n := 0) (As := []) (rest := [.int 0, .int a1]) C G (mX2_size l X σ2 (t + 108) v3 ok.2.2.2.2.2.1 e_v3) ok.2.2.2.2.2.1.1.2 (gE_2 ok.2.2.2.2.2.1.1.1) rfl (g_goodV u_ml_RX8_158 u_im_yX2_size u_se_yX2_size u_in_RX2 u_co_yX2_size) rfl rfl rfl (by decide +kernel) ⟨Nat.le_of_ble_eq_true rfl, Nat.le_of_ble_eq_true rfl⟩ rfl hl.1 rfl (Nat.le_of_ble_eq_true rfl) dX8_member_17 ⟨Nat.zero_le _, Nat.zero_le _⟩) G (fun H locs G => ?_)
  refine lv_iconst (v := 1) hx hb dX8_member_20 (by decide) ?_
  refine lv_isub hx hb dX8_member_21 ?_
  obtain ⟨v4, e_v4, h⟩ := g_bind h
  refine g_calli (g_runS (n := 3) (As := [.int a1, .int 0, .int (v3 - 1)]) (rest := []) C G (mX8_isWithin l X σ2 a1 0 (v3 - 1) v4 e_v4) (g_goodS u_ml_RX8_47 u_st_yX8_isWithin u_in_RX8 u_co_yX8_isWithin) rfl rfl rfl (by decide +kernel) ⟨Nat.le_of_ble_eq_true rfl, Nat.le_of_ble_eq_true rfl⟩ rfl hl.1 rfl (Nat.le_of_ble_eq_true rfl) dX8_member_22 ⟨Nat.zero_le _, Nat.zero_le _⟩) G (fun H locs G => ?_)
  refine lv_if_eq (tgt := 32) hx hb dX8_member_25 (by decide) (fun c5 => ?_) (fun c5 => ?_)
  · have h := g_it h c5
    refine lv_sipush (v := (-1001)) hx hb dX8_member_32 (by decide) ?_
    exact ret dX8_member_35 rfl G (Prod.mk.inj (Option.some.inj h))
  · have h := g_if h c5
    refine lv_iload_n hx hb dX8_member_28 rfl (lv_at hl 2 rfl) ?_
    refine lv_if_ge (tgt := 36) hx hb dX8_member_29 (by decide) (fun c6 => ?_) (fun c6 => ?_)
    · have h := g_it h c6
      refine lv_aload_n hx hb dX8_member_36 rfl (lv_at hl 0 rfl) ?_
      refine gg8_3 C G ok.1 ok.2.1.2.2.2.1 u_fl_RX8_29 dX8_member_37 ?_
      refine lv_iload_n hx hb dX8_member_40 rfl (lv_at hl 1 rfl) ?_
      refine lv_iload_n hx hb dX8_member_41 rfl (lv_at hl 2 rfl) ?_
      obtain ⟨v7, e_v7, h⟩ := g_bind h
      refine g_calli (g_runV (n := 2) (As := [.int a1, .int a2]) (rest := []) C G (mX2_scrapOf l X σ2 (t + 108) a1 a2 v7 ok.2.2.2.2.2.1 e_v7) ok.2.2.2.2.2.1.1.2 (gE_2 ok.2.2.2.2.2.1.1.1) rfl (g_goodV u_ml_RX8_210 u_im_yX2_scrapOf u_se_yX2_scrapOf u_in_RX2 u_co_yX2_scrapOf) rfl rfl rfl (by decide +kernel) ⟨Nat.le_of_ble_eq_true rfl, Nat.le_of_ble_eq_true rfl⟩ rfl hl.1 rfl (Nat.le_of_ble_eq_true rfl) dX8_member_42 ⟨Nat.zero_le _, Nat.zero_le _⟩) G (fun H locs G => ?_)
      refine lv_istore_n (lv' := [(3, .int v7), (0, .ref (xN X + t)), (1, .int a1), (2, .int a2)]) hx hb dX8_member_45 rfl hl (by decide) rfl (fun ls hl => ?_)
      refine lv_iload_n hx hb dX8_member_46 rfl (lv_at hl 0 rfl) ?_
      refine lv_iconst (v := (-1)) hx hb dX8_member_47 (by decide) ?_
      refine lv_icmp_ne (tgt := 57) hx hb dX8_member_48 (by decide) (fun c8 => ?_) (fun c8 => ?_)
      · have h := g_if h c8
        refine lv_iload_n hx hb dX8_member_57 rfl (lv_at hl 0 rfl) ?_
        exact ret dX8_member_58 rfl G (Prod.mk.inj (Option.some.inj h))
      · have h := g_it h c8
        refine lv_sipush (v := (-1004)) hx hb dX8_member_51 (by decide) ?_
        refine lv_goto (tgt := 58) hx hb dX8_member_54 (by decide) ?_
        exact ret dX8_member_58 rfl G (Prod.mk.inj (Option.some.inj h))
    · have h := g_if h c6
      refine lv_sipush (v := (-1001)) hx hb dX8_member_32 (by decide) ?_
      exact ret dX8_member_35 rfl G (Prod.mk.inj (Option.some.inj h))

def fX8_fillsFrom_34 (F : gM → Nat → Int32 → Option (Int32 × gM)) (K21 : gM → Int32 → Option (Int32 × gM)) (o1 : Nat) (a2 : Int32) : Nat → gM → Int32 → Int32 → Option (Int32 × gM)
  | 0, _, _, _ => none
  | n + 1, σ, x2, x3 =>
    (if 8 ≤ x3 then
      (gl (x2 + 1) fun w7 =>
      K21 σ w7)
    else
      ((fX4_lies σ (o1 + 8) x2).bind fun v8 =>
      (if v8 = 0 then
        ((fX0_canLie σ o1 x2 a2 x3).bind fun v10 =>
        (if v10 = 0 then
          (gl (x3 + 1) fun w12 =>
          fX8_fillsFrom_34 F K21 o1 a2 n σ x2 w12)
        else
          ((fX4_put σ (o1 + 8) x2 a2 x3).bind fun σ14 =>
          ((F σ14 o1 (a2 + 1)).bind fun pv15 => gl pv15.1 fun v15 => gl pv15.2 fun σ16 =>
          (if v15 = 0 then
            ((fX4_take σ16 (o1 + 8) x2).bind fun σ19 =>
            (gl (x3 + 1) fun w20 =>
            fX8_fillsFrom_34 F K21 o1 a2 n σ19 x2 w20))
          else
            some (1, σ16))))))
      else
        (gl (x3 + 1) fun w21 =>
        fX8_fillsFrom_34 F K21 o1 a2 n σ x2 w21))))

def fX8_fillsFrom_21 (F : gM → Nat → Int32 → Option (Int32 × gM)) (o1 : Nat) (a2 : Int32) : Nat → gM → Int32 → Option (Int32 × gM)
  | 0, _, _ => none
  | n + 1, σ, x2 =>
    ((fX6_size σ (o1 + 1)).bind fun v4 =>
    (if v4 ≤ x2 then
      some (0, σ)
    else
      fX8_fillsFrom_34 F (fun σ2 y2 => fX8_fillsFrom_21 F o1 a2 n σ2 y2) o1 a2 gF σ x2 0))

def fX8_fillsFrom : Nat → gM → Nat → Int32 → Option (Int32 × gM)
  | 0, _, _, _ => none
  | d + 1, σ, o1, a2 =>
    (if 6 ≤ a2 then
      some (1, σ)
    else
      ((fX4_places σ (o1 + 8)).bind fun v2 =>
      (if a2 < v2 then
        fX8_fillsFrom_21 (fX8_fillsFrom d) o1 a2 gF σ 0
      else
        some (1, σ))))
set_option maxHeartbeats 4000000 in
set_option maxRecDepth 100000 in
theorem mX8_fillsFrom_all (l : Launch) : ∀ (d : Nat) (X : gX) (σ σ' : gM) (o1 : Nat) (a2 : Int32) (r : Int32) (ok1 : gok0 X o1), fX8_fillsFrom d σ o1 a2 = some (r, σ') → Met l yX8_fillsFrom (Cond.code yX8_fillsFrom cX8_fillsFrom 4 (some .boolean) :: gBig) ({ frames := 4 + d, cells := 0, slots := 0, locals := 99 + d * 23 }) (gPc X σ [.ref (xN X + o1), .int a2]) (gQi X σ' r) 0 0 (xA X) := by
  intro d
  induction d with
  | zero =>
    intro X σ σ' o1 a2 r ok1 h
    rw [fX8_fillsFrom] at h
    cases h
  | succ d ihd =>
    intro X σ σ' o1 a2 r ok1 h
    rw [fX8_fillsFrom] at h
    refine g_meti (cc := cX8_fillsFrom) (maxL := 4) (own := RX8) (by decide) rfl rfl (Nat.le_of_ble_eq_true rfl) ?_
    intro p ev s m args below meth c Q C G ret ls hl
    obtain ⟨⟨hx, hb, hml, hown, hts⟩, hK⟩ := id C
    have hl : lv_has ls 4 [(0, .ref (xN X + o1)), (1, .int a2)] := hl
    have L34 : ∀ (K21 : gM → Int32 → Option (Int32 × gM)), (∀ (H : Heap) (locs : List Loc) (ls : Array Slot) (σ : gM) (x2 : Int32), gG X σ s H locs → lv_has ls 4 [(0, .ref (xN X + o1)), (1, .int a2), (2, .int x2)] → K21 σ x2 = some (r, σ') → W p l ev ({ frames := 4 + (d + 1), cells := 0, slots := 0, locals := 99 + (d + 1) * 23 }) s m args below meth c H locs 0 0 Q (F0 m 21 ls [])) → ∀ (n : Nat) (H : Heap) (locs : List Loc) (ls : Array Slot) (σ : gM) (x2 : Int32) (x3 : Int32), gG X σ s H locs → lv_has ls 4 [(0, .ref (xN X + o1)), (1, .int a2), (2, .int x2), (3, .int x3)] → fX8_fillsFrom_34 (fX8_fillsFrom d) K21 o1 a2 n σ x2 x3 = some (r, σ') → W p l ev ({ frames := 4 + (d + 1), cells := 0, slots := 0, locals := 99 + (d + 1) * 23 }) s m args below meth c H locs 0 0 Q (F0 m 34 ls []) := by
      intro K21 hK21 n
      induction n with
      | zero =>
        intro H locs ls σ x2 x3 G hl h
        rw [fX8_fillsFrom_34] at h
        cases h
      | succ n ih =>
        intro H locs ls σ x2 x3 G hl h
        rw [fX8_fillsFrom_34] at h
        refine lv_iload_n hx hb dX8_fillsFrom_34 rfl (lv_at hl 3 rfl) ?_
        refine lv_bipush (v := 8) hx hb dX8_fillsFrom_35 (by decide) ?_
        refine lv_icmp_ge (tgt := 97) hx hb dX8_fillsFrom_37 (by decide) (fun c6 => ?_) (fun c6 => ?_)
        · have h := g_it h c6
          obtain ⟨w7, e_w7⟩ : ∃ y : Int32, y = x2 + 1 := ⟨_, rfl⟩
          have h := g_let2 e_w7 h
          refine lv_iinc (v := w7) (lv' := [(2, .int w7), (0, .ref (xN X + o1)), (1, .int a2), (3, .int x3)]) hx hb dX8_fillsFrom_97 hl (k := 2) rfl (by rw [e_w7]; rfl) (by decide) rfl (fun ls hl => ?_)
          refine lv_goto (tgt := 21) hx hb dX8_fillsFrom_100 (by decide) ?_
          exact hK21 _ _ _ σ w7 G (lv_sub hl [1, 2, 0] rfl) h
        · have h := g_if h c6
          refine lv_aload_n hx hb dX8_fillsFrom_40 rfl (lv_at hl 0 rfl) ?_
          refine gn0_1 C G ok1.1 ok1.2.1.2 (List.mem_of_getElem? (i := 3) rfl) dX8_fillsFrom_41 ?_
          refine lv_iload_n hx hb dX8_fillsFrom_44 rfl (lv_at hl 2 rfl) ?_
          obtain ⟨v8, e_v8, h⟩ := g_bind h
          refine g_calli (g_runV (n := 1) (As := [.int x2]) (rest := []) C G (mX4_lies l X σ (o1 + 8) x2 v8 ok1.2.2.2 e_v8) ok1.2.2.2.1.2 (gE_4 ok1.2.2.2.1.1) rfl (g_goodV u_ml_RX8_110 u_im_yX4_lies u_se_yX4_lies u_in_RX4 u_co_yX4_lies) rfl rfl rfl (by decide +kernel) ⟨by dsimp only; omega, by dsimp only; omega⟩ rfl hl.1 rfl (Nat.le_of_ble_eq_true rfl) dX8_fillsFrom_45 ⟨Nat.zero_le _, Nat.zero_le _⟩) G (fun H locs G => ?_)
          refine lv_if_ne (tgt := 91) hx hb dX8_fillsFrom_48 (by decide) (fun c9 => ?_) (fun c9 => ?_)
          · have h := g_if h c9
            obtain ⟨w21, e_w21⟩ : ∃ y : Int32, y = x3 + 1 := ⟨_, rfl⟩
            have h := g_let2 e_w21 h
            refine lv_iinc (v := w21) (lv' := [(3, .int w21), (0, .ref (xN X + o1)), (1, .int a2), (2, .int x2)]) hx hb dX8_fillsFrom_91 hl (k := 3) rfl (by rw [e_w21]; rfl) (by decide) rfl (fun ls hl => ?_)
            refine lv_goto (tgt := 34) hx hb dX8_fillsFrom_94 (by decide) ?_
            exact ih _ _ _ σ x2 w21 G (lv_sub hl [1, 2, 3, 0] rfl) h
          · have h := g_it h c9
            refine lv_aload_n hx hb dX8_fillsFrom_51 rfl (lv_at hl 0 rfl) ?_
            refine lv_iload_n hx hb dX8_fillsFrom_52 rfl (lv_at hl 2 rfl) ?_
            refine lv_iload_n hx hb dX8_fillsFrom_53 rfl (lv_at hl 1 rfl) ?_
            refine lv_iload_n hx hb dX8_fillsFrom_54 rfl (lv_at hl 3 rfl) ?_
            obtain ⟨v10, e_v10, h⟩ := g_bind h
            refine g_calli (g_runV (n := 3) (As := [.int x2, .int a2, .int x3]) (rest := []) C G (mX0_canLie l X σ o1 x2 a2 x3 v10 ok1 e_v10) ok1.1.2 (gE_0 ok1.1.1) rfl (g_goodV u_ml_RX8_181 u_im_yX0_canLie u_se_yX0_canLie u_in_RX0 u_co_yX0_canLie) rfl rfl rfl (by decide +kernel) ⟨by dsimp only; omega, by dsimp only; omega⟩ rfl hl.1 rfl (Nat.le_of_ble_eq_true rfl) dX8_fillsFrom_55 ⟨Nat.zero_le _, Nat.zero_le _⟩) G (fun H locs G => ?_)
            refine lv_if_eq (tgt := 91) hx hb dX8_fillsFrom_58 (by decide) (fun c11 => ?_) (fun c11 => ?_)
            · have h := g_it h c11
              obtain ⟨w12, e_w12⟩ : ∃ y : Int32, y = x3 + 1 := ⟨_, rfl⟩
              have h := g_let2 e_w12 h
              refine lv_iinc (v := w12) (lv' := [(3, .int w12), (0, .ref (xN X + o1)), (1, .int a2), (2, .int x2)]) hx hb dX8_fillsFrom_91 hl (k := 3) rfl (by rw [e_w12]; rfl) (by decide) rfl (fun ls hl => ?_)
              refine lv_goto (tgt := 34) hx hb dX8_fillsFrom_94 (by decide) ?_
              exact ih _ _ _ σ x2 w12 G (lv_sub hl [1, 2, 3, 0] rfl) h
            · have h := g_if h c11
              refine lv_aload_n hx hb dX8_fillsFrom_61 rfl (lv_at hl 0 rfl) ?_
              refine gn0_1 C G ok1.1 ok1.2.1.2 (List.mem_of_getElem? (i := 3) rfl) dX8_fillsFrom_62 ?_
              refine lv_iload_n hx hb dX8_fillsFrom_65 rfl (lv_at hl 2 rfl) ?_
              refine lv_iload_n hx hb dX8_fillsFrom_66 rfl (lv_at hl 1 rfl) ?_
              refine lv_iload_n hx hb dX8_fillsFrom_67 rfl (lv_at hl 3 rfl) ?_
              obtain ⟨σ14, e_σ14, h⟩ := g_bind h
              refine g_callv (g_runV (n := 3) (As := [.int x2, .int a2, .int x3]) (rest := []) C G (mX4_put l X σ σ14 (o1 + 8) x2 a2 x3 ok1.2.2.2 e_σ14) ok1.2.2.2.1.2 (gE_4 ok1.2.2.2.1.1) rfl (g_goodV u_ml_RX8_184 u_im_yX4_put u_se_yX4_put u_in_RX4 u_co_yX4_put) rfl rfl rfl (by decide +kernel) ⟨by dsimp only; omega, by dsimp only; omega⟩ rfl hl.1 rfl (Nat.le_of_ble_eq_true rfl) dX8_fillsFrom_68 ⟨Nat.zero_le _, Nat.zero_le _⟩) G (fun H locs G => ?_)
              refine lv_aload_n hx hb dX8_fillsFrom_71 rfl (lv_at hl 0 rfl) ?_
              refine lv_iload_n hx hb dX8_fillsFrom_72 rfl (lv_at hl 1 rfl) ?_
              refine lv_iconst (v := 1) hx hb dX8_fillsFrom_73 (by decide) ?_
              refine lv_iadd hx hb dX8_fillsFrom_74 ?_
              obtain ⟨⟨v15, σ16⟩, e_v15, h⟩ := g_bind h
              have h := g_let2 (v := v15) rfl h
              have h := g_let2 (v := σ16) rfl h
              refine g_calli (g_runS (n := 2) (As := [.ref (xN X + o1), .int (a2 + 1)]) (rest := []) C G (ihd X σ14 σ16 o1 (a2 + 1) v15 ok1 e_v15) (g_goodS u_ml_RX8_216 u_st_yX8_fillsFrom u_in_RX8 u_co_yX8_fillsFrom) rfl rfl rfl (by decide +kernel) ⟨by dsimp only; omega, by dsimp only; omega⟩ rfl hl.1 rfl (Nat.le_of_ble_eq_true rfl) dX8_fillsFrom_75 ⟨Nat.zero_le _, Nat.zero_le _⟩) G (fun H locs G => ?_)
              refine lv_if_eq (tgt := 83) hx hb dX8_fillsFrom_78 (by decide) (fun c17 => ?_) (fun c17 => ?_)
              · have h := g_it h c17
                refine lv_aload_n hx hb dX8_fillsFrom_83 rfl (lv_at hl 0 rfl) ?_
                refine gn0_1 C G ok1.1 ok1.2.1.2 (List.mem_of_getElem? (i := 3) rfl) dX8_fillsFrom_84 ?_
                refine lv_iload_n hx hb dX8_fillsFrom_87 rfl (lv_at hl 2 rfl) ?_
                obtain ⟨σ19, e_σ19, h⟩ := g_bind h
                refine g_callv (g_runV (n := 1) (As := [.int x2]) (rest := []) C G (mX4_take l X σ16 σ19 (o1 + 8) x2 ok1.2.2.2 e_σ19) ok1.2.2.2.1.2 (gE_4 ok1.2.2.2.1.1) rfl (g_goodV u_ml_RX8_191 u_im_yX4_take u_se_yX4_take u_in_RX4 u_co_yX4_take) rfl rfl rfl (by decide +kernel) ⟨by dsimp only; omega, by dsimp only; omega⟩ rfl hl.1 rfl (Nat.le_of_ble_eq_true rfl) dX8_fillsFrom_88 ⟨Nat.zero_le _, Nat.zero_le _⟩) G (fun H locs G => ?_)
                obtain ⟨w20, e_w20⟩ : ∃ y : Int32, y = x3 + 1 := ⟨_, rfl⟩
                have h := g_let2 e_w20 h
                refine lv_iinc (v := w20) (lv' := [(3, .int w20), (0, .ref (xN X + o1)), (1, .int a2), (2, .int x2)]) hx hb dX8_fillsFrom_91 hl (k := 3) rfl (by rw [e_w20]; rfl) (by decide) rfl (fun ls hl => ?_)
                refine lv_goto (tgt := 34) hx hb dX8_fillsFrom_94 (by decide) ?_
                exact ih _ _ _ σ19 x2 w20 G (lv_sub hl [1, 2, 3, 0] rfl) h
              · have h := g_if h c17
                refine lv_iconst (v := 1) hx hb dX8_fillsFrom_81 (by decide) ?_
                exact ret dX8_fillsFrom_82 rfl G (Prod.mk.inj (Option.some.inj h))
    have L21 : ∀ (n : Nat) (H : Heap) (locs : List Loc) (ls : Array Slot) (σ : gM) (x2 : Int32), gG X σ s H locs → lv_has ls 4 [(0, .ref (xN X + o1)), (1, .int a2), (2, .int x2)] → fX8_fillsFrom_21 (fX8_fillsFrom d) o1 a2 n σ x2 = some (r, σ') → W p l ev ({ frames := 4 + (d + 1), cells := 0, slots := 0, locals := 99 + (d + 1) * 23 }) s m args below meth c H locs 0 0 Q (F0 m 21 ls []) := by
      intro n
      induction n with
      | zero =>
        intro H locs ls σ x2 G hl h
        rw [fX8_fillsFrom_21] at h
        cases h
      | succ n ih =>
        intro H locs ls σ x2 G hl h
        rw [fX8_fillsFrom_21] at h
        refine lv_iload_n hx hb dX8_fillsFrom_21 rfl (lv_at hl 2 rfl) ?_
        refine lv_aload_n hx hb dX8_fillsFrom_22 rfl (lv_at hl 0 rfl) ?_
        refine gn0_0 C G ok1.1 ok1.2.1.1 (List.mem_of_getElem? (i := 1) rfl) dX8_fillsFrom_23 ?_
        obtain ⟨v4, e_v4, h⟩ := g_bind h
        refine g_calli (g_runV (n := 0) (As := []) (rest := [.int x2]) C G (mX6_size l X σ (o1 + 1) v4 ok1.2.2.1 e_v4) ok1.2.2.1.1.2 (gE_6 ok1.2.2.1.1.1) rfl (g_goodV u_ml_RX8_77 u_im_yX6_size u_se_yX6_size u_in_RX6 u_co_yX6_size) rfl rfl rfl (by decide +kernel) ⟨by dsimp only; omega, by dsimp only; omega⟩ rfl hl.1 rfl (Nat.le_of_ble_eq_true rfl) dX8_fillsFrom_26 ⟨Nat.zero_le _, Nat.zero_le _⟩) G (fun H locs G => ?_)
        refine lv_icmp_ge (tgt := 103) hx hb dX8_fillsFrom_29 (by decide) (fun c5 => ?_) (fun c5 => ?_)
        · have h := g_it h c5
          refine lv_iconst (v := 0) hx hb dX8_fillsFrom_103 (by decide) ?_
          exact ret dX8_fillsFrom_104 rfl G (Prod.mk.inj (Option.some.inj h))
        · have h := g_if h c5
          refine lv_iconst (v := 0) hx hb dX8_fillsFrom_32 (by decide) ?_
          refine lv_istore_n (lv' := [(3, .int 0), (0, .ref (xN X + o1)), (1, .int a2), (2, .int x2)]) hx hb dX8_fillsFrom_33 rfl hl (by decide) rfl (fun ls hl => ?_)
          exact L34 (fun σ2 y2 => fX8_fillsFrom_21 (fX8_fillsFrom d) o1 a2 n σ2 y2) (fun H locs ls σ2 y2 G hl h => ih H locs ls σ2 y2 G hl h) gF _ _ _ σ x2 0 G (lv_sub hl [1, 2, 3, 0] rfl) h
    refine lv_iload_n hx hb dX8_fillsFrom_0 rfl (lv_at hl 1 rfl) ?_
    refine lv_bipush (v := 6) hx hb dX8_fillsFrom_1 (by decide) ?_
    refine lv_icmp_ge (tgt := 17) hx hb dX8_fillsFrom_3 (by decide) (fun c1 => ?_) (fun c1 => ?_)
    · have h := g_it h c1
      refine lv_iconst (v := 1) hx hb dX8_fillsFrom_17 (by decide) ?_
      exact ret dX8_fillsFrom_18 rfl G (Prod.mk.inj (Option.some.inj h))
    · have h := g_if h c1
      refine lv_iload_n hx hb dX8_fillsFrom_6 rfl (lv_at hl 1 rfl) ?_
      refine lv_aload_n hx hb dX8_fillsFrom_7 rfl (lv_at hl 0 rfl) ?_
      refine gn0_1 C G ok1.1 ok1.2.1.2 (List.mem_of_getElem? (i := 3) rfl) dX8_fillsFrom_8 ?_
      obtain ⟨v2, e_v2, h⟩ := g_bind h
      refine g_calli (g_runV (n := 0) (As := []) (rest := [.int a2]) C G (mX4_places l X σ (o1 + 8) v2 ok1.2.2.2 e_v2) ok1.2.2.2.1.2 (gE_4 ok1.2.2.2.1.1) rfl (g_goodV u_ml_RX8_168 u_im_yX4_places u_se_yX4_places u_in_RX4 u_co_yX4_places) rfl rfl rfl (by decide +kernel) ⟨by dsimp only; omega, by dsimp only; omega⟩ rfl hl.1 rfl (Nat.le_of_ble_eq_true rfl) dX8_fillsFrom_11 ⟨Nat.zero_le _, Nat.zero_le _⟩) G (fun H locs G => ?_)
      refine lv_icmp_lt (tgt := 19) hx hb dX8_fillsFrom_14 (by decide) (fun c3 => ?_) (fun c3 => ?_)
      · have h := g_it h c3
        refine lv_iconst (v := 0) hx hb dX8_fillsFrom_19 (by decide) ?_
        refine lv_istore_n (lv' := [(2, .int 0), (0, .ref (xN X + o1)), (1, .int a2)]) hx hb dX8_fillsFrom_20 rfl hl (by decide) rfl (fun ls hl => ?_)
        exact L21  gF _ _ _ σ 0 G (lv_sub hl [1, 2, 0] rfl) h
      · have h := g_if h c3
        refine lv_iconst (v := 1) hx hb dX8_fillsFrom_17 (by decide) ?_
        exact ret dX8_fillsFrom_18 rfl G (Prod.mk.inj (Option.some.inj h))
theorem mX8_fillsFrom (l : Launch) (X : gX) (σ σ' : gM) (o1 : Nat) (a2 : Int32) (r : Int32) (ok1 : gok0 X o1) (h : fX8_fillsFrom 8 σ o1 a2 = some (r, σ')) : Met l yX8_fillsFrom (Cond.code yX8_fillsFrom cX8_fillsFrom 4 (some .boolean) :: gBig) ({ frames := 4 + 8, cells := 0, slots := 0, locals := 99 + 8 * 23 }) (gPc X σ [.ref (xN X + o1), .int a2]) (gQi X σ' r) 0 0 (xA X) := mX8_fillsFrom_all l 8 X σ σ' o1 a2 r ok1 h

def fX8_canFill (σ : gM) (t : Nat) : Option (Int32 × gM) :=
  ((fX4_places σ ((t + 1) + 8)).bind fun v1 =>
  ((fX6_size σ ((t + 1) + 1)).bind fun v2 =>
  (if v2 = v1 then
    (if v1 ≤ 6 then
      ((fX0_copy σ (t + 16) (t + 1)).bind fun σ6 =>
      ((fX4_width σ6 ((t + 1) + 8)).bind fun v7 =>
      ((fX4_height σ6 ((t + 1) + 8)).bind fun v8 =>
      ((fX4_clear σ6 ((t + 16) + 8) v7 v8).bind fun σ10 =>
      ((fX8_fillsFrom 8 σ10 (t + 16) 0).bind fun pv11 => gl pv11.1 fun v11 => gl pv11.2 fun σ12 =>
      (if v11 = 0 then
        some (0, σ12)
      else
        some (1, σ12)))))))
    else
      some ((-1002), σ))
  else
    some ((-1002), σ))))
set_option maxHeartbeats 4000000 in
set_option maxRecDepth 100000 in
theorem mX8_canFill (l : Launch) (X : gX) (σ σ' : gM) (t : Nat) (r : Int32) (ok : gok8 X t) (h : fX8_canFill σ t = some (r, σ')) : Met l yX8_canFill (Cond.code yX8_canFill cX8_canFill 2 (some .int) :: gBig) ({ frames := 13, cells := 0, slots := 0, locals := 306 }) (gPc X σ [.ref (xN X + t)]) (gQi X σ' r) 0 0 (xA X) := by
  refine g_meti (cc := cX8_canFill) (maxL := 2) (own := RX8) (by decide) rfl rfl (Nat.le_of_ble_eq_true rfl) ?_
  intro p ev s m args below meth c Q C G ret ls hl
  obtain ⟨⟨hx, hb, hml, hown, hts⟩, hK⟩ := id C
  have hl : lv_has ls 2 [(0, .ref (xN X + t))] := hl
  unfold fX8_canFill at h
  refine lv_aload_n hx hb dX8_canFill_0 rfl (lv_at hl 0 rfl) ?_
  refine gg8_0 C G ok.1 ok.2.1.1 u_fl_RX8_10 dX8_canFill_1 ?_
  refine gn0_1 C G ok.2.2.1.1 ok.2.2.1.2.1.2 (List.mem_of_getElem? (i := 3) rfl) dX8_canFill_4 ?_
  obtain ⟨v1, e_v1, h⟩ := g_bind h
  refine g_calli (g_runV (n := 0) (As := []) (rest := []) C G (mX4_places l X σ ((t + 1) + 8) v1 ok.2.2.1.2.2.2 e_v1) ok.2.2.1.2.2.2.1.2 (gE_4 ok.2.2.1.2.2.2.1.1) rfl (g_goodV u_ml_RX8_168 u_im_yX4_places u_se_yX4_places u_in_RX4 u_co_yX4_places) rfl rfl rfl (by decide +kernel) ⟨Nat.le_of_ble_eq_true rfl, Nat.le_of_ble_eq_true rfl⟩ rfl hl.1 rfl (Nat.le_of_ble_eq_true rfl) dX8_canFill_7 ⟨Nat.zero_le _, Nat.zero_le _⟩) G (fun H locs G => ?_)
  refine lv_istore_n (lv' := [(1, .int v1), (0, .ref (xN X + t))]) hx hb dX8_canFill_10 rfl hl (by decide) rfl (fun ls hl => ?_)
  refine lv_aload_n hx hb dX8_canFill_11 rfl (lv_at hl 1 rfl) ?_
  refine gg8_0 C G ok.1 ok.2.1.1 u_fl_RX8_10 dX8_canFill_12 ?_
  refine gn0_0 C G ok.2.2.1.1 ok.2.2.1.2.1.1 (List.mem_of_getElem? (i := 1) rfl) dX8_canFill_15 ?_
  obtain ⟨v2, e_v2, h⟩ := g_bind h
  refine g_calli (g_runV (n := 0) (As := []) (rest := []) C G (mX6_size l X σ ((t + 1) + 1) v2 ok.2.2.1.2.2.1 e_v2) ok.2.2.1.2.2.1.1.2 (gE_6 ok.2.2.1.2.2.1.1.1) rfl (g_goodV u_ml_RX8_77 u_im_yX6_size u_se_yX6_size u_in_RX6 u_co_yX6_size) rfl rfl rfl (by decide +kernel) ⟨Nat.le_of_ble_eq_true rfl, Nat.le_of_ble_eq_true rfl⟩ rfl hl.1 rfl (Nat.le_of_ble_eq_true rfl) dX8_canFill_18 ⟨Nat.zero_le _, Nat.zero_le _⟩) G (fun H locs G => ?_)
  refine lv_iload_n hx hb dX8_canFill_21 rfl (lv_at hl 0 rfl) ?_
  refine lv_icmp_ne (tgt := 31) hx hb dX8_canFill_22 (by decide) (fun c3 => ?_) (fun c3 => ?_)
  · have h := g_if h c3
    refine lv_sipush (v := (-1002)) hx hb dX8_canFill_31 (by decide) ?_
    exact ret dX8_canFill_34 rfl G (Prod.mk.inj (Option.some.inj h))
  · have h := g_it h c3
    refine lv_iload_n hx hb dX8_canFill_25 rfl (lv_at hl 0 rfl) ?_
    refine lv_bipush (v := 6) hx hb dX8_canFill_26 (by decide) ?_
    refine lv_icmp_le (tgt := 35) hx hb dX8_canFill_28 (by decide) (fun c4 => ?_) (fun c4 => ?_)
    · have h := g_it h c4
      refine lv_aload_n hx hb dX8_canFill_35 rfl (lv_at hl 1 rfl) ?_
      refine gg8_1 C G ok.1 ok.2.1.2.1 u_fl_RX8_16 dX8_canFill_36 ?_
      refine lv_aload_n hx hb dX8_canFill_39 rfl (lv_at hl 1 rfl) ?_
      refine gg8_0 C G ok.1 ok.2.1.1 u_fl_RX8_10 dX8_canFill_40 ?_
      obtain ⟨σ6, e_σ6, h⟩ := g_bind h
      refine g_callv (g_runV (n := 1) (As := [.ref (xN X + (t + 1))]) (rest := []) C G (mX0_copy l X σ σ6 (t + 16) (t + 1) ok.2.2.2.1 ok.2.2.1 e_σ6) ok.2.2.2.1.1.2 (gE_0 ok.2.2.2.1.1.1) rfl (g_goodV u_ml_RX8_213 u_im_yX0_copy u_se_yX0_copy u_in_RX0 u_co_yX0_copy) rfl rfl rfl (by decide +kernel) ⟨Nat.le_of_ble_eq_true rfl, Nat.le_of_ble_eq_true rfl⟩ rfl hl.1 rfl (Nat.le_of_ble_eq_true rfl) dX8_canFill_43 ⟨Nat.zero_le _, Nat.zero_le _⟩) G (fun H locs G => ?_)
      refine lv_aload_n hx hb dX8_canFill_46 rfl (lv_at hl 1 rfl) ?_
      refine gg8_1 C G ok.1 ok.2.1.2.1 u_fl_RX8_16 dX8_canFill_47 ?_
      refine gn0_1 C G ok.2.2.2.1.1 ok.2.2.2.1.2.1.2 (List.mem_of_getElem? (i := 3) rfl) dX8_canFill_50 ?_
      refine lv_aload_n hx hb dX8_canFill_53 rfl (lv_at hl 1 rfl) ?_
      refine gg8_0 C G ok.1 ok.2.1.1 u_fl_RX8_10 dX8_canFill_54 ?_
      refine gn0_1 C G ok.2.2.1.1 ok.2.2.1.2.1.2 (List.mem_of_getElem? (i := 3) rfl) dX8_canFill_57 ?_
      obtain ⟨v7, e_v7, h⟩ := g_bind h
      refine g_calli (g_runV (n := 0) (As := []) (rest := [.ref (xN X + ((t + 16) + 8))]) C G (mX4_width l X σ6 ((t + 1) + 8) v7 ok.2.2.1.2.2.2 e_v7) ok.2.2.1.2.2.2.1.2 (gE_4 ok.2.2.1.2.2.2.1.1) rfl (g_goodV u_ml_RX8_152 u_im_yX4_width u_se_yX4_width u_in_RX4 u_co_yX4_width) rfl rfl rfl (by decide +kernel) ⟨Nat.le_of_ble_eq_true rfl, Nat.le_of_ble_eq_true rfl⟩ rfl hl.1 rfl (Nat.le_of_ble_eq_true rfl) dX8_canFill_60 ⟨Nat.zero_le _, Nat.zero_le _⟩) G (fun H locs G => ?_)
      refine lv_aload_n hx hb dX8_canFill_63 rfl (lv_at hl 1 rfl) ?_
      refine gg8_0 C G ok.1 ok.2.1.1 u_fl_RX8_10 dX8_canFill_64 ?_
      refine gn0_1 C G ok.2.2.1.1 ok.2.2.1.2.1.2 (List.mem_of_getElem? (i := 3) rfl) dX8_canFill_67 ?_
      obtain ⟨v8, e_v8, h⟩ := g_bind h
      refine g_calli (g_runV (n := 0) (As := []) (rest := [.int v7, .ref (xN X + ((t + 16) + 8))]) C G (mX4_height l X σ6 ((t + 1) + 8) v8 ok.2.2.1.2.2.2 e_v8) ok.2.2.1.2.2.2.1.2 (gE_4 ok.2.2.1.2.2.2.1.1) rfl (g_goodV u_ml_RX8_155 u_im_yX4_height u_se_yX4_height u_in_RX4 u_co_yX4_height) rfl rfl rfl (by decide +kernel) ⟨Nat.le_of_ble_eq_true rfl, Nat.le_of_ble_eq_true rfl⟩ rfl hl.1 rfl (Nat.le_of_ble_eq_true rfl) dX8_canFill_70 ⟨Nat.zero_le _, Nat.zero_le _⟩) G (fun H locs G => ?_)
      obtain ⟨σ10, e_σ10, h⟩ := g_bind h
      refine g_callv (g_runV (n := 2) (As := [.int v7, .int v8]) (rest := []) C G (mX4_clear l X σ6 σ10 ((t + 16) + 8) v7 v8 ok.2.2.2.1.2.2.2 e_σ10) ok.2.2.2.1.2.2.2.1.2 (gE_4 ok.2.2.2.1.2.2.2.1.1) rfl (g_goodV u_ml_RX8_63 u_im_yX4_clear u_se_yX4_clear u_in_RX4 u_co_yX4_clear) rfl rfl rfl (by decide +kernel) ⟨Nat.le_of_ble_eq_true rfl, Nat.le_of_ble_eq_true rfl⟩ rfl hl.1 rfl (Nat.le_of_ble_eq_true rfl) dX8_canFill_73 ⟨Nat.zero_le _, Nat.zero_le _⟩) G (fun H locs G => ?_)
      refine lv_aload_n hx hb dX8_canFill_76 rfl (lv_at hl 1 rfl) ?_
      refine gg8_1 C G ok.1 ok.2.1.2.1 u_fl_RX8_16 dX8_canFill_77 ?_
      refine lv_iconst (v := 0) hx hb dX8_canFill_80 (by decide) ?_
      obtain ⟨⟨v11, σ12⟩, e_v11, h⟩ := g_bind h
      have h := g_let2 (v := v11) rfl h
      have h := g_let2 (v := σ12) rfl h
      refine g_calli (g_runS (n := 2) (As := [.ref (xN X + (t + 16)), .int 0]) (rest := []) C G (mX8_fillsFrom l X σ10 σ12 (t + 16) 0 v11 ok.2.2.2.1 e_v11) (g_goodS u_ml_RX8_216 u_st_yX8_fillsFrom u_in_RX8 u_co_yX8_fillsFrom) rfl rfl rfl (by decide +kernel) ⟨Nat.le_of_ble_eq_true rfl, Nat.le_of_ble_eq_true rfl⟩ rfl hl.1 rfl (Nat.le_of_ble_eq_true rfl) dX8_canFill_81 ⟨Nat.zero_le _, Nat.zero_le _⟩) G (fun H locs G => ?_)
      refine lv_if_eq (tgt := 91) hx hb dX8_canFill_84 (by decide) (fun c13 => ?_) (fun c13 => ?_)
      · have h := g_it h c13
        refine lv_iconst (v := 0) hx hb dX8_canFill_91 (by decide) ?_
        exact ret dX8_canFill_92 rfl G (Prod.mk.inj (Option.some.inj h))
      · have h := g_if h c13
        refine lv_iconst (v := 1) hx hb dX8_canFill_87 (by decide) ?_
        refine lv_goto (tgt := 92) hx hb dX8_canFill_88 (by decide) ?_
        exact ret dX8_canFill_92 rfl G (Prod.mk.inj (Option.some.inj h))
    · have h := g_if h c4
      refine lv_sipush (v := (-1002)) hx hb dX8_canFill_31 (by decide) ?_
      exact ret dX8_canFill_34 rfl G (Prod.mk.inj (Option.some.inj h))

def fX7_append (σ : gM) (t : Nat) (a1 : Int32) : Option (gM) :=
  (if 60 ≤ (σ t 2) then
    some σ
  else
    ((fX5_set σ (t + 1) (σ t 2) a1).bind fun σ3 =>
    (gl (gset σ3 t (upd (σ3 t) 2 ((σ3 t 2) + 1))) fun σ4 =>
    some σ4)))
set_option maxHeartbeats 4000000 in
set_option maxRecDepth 100000 in
theorem mX7_append (l : Launch) (X : gX) (σ σ' : gM) (t : Nat) (a1 : Int32) (ok : gok7 X t) (h : fX7_append σ t a1 = some σ') : Met l yX7_append (Cond.code yX7_append cX7_append 2 none :: gBig) ({ frames := 1, cells := 0, slots := 0, locals := 22 }) (gPc X σ [.ref (xN X + t), .int a1]) (gQv X σ') 0 0 (xA X) := by
  refine g_metv (cc := cX7_append) (maxL := 2) (own := RX7) (by decide) rfl rfl (Nat.le_of_ble_eq_true rfl) ?_
  intro p ev s m args below meth c Q C G ret ls hl
  obtain ⟨⟨hx, hb, hml, hown, hts⟩, hK⟩ := id C
  have hl : lv_has ls 2 [(0, .ref (xN X + t)), (1, .int a1)] := hl
  unfold fX7_append at h
  refine lv_aload_n hx hb dX7_append_0 rfl (lv_at hl 0 rfl) ?_
  refine gg7_2 C G ok.1 u_fl_RX7_27 dX7_append_1 ?_
  refine lv_bipush (v := 60) hx hb dX7_append_4 (by decide) ?_
  refine lv_icmp_ge (tgt := 31) hx hb dX7_append_6 (by decide) (fun c1 => ?_) (fun c1 => ?_)
  · have h := g_it h c1
    exact ret dX7_append_31 G (Option.some.inj h)
  · have h := g_if h c1
    refine lv_aload_n hx hb dX7_append_9 rfl (lv_at hl 0 rfl) ?_
    refine gg7_0 C G ok.1 ok.2.1.1 u_fl_RX7_14 dX7_append_10 ?_
    refine lv_aload_n hx hb dX7_append_13 rfl (lv_at hl 0 rfl) ?_
    refine gg7_2 C G ok.1 u_fl_RX7_27 dX7_append_14 ?_
    refine lv_iload_n hx hb dX7_append_17 rfl (lv_at hl 1 rfl) ?_
    obtain ⟨σ3, e_σ3, h⟩ := g_bind h
    refine g_callv (g_runV (n := 2) (As := [.int (σ t 2), .int a1]) (rest := []) C G (mX5_set l X σ σ3 (t + 1) (σ t 2) a1 ok.2.2.1 e_σ3) ok.2.2.1.1.2 (gE_5 ok.2.2.1.1.1) rfl (g_goodV u_ml_RX7_38 u_im_yX5_set u_se_yX5_set u_in_RX5 u_co_yX5_set) rfl rfl rfl (by decide +kernel) ⟨Nat.le_of_ble_eq_true rfl, Nat.le_of_ble_eq_true rfl⟩ rfl hl.1 rfl (Nat.le_of_ble_eq_true rfl) dX7_append_18 ⟨Nat.zero_le _, Nat.zero_le _⟩) G (fun H locs G => ?_)
    refine lv_aload_n hx hb dX7_append_21 rfl (lv_at hl 0 rfl) ?_
    refine lv_dup hx hb dX7_append_22 rfl ?_
    refine gg7_2 C G ok.1 u_fl_RX7_27 dX7_append_23 ?_
    refine lv_iconst (v := 1) hx hb dX7_append_26 (by decide) ?_
    refine lv_iadd hx hb dX7_append_27 ?_
    obtain ⟨σ4, e_σ4, h⟩ := g_let h
    refine gp7_2 C G ok.1 u_fl_RX7_27 dX7_append_28 (fun H locs G => ?_)
    rw [e_σ4] at G
    exact ret dX7_append_31 G (Option.some.inj h)

def fX8_type (σ : gM) (t : Nat) (a1 : Int32) : Option (Int32 × gM) :=
  ((fX8_isWithin σ a1 32 126).bind fun v1 =>
  (if v1 = 0 then
    some ((-1001), σ)
  else
    ((fX7_length σ (t + 111)).bind fun v3 =>
    (if v3 < 60 then
      ((fX7_append σ (t + 111) a1).bind fun σ6 =>
      ((fX7_length σ6 (t + 111)).bind fun v7 =>
      some (v7, σ6)))
    else
      some ((-1003), σ)))))
set_option maxHeartbeats 4000000 in
set_option maxRecDepth 100000 in
theorem mX8_type (l : Launch) (X : gX) (σ σ' : gM) (t : Nat) (a1 : Int32) (r : Int32) (ok : gok8 X t) (h : fX8_type σ t a1 = some (r, σ')) : Met l yX8_type (Cond.code yX8_type cX8_type 2 (some .int) :: gBig) ({ frames := 2, cells := 0, slots := 0, locals := 43 }) (gPc X σ [.ref (xN X + t), .int a1]) (gQi X σ' r) 0 0 (xA X) := by
  refine g_meti (cc := cX8_type) (maxL := 2) (own := RX8) (by decide) rfl rfl (Nat.le_of_ble_eq_true rfl) ?_
  intro p ev s m args below meth c Q C G ret ls hl
  obtain ⟨⟨hx, hb, hml, hown, hts⟩, hK⟩ := id C
  have hl : lv_has ls 2 [(0, .ref (xN X + t)), (1, .int a1)] := hl
  unfold fX8_type at h
  refine lv_iload_n hx hb dX8_type_0 rfl (lv_at hl 1 rfl) ?_
  refine lv_bipush (v := 32) hx hb dX8_type_1 (by decide) ?_
  refine lv_bipush (v := 126) hx hb dX8_type_3 (by decide) ?_
  obtain ⟨v1, e_v1, h⟩ := g_bind h
  refine g_calli (g_runS (n := 3) (As := [.int a1, .int 32, .int 126]) (rest := []) C G (mX8_isWithin l X σ a1 32 126 v1 e_v1) (g_goodS u_ml_RX8_47 u_st_yX8_isWithin u_in_RX8 u_co_yX8_isWithin) rfl rfl rfl (by decide +kernel) ⟨Nat.le_of_ble_eq_true rfl, Nat.le_of_ble_eq_true rfl⟩ rfl hl.1 rfl (Nat.le_of_ble_eq_true rfl) dX8_type_5 ⟨Nat.zero_le _, Nat.zero_le _⟩) G (fun H locs G => ?_)
  refine lv_if_ne (tgt := 15) hx hb dX8_type_8 (by decide) (fun c2 => ?_) (fun c2 => ?_)
  · have h := g_if h c2
    refine lv_aload_n hx hb dX8_type_15 rfl (lv_at hl 0 rfl) ?_
    refine gg8_4 C G ok.1 ok.2.1.2.2.2.2.1 u_fl_RX8_36 dX8_type_16 ?_
    obtain ⟨v3, e_v3, h⟩ := g_bind h
    refine g_calli (g_runV (n := 0) (As := []) (rest := []) C G (mX7_length l X σ (t + 111) v3 ok.2.2.2.2.2.2.1 e_v3) ok.2.2.2.2.2.2.1.1.2 (gE_7 ok.2.2.2.2.2.2.1.1.1) rfl (g_goodV u_ml_RX8_171 u_im_yX7_length u_se_yX7_length u_in_RX7 u_co_yX7_length) rfl rfl rfl (by decide +kernel) ⟨Nat.le_of_ble_eq_true rfl, Nat.le_of_ble_eq_true rfl⟩ rfl hl.1 rfl (Nat.le_of_ble_eq_true rfl) dX8_type_19 ⟨Nat.zero_le _, Nat.zero_le _⟩) G (fun H locs G => ?_)
    refine lv_bipush (v := 60) hx hb dX8_type_22 (by decide) ?_
    refine lv_icmp_lt (tgt := 31) hx hb dX8_type_24 (by decide) (fun c4 => ?_) (fun c4 => ?_)
    · have h := g_it h c4
      refine lv_aload_n hx hb dX8_type_31 rfl (lv_at hl 0 rfl) ?_
      refine gg8_4 C G ok.1 ok.2.1.2.2.2.2.1 u_fl_RX8_36 dX8_type_32 ?_
      refine lv_iload_n hx hb dX8_type_35 rfl (lv_at hl 1 rfl) ?_
      obtain ⟨σ6, e_σ6, h⟩ := g_bind h
      refine g_callv (g_runV (n := 1) (As := [.int a1]) (rest := []) C G (mX7_append l X σ σ6 (t + 111) a1 ok.2.2.2.2.2.2.1 e_σ6) ok.2.2.2.2.2.2.1.1.2 (gE_7 ok.2.2.2.2.2.2.1.1.1) rfl (g_goodV u_ml_RX8_220 u_im_yX7_append u_se_yX7_append u_in_RX7 u_co_yX7_append) rfl rfl rfl (by decide +kernel) ⟨Nat.le_of_ble_eq_true rfl, Nat.le_of_ble_eq_true rfl⟩ rfl hl.1 rfl (Nat.le_of_ble_eq_true rfl) dX8_type_36 ⟨Nat.zero_le _, Nat.zero_le _⟩) G (fun H locs G => ?_)
      refine lv_aload_n hx hb dX8_type_39 rfl (lv_at hl 0 rfl) ?_
      refine gg8_4 C G ok.1 ok.2.1.2.2.2.2.1 u_fl_RX8_36 dX8_type_40 ?_
      obtain ⟨v7, e_v7, h⟩ := g_bind h
      refine g_calli (g_runV (n := 0) (As := []) (rest := []) C G (mX7_length l X σ6 (t + 111) v7 ok.2.2.2.2.2.2.1 e_v7) ok.2.2.2.2.2.2.1.1.2 (gE_7 ok.2.2.2.2.2.2.1.1.1) rfl (g_goodV u_ml_RX8_171 u_im_yX7_length u_se_yX7_length u_in_RX7 u_co_yX7_length) rfl rfl rfl (by decide +kernel) ⟨Nat.le_of_ble_eq_true rfl, Nat.le_of_ble_eq_true rfl⟩ rfl hl.1 rfl (Nat.le_of_ble_eq_true rfl) dX8_type_43 ⟨Nat.zero_le _, Nat.zero_le _⟩) G (fun H locs G => ?_)
      exact ret dX8_type_46 rfl G (Prod.mk.inj (Option.some.inj h))
    · have h := g_if h c4
      refine lv_sipush (v := (-1003)) hx hb dX8_type_27 (by decide) ?_
      exact ret dX8_type_30 rfl G (Prod.mk.inj (Option.some.inj h))
  · have h := g_it h c2
    refine lv_sipush (v := (-1001)) hx hb dX8_type_11 (by decide) ?_
    exact ret dX8_type_14 rfl G (Prod.mk.inj (Option.some.inj h))

def fX7_clear (σ : gM) (t : Nat) : Option (gM) :=
  (gl (gset σ t (upd (σ t) 2 0)) fun σ1 =>
  some σ1)
set_option maxHeartbeats 4000000 in
set_option maxRecDepth 100000 in
theorem mX7_clear (l : Launch) (X : gX) (σ σ' : gM) (t : Nat) (ok : gok7 X t) (h : fX7_clear σ t = some σ') : Met l yX7_clear (Cond.code yX7_clear cX7_clear 1 none :: gBig) ({ frames := 0, cells := 0, slots := 0, locals := 0 }) (gPc X σ [.ref (xN X + t)]) (gQv X σ') 0 0 (xA X) := by
  refine g_metv (cc := cX7_clear) (maxL := 1) (own := RX7) (by decide) rfl rfl (Nat.le_of_ble_eq_true rfl) ?_
  intro p ev s m args below meth c Q C G ret ls hl
  obtain ⟨⟨hx, hb, hml, hown, hts⟩, hK⟩ := id C
  have hl : lv_has ls 1 [(0, .ref (xN X + t))] := hl
  unfold fX7_clear at h
  refine lv_aload_n hx hb dX7_clear_0 rfl (lv_at hl 0 rfl) ?_
  refine lv_iconst (v := 0) hx hb dX7_clear_1 (by decide) ?_
  obtain ⟨σ1, e_σ1, h⟩ := g_let h
  refine gp7_2 C G ok.1 u_fl_RX7_27 dX7_clear_2 (fun H locs G => ?_)
  rw [e_σ1] at G
  exact ret dX7_clear_5 G (Option.some.inj h)

def fX8_clearText (σ : gM) (t : Nat) : Option (Int32 × gM) :=
  ((fX7_length σ (t + 111)).bind fun v1 =>
  ((fX7_clear σ (t + 111)).bind fun σ3 =>
  some (v1, σ3)))
set_option maxHeartbeats 4000000 in
set_option maxRecDepth 100000 in
theorem mX8_clearText (l : Launch) (X : gX) (σ σ' : gM) (t : Nat) (r : Int32) (ok : gok8 X t) (h : fX8_clearText σ t = some (r, σ')) : Met l yX8_clearText (Cond.code yX8_clearText cX8_clearText 2 (some .int) :: gBig) ({ frames := 1, cells := 0, slots := 0, locals := 20 }) (gPc X σ [.ref (xN X + t)]) (gQi X σ' r) 0 0 (xA X) := by
  refine g_meti (cc := cX8_clearText) (maxL := 2) (own := RX8) (by decide) rfl rfl (Nat.le_of_ble_eq_true rfl) ?_
  intro p ev s m args below meth c Q C G ret ls hl
  obtain ⟨⟨hx, hb, hml, hown, hts⟩, hK⟩ := id C
  have hl : lv_has ls 2 [(0, .ref (xN X + t))] := hl
  unfold fX8_clearText at h
  refine lv_aload_n hx hb dX8_clearText_0 rfl (lv_at hl 0 rfl) ?_
  refine gg8_4 C G ok.1 ok.2.1.2.2.2.2.1 u_fl_RX8_36 dX8_clearText_1 ?_
  obtain ⟨v1, e_v1, h⟩ := g_bind h
  refine g_calli (g_runV (n := 0) (As := []) (rest := []) C G (mX7_length l X σ (t + 111) v1 ok.2.2.2.2.2.2.1 e_v1) ok.2.2.2.2.2.2.1.1.2 (gE_7 ok.2.2.2.2.2.2.1.1.1) rfl (g_goodV u_ml_RX8_171 u_im_yX7_length u_se_yX7_length u_in_RX7 u_co_yX7_length) rfl rfl rfl (by decide +kernel) ⟨Nat.le_of_ble_eq_true rfl, Nat.le_of_ble_eq_true rfl⟩ rfl hl.1 rfl (Nat.le_of_ble_eq_true rfl) dX8_clearText_4 ⟨Nat.zero_le _, Nat.zero_le _⟩) G (fun H locs G => ?_)
  refine lv_istore_n (lv' := [(1, .int v1), (0, .ref (xN X + t))]) hx hb dX8_clearText_7 rfl hl (by decide) rfl (fun ls hl => ?_)
  refine lv_aload_n hx hb dX8_clearText_8 rfl (lv_at hl 1 rfl) ?_
  refine gg8_4 C G ok.1 ok.2.1.2.2.2.2.1 u_fl_RX8_36 dX8_clearText_9 ?_
  obtain ⟨σ3, e_σ3, h⟩ := g_bind h
  refine g_callv (g_runV (n := 0) (As := []) (rest := []) C G (mX7_clear l X σ σ3 (t + 111) ok.2.2.2.2.2.2.1 e_σ3) ok.2.2.2.2.2.2.1.1.2 (gE_7 ok.2.2.2.2.2.2.1.1.1) rfl (g_goodV u_ml_RX8_222 u_im_yX7_clear u_se_yX7_clear u_in_RX7 u_co_yX7_clear) rfl rfl rfl (by decide +kernel) ⟨Nat.le_of_ble_eq_true rfl, Nat.le_of_ble_eq_true rfl⟩ rfl hl.1 rfl (Nat.le_of_ble_eq_true rfl) dX8_clearText_12 ⟨Nat.zero_le _, Nat.zero_le _⟩) G (fun H locs G => ?_)
  refine lv_iload_n hx hb dX8_clearText_15 rfl (lv_at hl 0 rfl) ?_
  exact ret dX8_clearText_16 rfl G (Prod.mk.inj (Option.some.inj h))

def fX7_position (σ : gM) (t : Nat) : Option (Int32) :=
  some (σ t 3)
set_option maxHeartbeats 4000000 in
set_option maxRecDepth 100000 in
theorem mX7_position (l : Launch) (X : gX) (σ : gM) (t : Nat) (r : Int32) (ok : gok7 X t) (h : fX7_position σ t = some r) : Met l yX7_position (Cond.code yX7_position cX7_position 1 (some .int) :: gBig) ({ frames := 0, cells := 0, slots := 0, locals := 0 }) (gPc X σ [.ref (xN X + t)]) (gQi X σ r) 0 0 (xA X) := by
  refine g_meti (cc := cX7_position) (maxL := 1) (own := RX7) (by decide) rfl rfl (Nat.le_of_ble_eq_true rfl) ?_
  intro p ev s m args below meth c Q C G ret ls hl
  obtain ⟨⟨hx, hb, hml, hown, hts⟩, hK⟩ := id C
  have hl : lv_has ls 1 [(0, .ref (xN X + t))] := hl
  unfold fX7_position at h
  refine lv_aload_n hx hb dX7_position_0 rfl (lv_at hl 0 rfl) ?_
  refine gg7_3 C G ok.1 u_fl_RX7_31 dX7_position_1 ?_
  exact ret dX7_position_4 rfl G ⟨Option.some.inj h, rfl⟩

def fX8_fault (σ : gM) (t : Nat) : Option (Int32 × gM) :=
  ((fX7_read σ (t + 111)).bind fun σ2 =>
  ((fX7_isSound σ2 (t + 111)).bind fun v3 =>
  (if v3 = 0 then
    ((fX7_position σ2 (t + 111)).bind fun v5 =>
    some (v5, σ2))
  else
    some ((-1004), σ2))))
set_option maxHeartbeats 4000000 in
set_option maxRecDepth 100000 in
theorem mX8_fault (l : Launch) (X : gX) (σ σ' : gM) (t : Nat) (r : Int32) (ok : gok8 X t) (h : fX8_fault σ t = some (r, σ')) : Met l yX8_fault (Cond.code yX8_fault cX8_fault 1 (some .int) :: gBig) ({ frames := 5, cells := 0, slots := 0, locals := 107 }) (gPc X σ [.ref (xN X + t)]) (gQi X σ' r) 0 0 (xA X) := by
  refine g_meti (cc := cX8_fault) (maxL := 1) (own := RX8) (by decide) rfl rfl (Nat.le_of_ble_eq_true rfl) ?_
  intro p ev s m args below meth c Q C G ret ls hl
  obtain ⟨⟨hx, hb, hml, hown, hts⟩, hK⟩ := id C
  have hl : lv_has ls 1 [(0, .ref (xN X + t))] := hl
  unfold fX8_fault at h
  refine lv_aload_n hx hb dX8_fault_0 rfl (lv_at hl 0 rfl) ?_
  refine gg8_4 C G ok.1 ok.2.1.2.2.2.2.1 u_fl_RX8_36 dX8_fault_1 ?_
  obtain ⟨σ2, e_σ2, h⟩ := g_bind h
  refine g_callv (g_runV (n := 0) (As := []) (rest := []) C G (mX7_read l X σ σ2 (t + 111) ok.2.2.2.2.2.2.1 e_σ2) ok.2.2.2.2.2.2.1.1.2 (gE_7 ok.2.2.2.2.2.2.1.1.1) rfl (g_goodV u_ml_RX8_94 u_im_yX7_read u_se_yX7_read u_in_RX7 u_co_yX7_read) rfl rfl rfl (by decide +kernel) ⟨Nat.le_of_ble_eq_true rfl, Nat.le_of_ble_eq_true rfl⟩ rfl hl.1 rfl (Nat.le_of_ble_eq_true rfl) dX8_fault_4 ⟨Nat.zero_le _, Nat.zero_le _⟩) G (fun H locs G => ?_)
  refine lv_aload_n hx hb dX8_fault_7 rfl (lv_at hl 0 rfl) ?_
  refine gg8_4 C G ok.1 ok.2.1.2.2.2.2.1 u_fl_RX8_36 dX8_fault_8 ?_
  obtain ⟨v3, e_v3, h⟩ := g_bind h
  refine g_calli (g_runV (n := 0) (As := []) (rest := []) C G (mX7_isSound l X σ2 (t + 111) v3 ok.2.2.2.2.2.2.1 e_v3) ok.2.2.2.2.2.2.1.1.2 (gE_7 ok.2.2.2.2.2.2.1.1.1) rfl (g_goodV u_ml_RX8_97 u_im_yX7_isSound u_se_yX7_isSound u_in_RX7 u_co_yX7_isSound) rfl rfl rfl (by decide +kernel) ⟨Nat.le_of_ble_eq_true rfl, Nat.le_of_ble_eq_true rfl⟩ rfl hl.1 rfl (Nat.le_of_ble_eq_true rfl) dX8_fault_11 ⟨Nat.zero_le _, Nat.zero_le _⟩) G (fun H locs G => ?_)
  refine lv_if_eq (tgt := 23) hx hb dX8_fault_14 (by decide) (fun c4 => ?_) (fun c4 => ?_)
  · have h := g_it h c4
    refine lv_aload_n hx hb dX8_fault_23 rfl (lv_at hl 0 rfl) ?_
    refine gg8_4 C G ok.1 ok.2.1.2.2.2.2.1 u_fl_RX8_36 dX8_fault_24 ?_
    obtain ⟨v5, e_v5, h⟩ := g_bind h
    refine g_calli (g_runV (n := 0) (As := []) (rest := []) C G (mX7_position l X σ2 (t + 111) v5 ok.2.2.2.2.2.2.1 e_v5) ok.2.2.2.2.2.2.1.1.2 (gE_7 ok.2.2.2.2.2.2.1.1.1) rfl (g_goodV u_ml_RX8_224 u_im_yX7_position u_se_yX7_position u_in_RX7 u_co_yX7_position) rfl rfl rfl (by decide +kernel) ⟨Nat.le_of_ble_eq_true rfl, Nat.le_of_ble_eq_true rfl⟩ rfl hl.1 rfl (Nat.le_of_ble_eq_true rfl) dX8_fault_27 ⟨Nat.zero_le _, Nat.zero_le _⟩) G (fun H locs G => ?_)
    exact ret dX8_fault_30 rfl G (Prod.mk.inj (Option.some.inj h))
  · have h := g_if h c4
    refine lv_sipush (v := (-1004)) hx hb dX8_fault_17 (by decide) ?_
    refine lv_goto (tgt := 30) hx hb dX8_fault_20 (by decide) ?_
    exact ret dX8_fault_30 rfl G (Prod.mk.inj (Option.some.inj h))

def fX9_in (σ : gM) (a1 : Int32) (a2 : Int32) (a3 : Int32) : Option (Int32) :=
  (if a1 < a2 then
    some 0
  else
    (if a3 < a1 then
      some 0
    else
      some 1))
set_option maxHeartbeats 4000000 in
set_option maxRecDepth 100000 in
theorem mX9_in (l : Launch) (X : gX) (σ : gM) (a1 : Int32) (a2 : Int32) (a3 : Int32) (r : Int32) (h : fX9_in σ a1 a2 a3 = some r) : Met l yX9_in (Cond.code yX9_in cX9_in 3 (some .boolean) :: gBig) ({ frames := 0, cells := 0, slots := 0, locals := 0 }) (gPc X σ [.int a1, .int a2, .int a3]) (gQi X σ r) 0 0 (xA X) := by
  refine g_meti (cc := cX9_in) (maxL := 3) (own := RX9) (by decide) rfl rfl (Nat.le_of_ble_eq_true rfl) ?_
  intro p ev s m args below meth c Q C G ret ls hl
  obtain ⟨⟨hx, hb, hml, hown, hts⟩, hK⟩ := id C
  have hl : lv_has ls 3 [(0, .int a1), (1, .int a2), (2, .int a3)] := hl
  unfold fX9_in at h
  refine lv_iload_n hx hb dX9_in_0 rfl (lv_at hl 0 rfl) ?_
  refine lv_iload_n hx hb dX9_in_1 rfl (lv_at hl 1 rfl) ?_
  refine lv_icmp_lt (tgt := 14) hx hb dX9_in_2 (by decide) (fun c1 => ?_) (fun c1 => ?_)
  · have h := g_it h c1
    refine lv_iconst (v := 0) hx hb dX9_in_14 (by decide) ?_
    exact ret dX9_in_15 rfl G ⟨Option.some.inj h, rfl⟩
  · have h := g_if h c1
    refine lv_iload_n hx hb dX9_in_5 rfl (lv_at hl 0 rfl) ?_
    refine lv_iload_n hx hb dX9_in_6 rfl (lv_at hl 2 rfl) ?_
    refine lv_icmp_gt (tgt := 14) hx hb dX9_in_7 (by decide) (fun c2 => ?_) (fun c2 => ?_)
    · have h := g_it h c2
      refine lv_iconst (v := 0) hx hb dX9_in_14 (by decide) ?_
      exact ret dX9_in_15 rfl G ⟨Option.some.inj h, rfl⟩
    · have h := g_if h c2
      refine lv_iconst (v := 1) hx hb dX9_in_10 (by decide) ?_
      refine lv_goto (tgt := 15) hx hb dX9_in_11 (by decide) ?_
      exact ret dX9_in_15 rfl G ⟨Option.some.inj h, rfl⟩

def fX9_isScrap (σ : gM) (t : Nat) (a1 : Int32) : Option (Int32) :=
  (if ¬ ((2 : Int32) < 0 ∨ gln (t + 1) ≤ (2 : Int32).toNatClampNeg) then
  ((fX9_in σ a1 0 ((σ (t + 1) (2 : Int32).toNatClampNeg) - 1)).bind fun v2 =>
  (if v2 = 0 ∨ v2 = 1 then
  some v2
  else none))
  else none)
set_option maxHeartbeats 4000000 in
set_option maxRecDepth 100000 in
theorem mX9_isScrap (l : Launch) (X : gX) (σ : gM) (t : Nat) (a1 : Int32) (r : Int32) (ok : gok9 X t) (h : fX9_isScrap σ t a1 = some r) : Met l yX9_isScrap (Cond.code yX9_isScrap cX9_isScrap 2 (some .boolean) :: gBig) ({ frames := 1, cells := 0, slots := 0, locals := 22 }) (gPc X σ [.ref (xN X + t), .int a1]) (gQi X σ r) 0 0 (xA X) := by
  refine g_meti (cc := cX9_isScrap) (maxL := 2) (own := RX9) (by decide) rfl rfl (Nat.le_of_ble_eq_true rfl) ?_
  intro p ev s m args below meth c Q C G ret ls hl
  obtain ⟨⟨hx, hb, hml, hown, hts⟩, hK⟩ := id C
  have hl : lv_has ls 2 [(0, .ref (xN X + t)), (1, .int a1)] := hl
  unfold fX9_isScrap at h
  refine lv_iload_n hx hb dX9_isScrap_0 rfl (lv_at hl 1 rfl) ?_
  refine lv_iconst (v := 0) hx hb dX9_isScrap_1 (by decide) ?_
  refine lv_aload_n hx hb dX9_isScrap_2 rfl (lv_at hl 0 rfl) ?_
  refine gg9_0 C G ok.1 ok.2.1.1 u_fl_RX9_7 dX9_isScrap_3 ?_
  refine lv_iconst (v := 2) hx hb dX9_isScrap_6 (by decide) ?_
  obtain ⟨c1, h⟩ := g_chk h
  refine g_iald C G ok.2.2.1 c1 dX9_isScrap_7 ?_
  refine lv_iconst (v := 1) hx hb dX9_isScrap_8 (by decide) ?_
  refine lv_isub hx hb dX9_isScrap_9 ?_
  obtain ⟨v2, e_v2, h⟩ := g_bind h
  refine g_calli (g_runS (n := 3) (As := [.int a1, .int 0, .int ((σ (t + 1) (2 : Int32).toNatClampNeg) - 1)]) (rest := []) C G (mX9_in l X σ a1 0 ((σ (t + 1) (2 : Int32).toNatClampNeg) - 1) v2 e_v2) (g_goodS u_ml_RX9_38 u_st_yX9_in u_in_RX9 u_co_yX9_in) rfl rfl rfl (by decide +kernel) ⟨Nat.le_of_ble_eq_true rfl, Nat.le_of_ble_eq_true rfl⟩ rfl hl.1 rfl (Nat.le_of_ble_eq_true rfl) dX9_isScrap_10 ⟨Nat.zero_le _, Nat.zero_le _⟩) G (fun H locs G => ?_)
  obtain ⟨c3, h⟩ := g_chk h
  exact ret dX9_isScrap_13 (g_z c3) G ⟨Option.some.inj h, rfl⟩

def fX9_places (σ : gM) (t : Nat) : Option (Int32) :=
  (if ¬ ((0 : Int32) < 0 ∨ gln (t + 1) ≤ (0 : Int32).toNatClampNeg) then
  (if ¬ ((1 : Int32) < 0 ∨ gln (t + 1) ≤ (1 : Int32).toNatClampNeg) then
  some ((σ (t + 1) (0 : Int32).toNatClampNeg) * (σ (t + 1) (1 : Int32).toNatClampNeg))
  else none)
  else none)
set_option maxHeartbeats 4000000 in
set_option maxRecDepth 100000 in
theorem mX9_places (l : Launch) (X : gX) (σ : gM) (t : Nat) (r : Int32) (ok : gok9 X t) (h : fX9_places σ t = some r) : Met l yX9_places (Cond.code yX9_places cX9_places 1 (some .int) :: gBig) ({ frames := 0, cells := 0, slots := 0, locals := 0 }) (gPc X σ [.ref (xN X + t)]) (gQi X σ r) 0 0 (xA X) := by
  refine g_meti (cc := cX9_places) (maxL := 1) (own := RX9) (by decide) rfl rfl (Nat.le_of_ble_eq_true rfl) ?_
  intro p ev s m args below meth c Q C G ret ls hl
  obtain ⟨⟨hx, hb, hml, hown, hts⟩, hK⟩ := id C
  have hl : lv_has ls 1 [(0, .ref (xN X + t))] := hl
  unfold fX9_places at h
  refine lv_aload_n hx hb dX9_places_0 rfl (lv_at hl 0 rfl) ?_
  refine gg9_0 C G ok.1 ok.2.1.1 u_fl_RX9_7 dX9_places_1 ?_
  refine lv_iconst (v := 0) hx hb dX9_places_4 (by decide) ?_
  obtain ⟨c1, h⟩ := g_chk h
  refine g_iald C G ok.2.2.1 c1 dX9_places_5 ?_
  refine lv_aload_n hx hb dX9_places_6 rfl (lv_at hl 0 rfl) ?_
  refine gg9_0 C G ok.1 ok.2.1.1 u_fl_RX9_7 dX9_places_7 ?_
  refine lv_iconst (v := 1) hx hb dX9_places_10 (by decide) ?_
  obtain ⟨c2, h⟩ := g_chk h
  refine g_iald C G ok.2.2.1 c2 dX9_places_11 ?_
  refine lv_imul hx hb dX9_places_12 ?_
  exact ret dX9_places_13 rfl G ⟨Option.some.inj h, rfl⟩

def fX9_isPlace (σ : gM) (t : Nat) (a1 : Int32) : Option (Int32) :=
  ((fX9_places σ t).bind fun v1 =>
  ((fX9_in σ a1 0 (v1 - 1)).bind fun v2 =>
  (if v2 = 0 ∨ v2 = 1 then
  some v2
  else none)))
set_option maxHeartbeats 4000000 in
set_option maxRecDepth 100000 in
theorem mX9_isPlace (l : Launch) (X : gX) (σ : gM) (t : Nat) (a1 : Int32) (r : Int32) (ok : gok9 X t) (h : fX9_isPlace σ t a1 = some r) : Met l yX9_isPlace (Cond.code yX9_isPlace cX9_isPlace 2 (some .boolean) :: gBig) ({ frames := 1, cells := 0, slots := 0, locals := 22 }) (gPc X σ [.ref (xN X + t), .int a1]) (gQi X σ r) 0 0 (xA X) := by
  refine g_meti (cc := cX9_isPlace) (maxL := 2) (own := RX9) (by decide) rfl rfl (Nat.le_of_ble_eq_true rfl) ?_
  intro p ev s m args below meth c Q C G ret ls hl
  obtain ⟨⟨hx, hb, hml, hown, hts⟩, hK⟩ := id C
  have hl : lv_has ls 2 [(0, .ref (xN X + t)), (1, .int a1)] := hl
  unfold fX9_isPlace at h
  refine lv_iload_n hx hb dX9_isPlace_0 rfl (lv_at hl 1 rfl) ?_
  refine lv_iconst (v := 0) hx hb dX9_isPlace_1 (by decide) ?_
  refine lv_aload_n hx hb dX9_isPlace_2 rfl (lv_at hl 0 rfl) ?_
  obtain ⟨v1, e_v1, h⟩ := g_bind h
  refine g_calli (g_runV (n := 0) (As := []) (rest := [.int 0, .int a1]) C G (mX9_places l X σ t v1 ok e_v1) ok.1.2 (gE_9 ok.1.1) rfl (g_goodV u_ml_RX9_42 u_im_yX9_places u_se_yX9_places u_in_RX9 u_co_yX9_places) rfl rfl rfl (by decide +kernel) ⟨Nat.le_of_ble_eq_true rfl, Nat.le_of_ble_eq_true rfl⟩ rfl hl.1 rfl (Nat.le_of_ble_eq_true rfl) dX9_isPlace_3 ⟨Nat.zero_le _, Nat.zero_le _⟩) G (fun H locs G => ?_)
  refine lv_iconst (v := 1) hx hb dX9_isPlace_6 (by decide) ?_
  refine lv_isub hx hb dX9_isPlace_7 ?_
  obtain ⟨v2, e_v2, h⟩ := g_bind h
  refine g_calli (g_runS (n := 3) (As := [.int a1, .int 0, .int (v1 - 1)]) (rest := []) C G (mX9_in l X σ a1 0 (v1 - 1) v2 e_v2) (g_goodS u_ml_RX9_38 u_st_yX9_in u_in_RX9 u_co_yX9_in) rfl rfl rfl (by decide +kernel) ⟨Nat.le_of_ble_eq_true rfl, Nat.le_of_ble_eq_true rfl⟩ rfl hl.1 rfl (Nat.le_of_ble_eq_true rfl) dX9_isPlace_8 ⟨Nat.zero_le _, Nat.zero_le _⟩) G (fun H locs G => ?_)
  obtain ⟨c3, h⟩ := g_chk h
  exact ret dX9_isPlace_11 (g_z c3) G ⟨Option.some.inj h, rfl⟩

def fX9_records_51 (t : Nat) : Nat → gM → Int32 → Option (gM)
  | 0, _, _ => none
  | n + 1, σ, x1 =>
    (if 135 ≤ x1 then
      (gl (gset σ t (upd (σ t) 2 ((σ t 2) + 1))) fun σ5 =>
      some σ5)
    else
      (if ¬ (x1 < 0 ∨ gln (t + 1) ≤ x1.toNatClampNeg) then
      (if ¬ (((135 * (σ t 2)) + x1) < 0 ∨ gln (t + 2) ≤ ((135 * (σ t 2)) + x1).toNatClampNeg) then
      (gl (gset σ (t + 2) (upd (σ (t + 2)) ((135 * (σ t 2)) + x1).toNatClampNeg (σ (t + 1) x1.toNatClampNeg))) fun σ8 =>
      (gl (x1 + 1) fun w9 =>
      fX9_records_51 t n σ8 w9))
      else none)
      else none))

def fX9_records_10 (t : Nat) : Nat → gM → Int32 → Option (gM)
  | 0, _, _ => none
  | n + 1, σ, x1 =>
    (if 540 ≤ x1 then
      (gl (gset σ t (upd (σ t) 2 ((σ t 2) - 1))) fun σ3 =>
      fX9_records_51 t gF σ3 0)
    else
      (if ¬ ((x1 + 135) < 0 ∨ gln (t + 2) ≤ (x1 + 135).toNatClampNeg) then
      (if ¬ (x1 < 0 ∨ gln (t + 2) ≤ x1.toNatClampNeg) then
      (gl (gset σ (t + 2) (upd (σ (t + 2)) x1.toNatClampNeg (σ (t + 2) (x1 + 135).toNatClampNeg))) fun σ12 =>
      (gl (x1 + 1) fun w13 =>
      fX9_records_10 t n σ12 w13))
      else none)
      else none))

def fX9_records (σ : gM) (t : Nat) : Option (gM) :=
  (if (σ t 2) = 5 then
    fX9_records_10 t gF σ 0
  else
    fX9_records_51 t gF σ 0)
set_option maxHeartbeats 4000000 in
set_option maxRecDepth 100000 in
theorem mX9_records (l : Launch) (X : gX) (σ σ' : gM) (t : Nat) (ok : gok9 X t) (h : fX9_records σ t = some σ') : Met l yX9_records (Cond.code yX9_records cX9_records 2 none :: gBig) ({ frames := 0, cells := 0, slots := 0, locals := 0 }) (gPc X σ [.ref (xN X + t)]) (gQv X σ') 0 0 (xA X) := by
  refine g_metv (cc := cX9_records) (maxL := 2) (own := RX9) (by decide) rfl rfl (Nat.le_of_ble_eq_true rfl) ?_
  intro p ev s m args below meth c Q C G ret ls hl
  obtain ⟨⟨hx, hb, hml, hown, hts⟩, hK⟩ := id C
  have hl : lv_has ls 2 [(0, .ref (xN X + t))] := hl
  have L51 : ∀ (n : Nat) (H : Heap) (locs : List Loc) (ls : Array Slot) (σ : gM) (x1 : Int32), gG X σ s H locs → lv_has ls 2 [(0, .ref (xN X + t)), (1, .int x1)] → fX9_records_51 t n σ x1 = some σ' → W p l ev ({ frames := 0, cells := 0, slots := 0, locals := 0 }) s m args below meth c H locs 0 0 Q (F0 m 51 ls []) := by
    intro n
    induction n with
    | zero =>
      intro H locs ls σ x1 G hl h
      rw [fX9_records_51] at h
      cases h
    | succ n ih =>
      intro H locs ls σ x1 G hl h
      rw [fX9_records_51] at h
      refine lv_iload_n hx hb dX9_records_51 rfl (lv_at hl 1 rfl) ?_
      refine lv_sipush (v := 135) hx hb dX9_records_52 (by decide) ?_
      refine lv_icmp_ge (tgt := 85) hx hb dX9_records_55 (by decide) (fun c4 => ?_) (fun c4 => ?_)
      · have h := g_it h c4
        refine lv_aload_n hx hb dX9_records_85 rfl (lv_at hl 0 rfl) ?_
        refine lv_dup hx hb dX9_records_86 rfl ?_
        refine gg9_2 C G ok.1 u_fl_RX9_46 dX9_records_87 ?_
        refine lv_iconst (v := 1) hx hb dX9_records_90 (by decide) ?_
        refine lv_iadd hx hb dX9_records_91 ?_
        obtain ⟨σ5, e_σ5, h⟩ := g_let h
        refine gp9_2 C G ok.1 u_fl_RX9_46 dX9_records_92 (fun H locs G => ?_)
        rw [e_σ5] at G
        exact ret dX9_records_95 G (Option.some.inj h)
      · have h := g_if h c4
        refine lv_aload_n hx hb dX9_records_58 rfl (lv_at hl 0 rfl) ?_
        refine gg9_1 C G ok.1 ok.2.1.2.1 u_fl_RX9_13 dX9_records_59 ?_
        refine lv_sipush (v := 135) hx hb dX9_records_62 (by decide) ?_
        refine lv_aload_n hx hb dX9_records_65 rfl (lv_at hl 0 rfl) ?_
        refine gg9_2 C G ok.1 u_fl_RX9_46 dX9_records_66 ?_
        refine lv_imul hx hb dX9_records_69 ?_
        refine lv_iload_n hx hb dX9_records_70 rfl (lv_at hl 1 rfl) ?_
        refine lv_iadd hx hb dX9_records_71 ?_
        refine lv_aload_n hx hb dX9_records_72 rfl (lv_at hl 0 rfl) ?_
        refine gg9_0 C G ok.1 ok.2.1.1 u_fl_RX9_7 dX9_records_73 ?_
        refine lv_iload_n hx hb dX9_records_76 rfl (lv_at hl 1 rfl) ?_
        obtain ⟨c6, h⟩ := g_chk h
        refine g_iald C G ok.2.2.1 c6 dX9_records_77 ?_
        obtain ⟨c7, h⟩ := g_chk h
        obtain ⟨σ8, e_σ8, h⟩ := g_let h
        refine g_iast C G ok.2.2.2.1 c7 dX9_records_78 (fun H locs G => ?_)
        rw [e_σ8] at G
        obtain ⟨w9, e_w9⟩ : ∃ y : Int32, y = x1 + 1 := ⟨_, rfl⟩
        have h := g_let2 e_w9 h
        refine lv_iinc (v := w9) (lv' := [(1, .int w9), (0, .ref (xN X + t))]) hx hb dX9_records_79 hl (k := 1) rfl (by rw [e_w9]; rfl) (by decide) rfl (fun ls hl => ?_)
        refine lv_goto (tgt := 51) hx hb dX9_records_82 (by decide) ?_
        exact ih _ _ _ σ8 w9 G (lv_sub hl [1, 0] rfl) h
  have L10 : ∀ (n : Nat) (H : Heap) (locs : List Loc) (ls : Array Slot) (σ : gM) (x1 : Int32), gG X σ s H locs → lv_has ls 2 [(0, .ref (xN X + t)), (1, .int x1)] → fX9_records_10 t n σ x1 = some σ' → W p l ev ({ frames := 0, cells := 0, slots := 0, locals := 0 }) s m args below meth c H locs 0 0 Q (F0 m 10 ls []) := by
    intro n
    induction n with
    | zero =>
      intro H locs ls σ x1 G hl h
      rw [fX9_records_10] at h
      cases h
    | succ n ih =>
      intro H locs ls σ x1 G hl h
      rw [fX9_records_10] at h
      refine lv_iload_n hx hb dX9_records_10 rfl (lv_at hl 1 rfl) ?_
      refine lv_sipush (v := 540) hx hb dX9_records_11 (by decide) ?_
      refine lv_icmp_ge (tgt := 39) hx hb dX9_records_14 (by decide) (fun c2 => ?_) (fun c2 => ?_)
      · have h := g_it h c2
        refine lv_aload_n hx hb dX9_records_39 rfl (lv_at hl 0 rfl) ?_
        refine lv_dup hx hb dX9_records_40 rfl ?_
        refine gg9_2 C G ok.1 u_fl_RX9_46 dX9_records_41 ?_
        refine lv_iconst (v := 1) hx hb dX9_records_44 (by decide) ?_
        refine lv_isub hx hb dX9_records_45 ?_
        obtain ⟨σ3, e_σ3, h⟩ := g_let h
        refine gp9_2 C G ok.1 u_fl_RX9_46 dX9_records_46 (fun H locs G => ?_)
        rw [e_σ3] at G
        refine lv_iconst (v := 0) hx hb dX9_records_49 (by decide) ?_
        refine lv_istore_n (lv' := [(1, .int 0), (0, .ref (xN X + t))]) hx hb dX9_records_50 rfl hl (by decide) rfl (fun ls hl => ?_)
        exact L51  gF _ _ _ σ3 0 G (lv_sub hl [1, 0] rfl) h
      · have h := g_if h c2
        refine lv_aload_n hx hb dX9_records_17 rfl (lv_at hl 0 rfl) ?_
        refine gg9_1 C G ok.1 ok.2.1.2.1 u_fl_RX9_13 dX9_records_18 ?_
        refine lv_iload_n hx hb dX9_records_21 rfl (lv_at hl 1 rfl) ?_
        refine lv_aload_n hx hb dX9_records_22 rfl (lv_at hl 0 rfl) ?_
        refine gg9_1 C G ok.1 ok.2.1.2.1 u_fl_RX9_13 dX9_records_23 ?_
        refine lv_iload_n hx hb dX9_records_26 rfl (lv_at hl 1 rfl) ?_
        refine lv_sipush (v := 135) hx hb dX9_records_27 (by decide) ?_
        refine lv_iadd hx hb dX9_records_30 ?_
        obtain ⟨c10, h⟩ := g_chk h
        refine g_iald C G ok.2.2.2.1 c10 dX9_records_31 ?_
        obtain ⟨c11, h⟩ := g_chk h
        obtain ⟨σ12, e_σ12, h⟩ := g_let h
        refine g_iast C G ok.2.2.2.1 c11 dX9_records_32 (fun H locs G => ?_)
        rw [e_σ12] at G
        obtain ⟨w13, e_w13⟩ : ∃ y : Int32, y = x1 + 1 := ⟨_, rfl⟩
        have h := g_let2 e_w13 h
        refine lv_iinc (v := w13) (lv' := [(1, .int w13), (0, .ref (xN X + t))]) hx hb dX9_records_33 hl (k := 1) rfl (by rw [e_w13]; rfl) (by decide) rfl (fun ls hl => ?_)
        refine lv_goto (tgt := 10) hx hb dX9_records_36 (by decide) ?_
        exact ih _ _ _ σ12 w13 G (lv_sub hl [1, 0] rfl) h
  unfold fX9_records at h
  refine lv_aload_n hx hb dX9_records_0 rfl (lv_at hl 0 rfl) ?_
  refine gg9_2 C G ok.1 u_fl_RX9_46 dX9_records_1 ?_
  refine lv_iconst (v := 5) hx hb dX9_records_4 (by decide) ?_
  refine lv_icmp_ne (tgt := 49) hx hb dX9_records_5 (by decide) (fun c1 => ?_) (fun c1 => ?_)
  · have h := g_if h c1
    refine lv_iconst (v := 0) hx hb dX9_records_49 (by decide) ?_
    refine lv_istore_n (lv' := [(1, .int 0), (0, .ref (xN X + t))]) hx hb dX9_records_50 rfl hl (by decide) rfl (fun ls hl => ?_)
    exact L51  gF _ _ _ σ 0 G (lv_sub hl [1, 0] rfl) h
  · have h := g_it h c1
    refine lv_iconst (v := 0) hx hb dX9_records_8 (by decide) ?_
    refine lv_istore_n (lv' := [(1, .int 0), (0, .ref (xN X + t))]) hx hb dX9_records_9 rfl hl (by decide) rfl (fun ls hl => ?_)
    exact L10  gF _ _ _ σ 0 G (lv_sub hl [1, 0] rfl) h

def fX9_reversed (σ : gM) (a1 : Int32) : Option (Int32) :=
  (if 0 ≤ a1 then
    some ((((a1 - a1 / 10 * 10) * 100) + (((a1 / 10) - (a1 / 10) / 10 * 10) * 10)) + (a1 / 100))
  else
    some a1)
set_option maxHeartbeats 4000000 in
set_option maxRecDepth 100000 in
theorem mX9_reversed (l : Launch) (X : gX) (σ : gM) (a1 : Int32) (r : Int32) (h : fX9_reversed σ a1 = some r) : Met l yX9_reversed (Cond.code yX9_reversed cX9_reversed 1 (some .int) :: gBig) ({ frames := 0, cells := 0, slots := 0, locals := 0 }) (gPc X σ [.int a1]) (gQi X σ r) 0 0 (xA X) := by
  refine g_meti (cc := cX9_reversed) (maxL := 1) (own := RX9) (by decide) rfl rfl (Nat.le_of_ble_eq_true rfl) ?_
  intro p ev s m args below meth c Q C G ret ls hl
  obtain ⟨⟨hx, hb, hml, hown, hts⟩, hK⟩ := id C
  have hl : lv_has ls 1 [(0, .int a1)] := hl
  unfold fX9_reversed at h
  refine lv_iload_n hx hb dX9_reversed_0 rfl (lv_at hl 0 rfl) ?_
  refine lv_if_ge (tgt := 8) hx hb dX9_reversed_1 (by decide) (fun c1 => ?_) (fun c1 => ?_)
  · have h := g_it h c1
    refine lv_iload_n hx hb dX9_reversed_8 rfl (lv_at hl 0 rfl) ?_
    refine lv_bipush (v := 10) hx hb dX9_reversed_9 (by decide) ?_
    refine lv_irem hx hb dX9_reversed_11 (by decide) ?_
    refine lv_bipush (v := 100) hx hb dX9_reversed_12 (by decide) ?_
    refine lv_imul hx hb dX9_reversed_14 ?_
    refine lv_iload_n hx hb dX9_reversed_15 rfl (lv_at hl 0 rfl) ?_
    refine lv_bipush (v := 10) hx hb dX9_reversed_16 (by decide) ?_
    refine lv_idiv hx hb dX9_reversed_18 (by decide) ?_
    refine lv_bipush (v := 10) hx hb dX9_reversed_19 (by decide) ?_
    refine lv_irem hx hb dX9_reversed_21 (by decide) ?_
    refine lv_bipush (v := 10) hx hb dX9_reversed_22 (by decide) ?_
    refine lv_imul hx hb dX9_reversed_24 ?_
    refine lv_iadd hx hb dX9_reversed_25 ?_
    refine lv_iload_n hx hb dX9_reversed_26 rfl (lv_at hl 0 rfl) ?_
    refine lv_bipush (v := 100) hx hb dX9_reversed_27 (by decide) ?_
    refine lv_idiv hx hb dX9_reversed_29 (by decide) ?_
    refine lv_iadd hx hb dX9_reversed_30 ?_
    exact ret dX9_reversed_31 rfl G ⟨Option.some.inj h, rfl⟩
  · have h := g_if h c1
    refine lv_iload_n hx hb dX9_reversed_4 rfl (lv_at hl 0 rfl) ?_
    refine lv_goto (tgt := 31) hx hb dX9_reversed_5 (by decide) ?_
    exact ret dX9_reversed_31 rfl G ⟨Option.some.inj h, rfl⟩
