def fJ7_fill_53178_5 (o1 : Nat) (a2 : Int32) : Nat → gM → Int32 → Int32 → Option (gM)
  | 0, _, _, _ => none
  | n + 1, σ, x2, x3 =>
    (if x3 ≤ x2 then
      some σ
    else
      (if ¬ (x2 < 0 ∨ gln o1 ≤ x2.toNatClampNeg) then
      (gl (gset σ o1 (upd (σ o1) x2.toNatClampNeg a2)) fun σ4 =>
      (gl (x2 + 1) fun w5 =>
      fJ7_fill_53178_5 o1 a2 n σ4 w5 x3))
      else none))

def fJ7_fill_53178 (σ : gM) (o1 : Nat) (a2 : Int32) : Option (gM) :=
  (gl (nI (gln o1)) fun w1 =>
  fJ7_fill_53178_5 o1 a2 gF σ 0 w1)
set_option maxHeartbeats 4000000 in
set_option maxRecDepth 100000 in
theorem mJ7_fill_53178 (l : Launch) (X : gX) (σ σ' : gM) (o1 : Nat) (a2 : Int32) (ok1 : (gkd o1 = 10 ∧ xlo X ≤ o1 ∧ o1 < xhi X)) (h : fJ7_fill_53178 σ o1 a2 = some σ') : Met l yJ7_fill_53178 (Cond.code yJ7_fill_53178 cJ7_fill_53178 4 none :: gBig) ({ frames := 0, cells := 0, slots := 0, locals := 0 }) (gPc X σ [.ref (xN X + o1), .int a2]) (gQv X σ') 0 0 (xA X) := by
  refine g_metv (cc := cJ7_fill_53178) (maxL := 4) (own := RJ7) (by decide) rfl rfl (Nat.le_of_ble_eq_true rfl) ?_
  intro p ev s m args below meth c Q C G ret ls hl
  obtain ⟨⟨hx, hb, hml, hown, hts⟩, hK⟩ := id C
  have hl : lv_has ls 4 [(0, .ref (xN X + o1)), (1, .int a2)] := hl
  have L5 : ∀ (n : Nat) (H : Heap) (locs : List Loc) (ls : Array Slot) (σ : gM) (x2 : Int32) (x3 : Int32), gG X σ s H locs → lv_has ls 4 [(0, .ref (xN X + o1)), (1, .int a2), (2, .int x2), (3, .int x3)] → fJ7_fill_53178_5 o1 a2 n σ x2 x3 = some σ' → W p l ev ({ frames := 0, cells := 0, slots := 0, locals := 0 }) s m args below meth c H locs 0 0 Q (F0 m 5 ls []) := by
    intro n
    induction n with
    | zero =>
      intro H locs ls σ x2 x3 G hl h
      rw [fJ7_fill_53178_5] at h
      cases h
    | succ n ih =>
      intro H locs ls σ x2 x3 G hl h
      rw [fJ7_fill_53178_5] at h
      refine lv_iload_n hx hb dJ7_fill_53178_5 rfl (lv_at hl 2 rfl) ?_
      refine lv_iload_n hx hb dJ7_fill_53178_6 rfl (lv_at hl 3 rfl) ?_
      refine lv_icmp_ge (tgt := 20) hx hb dJ7_fill_53178_7 (by decide) (fun c2 => ?_) (fun c2 => ?_)
      · have h := g_it h c2
        exact ret dJ7_fill_53178_20 G (Option.some.inj h)
      · have h := g_if h c2
        refine lv_aload_n hx hb dJ7_fill_53178_10 rfl (lv_at hl 0 rfl) ?_
        refine lv_iload_n hx hb dJ7_fill_53178_11 rfl (lv_at hl 2 rfl) ?_
        refine lv_iload_n hx hb dJ7_fill_53178_12 rfl (lv_at hl 1 rfl) ?_
        obtain ⟨c3, h⟩ := g_chk h
        obtain ⟨σ4, e_σ4, h⟩ := g_let h
        refine g_iast C G ok1 c3 dJ7_fill_53178_13 (fun H locs G => ?_)
        rw [e_σ4] at G
        obtain ⟨w5, e_w5⟩ : ∃ y : Int32, y = x2 + 1 := ⟨_, rfl⟩
        have h := g_let2 e_w5 h
        refine lv_iinc (v := w5) (lv' := [(2, .int w5), (0, .ref (xN X + o1)), (1, .int a2), (3, .int x3)]) hx hb dJ7_fill_53178_14 hl (k := 2) rfl (by rw [e_w5]; rfl) (by decide) rfl (fun ls hl => ?_)
        refine lv_goto (tgt := 5) hx hb dJ7_fill_53178_17 (by decide) ?_
        exact ih _ _ _ σ4 w5 x3 G (lv_sub hl [1, 2, 0, 3] rfl) h
  unfold fJ7_fill_53178 at h
  refine lv_iconst (v := 0) hx hb dJ7_fill_53178_0 (by decide) ?_
  refine lv_istore_n (lv' := [(2, .int 0), (0, .ref (xN X + o1)), (1, .int a2)]) hx hb dJ7_fill_53178_1 rfl hl (by decide) rfl (fun ls hl => ?_)
  refine lv_aload_n hx hb dJ7_fill_53178_2 rfl (lv_at hl 1 rfl) ?_
  refine g_alen C G ok1 dJ7_fill_53178_3 ?_
  refine lv_topi (fun w1 e_w1 => ?_)
  have h := g_let2 e_w1 h
  refine lv_istore_n (lv' := [(3, .int w1), (2, .int 0), (0, .ref (xN X + o1)), (1, .int a2)]) hx hb dJ7_fill_53178_4 rfl hl (by decide) rfl (fun ls hl => ?_)
  exact L5  gF _ _ _ σ 0 w1 G (lv_sub hl [2, 3, 1, 0] rfl) h

def fX5_setAll (σ : gM) (t : Nat) (a1 : Int32) : Option (gM) :=
  ((fJ7_fill_53178 σ (t + 1) a1).bind fun σ2 =>
  some σ2)
set_option maxHeartbeats 4000000 in
set_option maxRecDepth 100000 in
theorem mX5_setAll (l : Launch) (X : gX) (σ σ' : gM) (t : Nat) (a1 : Int32) (ok : gok5 X t) (h : fX5_setAll σ t a1 = some σ') : Met l yX5_setAll (Cond.code yX5_setAll cX5_setAll 2 none :: gBig) ({ frames := 1, cells := 0, slots := 0, locals := 23 }) (gPc X σ [.ref (xN X + t), .int a1]) (gQv X σ') 0 0 (xA X) := by
  refine g_metv (cc := cX5_setAll) (maxL := 2) (own := RX5) (by decide) rfl rfl (Nat.le_of_ble_eq_true rfl) ?_
  intro p ev s m args below meth c Q C G ret ls hl
  obtain ⟨⟨hx, hb, hml, hown, hts⟩, hK⟩ := id C
  have hl : lv_has ls 2 [(0, .ref (xN X + t)), (1, .int a1)] := hl
  unfold fX5_setAll at h
  refine lv_aload_n hx hb dX5_setAll_0 rfl (lv_at hl 0 rfl) ?_
  refine gg5_0 C G ok.1 ok.2.1 u_fl_RX5_15 dX5_setAll_1 ?_
  refine lv_iload_n hx hb dX5_setAll_4 rfl (lv_at hl 1 rfl) ?_
  obtain ⟨σ2, e_σ2, h⟩ := g_bind h
  refine g_callv (g_runS (n := 2) (As := [.ref (xN X + (t + 1)), .int a1]) (rest := []) C G (mJ7_fill_53178 l X σ σ2 (t + 1) a1 ok.2.2 e_σ2) (g_goodS u_ml_RX5_21 u_st_yJ7_fill_53178 u_in_RJ7 u_co_yJ7_fill_53178) rfl rfl rfl (by decide +kernel) ⟨Nat.le_of_ble_eq_true rfl, Nat.le_of_ble_eq_true rfl⟩ rfl hl.1 rfl (Nat.le_of_ble_eq_true rfl) dX5_setAll_5 ⟨Nat.zero_le _, Nat.zero_le _⟩) G (fun H locs G => ?_)
  exact ret dX5_setAll_8 G (Option.some.inj h)

def fX4_clear (σ : gM) (t : Nat) (a1 : Int32) (a2 : Int32) : Option (gM) :=
  (gl (gset σ t (upd (σ t) 3 a1)) fun σ1 =>
  (gl (gset σ1 t (upd (σ1 t) 4 a2)) fun σ2 =>
  ((fX5_setAll σ2 (t + 1) (-1)).bind fun σ4 =>
  ((fX5_setAll σ4 (t + 3) 0).bind fun σ6 =>
  ((fX5_setAll σ6 (t + 5) (-1)).bind fun σ8 =>
  some σ8)))))
set_option maxHeartbeats 4000000 in
set_option maxRecDepth 100000 in
theorem mX4_clear (l : Launch) (X : gX) (σ σ' : gM) (t : Nat) (a1 : Int32) (a2 : Int32) (ok : gok4 X t) (h : fX4_clear σ t a1 a2 = some σ') : Met l yX4_clear (Cond.code yX4_clear cX4_clear 3 none :: gBig) ({ frames := 2, cells := 0, slots := 0, locals := 44 }) (gPc X σ [.ref (xN X + t), .int a1, .int a2]) (gQv X σ') 0 0 (xA X) := by
  refine g_metv (cc := cX4_clear) (maxL := 3) (own := RX4) (by decide) rfl rfl (Nat.le_of_ble_eq_true rfl) ?_
  intro p ev s m args below meth c Q C G ret ls hl
  obtain ⟨⟨hx, hb, hml, hown, hts⟩, hK⟩ := id C
  have hl : lv_has ls 3 [(0, .ref (xN X + t)), (1, .int a1), (2, .int a2)] := hl
  unfold fX4_clear at h
  refine lv_aload_n hx hb dX4_clear_0 rfl (lv_at hl 0 rfl) ?_
  refine lv_iload_n hx hb dX4_clear_1 rfl (lv_at hl 1 rfl) ?_
  obtain ⟨σ1, e_σ1, h⟩ := g_let h
  refine gp4_3 C G ok.1 u_fl_RX4_30 dX4_clear_2 (fun H locs G => ?_)
  rw [e_σ1] at G
  refine lv_aload_n hx hb dX4_clear_5 rfl (lv_at hl 0 rfl) ?_
  refine lv_iload_n hx hb dX4_clear_6 rfl (lv_at hl 2 rfl) ?_
  obtain ⟨σ2, e_σ2, h⟩ := g_let h
  refine gp4_4 C G ok.1 u_fl_RX4_34 dX4_clear_7 (fun H locs G => ?_)
  rw [e_σ2] at G
  refine lv_aload_n hx hb dX4_clear_10 rfl (lv_at hl 0 rfl) ?_
  refine gg4_0 C G ok.1 ok.2.1.1 u_fl_RX4_14 dX4_clear_11 ?_
  refine lv_iconst (v := (-1)) hx hb dX4_clear_14 (by decide) ?_
  obtain ⟨σ4, e_σ4, h⟩ := g_bind h
  refine g_callv (g_runV (n := 1) (As := [.int (-1)]) (rest := []) C G (mX5_setAll l X σ2 σ4 (t + 1) (-1) ok.2.2.1 e_σ4) ok.2.2.1.1.2 (gE_5 ok.2.2.1.1.1) rfl (g_goodV u_ml_RX4_41 u_im_yX5_setAll u_se_yX5_setAll u_in_RX5 u_co_yX5_setAll) rfl rfl rfl (by decide +kernel) ⟨Nat.le_of_ble_eq_true rfl, Nat.le_of_ble_eq_true rfl⟩ rfl hl.1 rfl (Nat.le_of_ble_eq_true rfl) dX4_clear_15 ⟨Nat.zero_le _, Nat.zero_le _⟩) G (fun H locs G => ?_)
  refine lv_aload_n hx hb dX4_clear_18 rfl (lv_at hl 0 rfl) ?_
  refine gg4_1 C G ok.1 ok.2.1.2.1 u_fl_RX4_20 dX4_clear_19 ?_
  refine lv_iconst (v := 0) hx hb dX4_clear_22 (by decide) ?_
  obtain ⟨σ6, e_σ6, h⟩ := g_bind h
  refine g_callv (g_runV (n := 1) (As := [.int 0]) (rest := []) C G (mX5_setAll l X σ4 σ6 (t + 3) 0 ok.2.2.2.1 e_σ6) ok.2.2.2.1.1.2 (gE_5 ok.2.2.2.1.1.1) rfl (g_goodV u_ml_RX4_41 u_im_yX5_setAll u_se_yX5_setAll u_in_RX5 u_co_yX5_setAll) rfl rfl rfl (by decide +kernel) ⟨Nat.le_of_ble_eq_true rfl, Nat.le_of_ble_eq_true rfl⟩ rfl hl.1 rfl (Nat.le_of_ble_eq_true rfl) dX4_clear_23 ⟨Nat.zero_le _, Nat.zero_le _⟩) G (fun H locs G => ?_)
  refine lv_aload_n hx hb dX4_clear_26 rfl (lv_at hl 0 rfl) ?_
  refine gg4_2 C G ok.1 ok.2.1.2.2 u_fl_RX4_23 dX4_clear_27 ?_
  refine lv_iconst (v := (-1)) hx hb dX4_clear_30 (by decide) ?_
  obtain ⟨σ8, e_σ8, h⟩ := g_bind h
  refine g_callv (g_runV (n := 1) (As := [.int (-1)]) (rest := []) C G (mX5_setAll l X σ6 σ8 (t + 5) (-1) ok.2.2.2.2 e_σ8) ok.2.2.2.2.1.2 (gE_5 ok.2.2.2.2.1.1) rfl (g_goodV u_ml_RX4_41 u_im_yX5_setAll u_se_yX5_setAll u_in_RX5 u_co_yX5_setAll) rfl rfl rfl (by decide +kernel) ⟨Nat.le_of_ble_eq_true rfl, Nat.le_of_ble_eq_true rfl⟩ rfl hl.1 rfl (Nat.le_of_ble_eq_true rfl) dX4_clear_31 ⟨Nat.zero_le _, Nat.zero_le _⟩) G (fun H locs G => ?_)
  exact ret dX4_clear_34 G (Option.some.inj h)

def fX8_isWithin (σ : gM) (a1 : Int32) (a2 : Int32) (a3 : Int32) : Option (Int32) :=
  (if a1 < a2 then
    some 0
  else
    (if a3 < a1 then
      some 0
    else
      some 1))
set_option maxHeartbeats 4000000 in
set_option maxRecDepth 100000 in
theorem mX8_isWithin (l : Launch) (X : gX) (σ : gM) (a1 : Int32) (a2 : Int32) (a3 : Int32) (r : Int32) (h : fX8_isWithin σ a1 a2 a3 = some r) : Met l yX8_isWithin (Cond.code yX8_isWithin cX8_isWithin 3 (some .boolean) :: gBig) ({ frames := 0, cells := 0, slots := 0, locals := 0 }) (gPc X σ [.int a1, .int a2, .int a3]) (gQi X σ r) 0 0 (xA X) := by
  refine g_meti (cc := cX8_isWithin) (maxL := 3) (own := RX8) (by decide) rfl rfl (Nat.le_of_ble_eq_true rfl) ?_
  intro p ev s m args below meth c Q C G ret ls hl
  obtain ⟨⟨hx, hb, hml, hown, hts⟩, hK⟩ := id C
  have hl : lv_has ls 3 [(0, .int a1), (1, .int a2), (2, .int a3)] := hl
  unfold fX8_isWithin at h
  refine lv_iload_n hx hb dX8_isWithin_0 rfl (lv_at hl 1 rfl) ?_
  refine lv_iload_n hx hb dX8_isWithin_1 rfl (lv_at hl 0 rfl) ?_
  refine lv_icmp_gt (tgt := 14) hx hb dX8_isWithin_2 (by decide) (fun c1 => ?_) (fun c1 => ?_)
  · have h := g_it h c1
    refine lv_iconst (v := 0) hx hb dX8_isWithin_14 (by decide) ?_
    exact ret dX8_isWithin_15 rfl G ⟨Option.some.inj h, rfl⟩
  · have h := g_if h c1
    refine lv_iload_n hx hb dX8_isWithin_5 rfl (lv_at hl 0 rfl) ?_
    refine lv_iload_n hx hb dX8_isWithin_6 rfl (lv_at hl 2 rfl) ?_
    refine lv_icmp_gt (tgt := 14) hx hb dX8_isWithin_7 (by decide) (fun c2 => ?_) (fun c2 => ?_)
    · have h := g_it h c2
      refine lv_iconst (v := 0) hx hb dX8_isWithin_14 (by decide) ?_
      exact ret dX8_isWithin_15 rfl G ⟨Option.some.inj h, rfl⟩
    · have h := g_if h c2
      refine lv_iconst (v := 1) hx hb dX8_isWithin_10 (by decide) ?_
      refine lv_goto (tgt := 15) hx hb dX8_isWithin_11 (by decide) ?_
      exact ret dX8_isWithin_15 rfl G ⟨Option.some.inj h, rfl⟩

def fX6_size (σ : gM) (t : Nat) : Option (Int32) :=
  some (σ t 3)
set_option maxHeartbeats 4000000 in
set_option maxRecDepth 100000 in
theorem mX6_size (l : Launch) (X : gX) (σ : gM) (t : Nat) (r : Int32) (ok : gok6 X t) (h : fX6_size σ t = some r) : Met l yX6_size (Cond.code yX6_size cX6_size 1 (some .int) :: gBig) ({ frames := 0, cells := 0, slots := 0, locals := 0 }) (gPc X σ [.ref (xN X + t)]) (gQi X σ r) 0 0 (xA X) := by
  refine g_meti (cc := cX6_size) (maxL := 1) (own := RX6) (by decide) rfl rfl (Nat.le_of_ble_eq_true rfl) ?_
  intro p ev s m args below meth c Q C G ret ls hl
  obtain ⟨⟨hx, hb, hml, hown, hts⟩, hK⟩ := id C
  have hl : lv_has ls 1 [(0, .ref (xN X + t))] := hl
  unfold fX6_size at h
  refine lv_aload_n hx hb dX6_size_0 rfl (lv_at hl 0 rfl) ?_
  refine gg6_3 C G ok.1 u_fl_RX6_26 dX6_size_1 ?_
  exact ret dX6_size_4 rfl G ⟨Option.some.inj h, rfl⟩

def fX5_get (σ : gM) (t : Nat) (a1 : Int32) : Option (Int32) :=
  (if a1 < 0 then
    some (-1)
  else
    (if (nI (gln (t + 1))) ≤ a1 then
      some (-1)
    else
      (if ¬ (a1 < 0 ∨ gln (t + 1) ≤ a1.toNatClampNeg) then
      some (σ (t + 1) a1.toNatClampNeg)
      else none)))
set_option maxHeartbeats 4000000 in
set_option maxRecDepth 100000 in
theorem mX5_get (l : Launch) (X : gX) (σ : gM) (t : Nat) (a1 : Int32) (r : Int32) (ok : gok5 X t) (h : fX5_get σ t a1 = some r) : Met l yX5_get (Cond.code yX5_get cX5_get 2 (some .int) :: gBig) ({ frames := 0, cells := 0, slots := 0, locals := 0 }) (gPc X σ [.ref (xN X + t), .int a1]) (gQi X σ r) 0 0 (xA X) := by
  refine g_meti (cc := cX5_get) (maxL := 2) (own := RX5) (by decide) rfl rfl (Nat.le_of_ble_eq_true rfl) ?_
  intro p ev s m args below meth c Q C G ret ls hl
  obtain ⟨⟨hx, hb, hml, hown, hts⟩, hK⟩ := id C
  have hl : lv_has ls 2 [(0, .ref (xN X + t)), (1, .int a1)] := hl
  unfold fX5_get at h
  refine lv_iload_n hx hb dX5_get_0 rfl (lv_at hl 1 rfl) ?_
  refine lv_if_lt (tgt := 22) hx hb dX5_get_1 (by decide) (fun c1 => ?_) (fun c1 => ?_)
  · have h := g_it h c1
    refine lv_iconst (v := (-1)) hx hb dX5_get_22 (by decide) ?_
    exact ret dX5_get_23 rfl G ⟨Option.some.inj h, rfl⟩
  · have h := g_if h c1
    refine lv_iload_n hx hb dX5_get_4 rfl (lv_at hl 1 rfl) ?_
    refine lv_aload_n hx hb dX5_get_5 rfl (lv_at hl 0 rfl) ?_
    refine gg5_0 C G ok.1 ok.2.1 u_fl_RX5_15 dX5_get_6 ?_
    refine g_alen C G ok.2.2 dX5_get_9 ?_
    refine lv_icmp_ge (tgt := 22) hx hb dX5_get_10 (by decide) (fun c2 => ?_) (fun c2 => ?_)
    · have h := g_it h c2
      refine lv_iconst (v := (-1)) hx hb dX5_get_22 (by decide) ?_
      exact ret dX5_get_23 rfl G ⟨Option.some.inj h, rfl⟩
    · have h := g_if h c2
      refine lv_aload_n hx hb dX5_get_13 rfl (lv_at hl 0 rfl) ?_
      refine gg5_0 C G ok.1 ok.2.1 u_fl_RX5_15 dX5_get_14 ?_
      refine lv_iload_n hx hb dX5_get_17 rfl (lv_at hl 1 rfl) ?_
      obtain ⟨c3, h⟩ := g_chk h
      refine g_iald C G ok.2.2 c3 dX5_get_18 ?_
      refine lv_goto (tgt := 23) hx hb dX5_get_19 (by decide) ?_
      exact ret dX5_get_23 rfl G ⟨Option.some.inj h, rfl⟩

def fX4_lies (σ : gM) (t : Nat) (a1 : Int32) : Option (Int32) :=
  ((fX5_get σ (t + 1) a1).bind fun v1 =>
  (if v1 = (-1) then
    some 0
  else
    some 1))
set_option maxHeartbeats 4000000 in
set_option maxRecDepth 100000 in
theorem mX4_lies (l : Launch) (X : gX) (σ : gM) (t : Nat) (a1 : Int32) (r : Int32) (ok : gok4 X t) (h : fX4_lies σ t a1 = some r) : Met l yX4_lies (Cond.code yX4_lies cX4_lies 2 (some .boolean) :: gBig) ({ frames := 1, cells := 0, slots := 0, locals := 21 }) (gPc X σ [.ref (xN X + t), .int a1]) (gQi X σ r) 0 0 (xA X) := by
  refine g_meti (cc := cX4_lies) (maxL := 2) (own := RX4) (by decide) rfl rfl (Nat.le_of_ble_eq_true rfl) ?_
  intro p ev s m args below meth c Q C G ret ls hl
  obtain ⟨⟨hx, hb, hml, hown, hts⟩, hK⟩ := id C
  have hl : lv_has ls 2 [(0, .ref (xN X + t)), (1, .int a1)] := hl
  unfold fX4_lies at h
  refine lv_aload_n hx hb dX4_lies_0 rfl (lv_at hl 0 rfl) ?_
  refine gg4_0 C G ok.1 ok.2.1.1 u_fl_RX4_14 dX4_lies_1 ?_
  refine lv_iload_n hx hb dX4_lies_4 rfl (lv_at hl 1 rfl) ?_
  obtain ⟨v1, e_v1, h⟩ := g_bind h
  refine g_calli (g_runV (n := 1) (As := [.int a1]) (rest := []) C G (mX5_get l X σ (t + 1) a1 v1 ok.2.2.1 e_v1) ok.2.2.1.1.2 (gE_5 ok.2.2.1.1.1) rfl (g_goodV u_ml_RX4_37 u_im_yX5_get u_se_yX5_get u_in_RX5 u_co_yX5_get) rfl rfl rfl (by decide +kernel) ⟨Nat.le_of_ble_eq_true rfl, Nat.le_of_ble_eq_true rfl⟩ rfl hl.1 rfl (Nat.le_of_ble_eq_true rfl) dX4_lies_5 ⟨Nat.zero_le _, Nat.zero_le _⟩) G (fun H locs G => ?_)
  refine lv_iconst (v := (-1)) hx hb dX4_lies_8 (by decide) ?_
  refine lv_icmp_eq (tgt := 16) hx hb dX4_lies_9 (by decide) (fun c2 => ?_) (fun c2 => ?_)
  · have h := g_it h c2
    refine lv_iconst (v := 0) hx hb dX4_lies_16 (by decide) ?_
    exact ret dX4_lies_17 rfl G ⟨Option.some.inj h, rfl⟩
  · have h := g_if h c2
    refine lv_iconst (v := 1) hx hb dX4_lies_12 (by decide) ?_
    refine lv_goto (tgt := 17) hx hb dX4_lies_13 (by decide) ?_
    exact ret dX4_lies_17 rfl G ⟨Option.some.inj h, rfl⟩

def fX0_countLying_4 (σ : gM) (t : Nat) : Nat → Int32 → Int32 → Option (Int32)
  | 0, _, _ => none
  | n + 1, x1, x2 =>
    ((fX6_size σ (t + 1)).bind fun v1 =>
    (if v1 ≤ x2 then
      some x1
    else
      ((fX4_lies σ (t + 8) x2).bind fun v3 =>
      (if v3 = 0 then
        (gl (x2 + 1) fun w5 =>
        fX0_countLying_4 σ t n x1 w5)
      else
        (gl (x1 + 1) fun w6 =>
        (gl (x2 + 1) fun w7 =>
        fX0_countLying_4 σ t n w6 w7))))))

def fX0_countLying (σ : gM) (t : Nat) : Option (Int32) :=
  fX0_countLying_4 σ t gF 0 0
set_option maxHeartbeats 4000000 in
set_option maxRecDepth 100000 in
theorem mX0_countLying (l : Launch) (X : gX) (σ : gM) (t : Nat) (r : Int32) (ok : gok0 X t) (h : fX0_countLying σ t = some r) : Met l yX0_countLying (Cond.code yX0_countLying cX0_countLying 3 (some .int) :: gBig) ({ frames := 2, cells := 0, slots := 0, locals := 42 }) (gPc X σ [.ref (xN X + t)]) (gQi X σ r) 0 0 (xA X) := by
  refine g_meti (cc := cX0_countLying) (maxL := 3) (own := RX0) (by decide) rfl rfl (Nat.le_of_ble_eq_true rfl) ?_
  intro p ev s m args below meth c Q C G ret ls hl
  obtain ⟨⟨hx, hb, hml, hown, hts⟩, hK⟩ := id C
  have hl : lv_has ls 3 [(0, .ref (xN X + t))] := hl
  have L4 : ∀ (n : Nat) (H : Heap) (locs : List Loc) (ls : Array Slot) (x1 : Int32) (x2 : Int32), gG X σ s H locs → lv_has ls 3 [(0, .ref (xN X + t)), (1, .int x1), (2, .int x2)] → fX0_countLying_4 σ t n x1 x2 = some r → W p l ev ({ frames := 2, cells := 0, slots := 0, locals := 42 }) s m args below meth c H locs 0 0 Q (F0 m 4 ls []) := by
    intro n
    induction n with
    | zero =>
      intro H locs ls x1 x2 G hl h
      rw [fX0_countLying_4] at h
      cases h
    | succ n ih =>
      intro H locs ls x1 x2 G hl h
      rw [fX0_countLying_4] at h
      refine lv_iload_n hx hb dX0_countLying_4 rfl (lv_at hl 2 rfl) ?_
      refine lv_aload_n hx hb dX0_countLying_5 rfl (lv_at hl 0 rfl) ?_
      refine gg0_0 C G ok.1 ok.2.1.1 u_fl_RX0_12 dX0_countLying_6 ?_
      obtain ⟨v1, e_v1, h⟩ := g_bind h
      refine g_calli (g_runV (n := 0) (As := []) (rest := [.int x2]) C G (mX6_size l X σ (t + 1) v1 ok.2.2.1 e_v1) ok.2.2.1.1.2 (gE_6 ok.2.2.1.1.1) rfl (g_goodV u_ml_RX0_37 u_im_yX6_size u_se_yX6_size u_in_RX6 u_co_yX6_size) rfl rfl rfl (by decide +kernel) ⟨Nat.le_of_ble_eq_true rfl, Nat.le_of_ble_eq_true rfl⟩ rfl hl.1 rfl (Nat.le_of_ble_eq_true rfl) dX0_countLying_9 ⟨Nat.zero_le _, Nat.zero_le _⟩) G (fun H locs G => ?_)
      refine lv_icmp_ge (tgt := 35) hx hb dX0_countLying_12 (by decide) (fun c2 => ?_) (fun c2 => ?_)
      · have h := g_it h c2
        refine lv_iload_n hx hb dX0_countLying_35 rfl (lv_at hl 1 rfl) ?_
        exact ret dX0_countLying_36 rfl G ⟨Option.some.inj h, rfl⟩
      · have h := g_if h c2
        refine lv_aload_n hx hb dX0_countLying_15 rfl (lv_at hl 0 rfl) ?_
        refine gg0_1 C G ok.1 ok.2.1.2 u_fl_RX0_21 dX0_countLying_16 ?_
        refine lv_iload_n hx hb dX0_countLying_19 rfl (lv_at hl 2 rfl) ?_
        obtain ⟨v3, e_v3, h⟩ := g_bind h
        refine g_calli (g_runV (n := 1) (As := [.int x2]) (rest := []) C G (mX4_lies l X σ (t + 8) x2 v3 ok.2.2.2 e_v3) ok.2.2.2.1.2 (gE_4 ok.2.2.2.1.1) rfl (g_goodV u_ml_RX0_41 u_im_yX4_lies u_se_yX4_lies u_in_RX4 u_co_yX4_lies) rfl rfl rfl (by decide +kernel) ⟨Nat.le_of_ble_eq_true rfl, Nat.le_of_ble_eq_true rfl⟩ rfl hl.1 rfl (Nat.le_of_ble_eq_true rfl) dX0_countLying_20 ⟨Nat.zero_le _, Nat.zero_le _⟩) G (fun H locs G => ?_)
        refine lv_if_eq (tgt := 29) hx hb dX0_countLying_23 (by decide) (fun c4 => ?_) (fun c4 => ?_)
        · have h := g_it h c4
          obtain ⟨w5, e_w5⟩ : ∃ y : Int32, y = x2 + 1 := ⟨_, rfl⟩
          have h := g_let2 e_w5 h
          refine lv_iinc (v := w5) (lv' := [(2, .int w5), (0, .ref (xN X + t)), (1, .int x1)]) hx hb dX0_countLying_29 hl (k := 2) rfl (by rw [e_w5]; rfl) (by decide) rfl (fun ls hl => ?_)
          refine lv_goto (tgt := 4) hx hb dX0_countLying_32 (by decide) ?_
          exact ih _ _ _ x1 w5 G (lv_sub hl [1, 2, 0] rfl) h
        · have h := g_if h c4
          obtain ⟨w6, e_w6⟩ : ∃ y : Int32, y = x1 + 1 := ⟨_, rfl⟩
          have h := g_let2 e_w6 h
          refine lv_iinc (v := w6) (lv' := [(1, .int w6), (0, .ref (xN X + t)), (2, .int x2)]) hx hb dX0_countLying_26 hl (k := 1) rfl (by rw [e_w6]; rfl) (by decide) rfl (fun ls hl => ?_)
          obtain ⟨w7, e_w7⟩ : ∃ y : Int32, y = x2 + 1 := ⟨_, rfl⟩
          have h := g_let2 e_w7 h
          refine lv_iinc (v := w7) (lv' := [(2, .int w7), (1, .int w6), (0, .ref (xN X + t))]) hx hb dX0_countLying_29 hl (k := 2) rfl (by rw [e_w7]; rfl) (by decide) rfl (fun ls hl => ?_)
          refine lv_goto (tgt := 4) hx hb dX0_countLying_32 (by decide) ?_
          exact ih _ _ _ w6 w7 G (lv_sub hl [2, 1, 0] rfl) h
  unfold fX0_countLying at h
  refine lv_iconst (v := 0) hx hb dX0_countLying_0 (by decide) ?_
  refine lv_istore_n (lv' := [(1, .int 0), (0, .ref (xN X + t))]) hx hb dX0_countLying_1 rfl hl (by decide) rfl (fun ls hl => ?_)
  refine lv_iconst (v := 0) hx hb dX0_countLying_2 (by decide) ?_
  refine lv_istore_n (lv' := [(2, .int 0), (1, .int 0), (0, .ref (xN X + t))]) hx hb dX0_countLying_3 rfl hl (by decide) rfl (fun ls hl => ?_)
  exact L4  gF _ _ _ 0 0 G (lv_sub hl [2, 1, 0] rfl) h

def fX3_state (σ : gM) (t : Nat) (a1 : Int32) : Option ((Option Nat)) :=
  (gl (((σ t 1) + a1) - ((σ t 1) + a1) / 5 * 5) fun w1 =>
  (if a1 < 0 then
    some none
  else
    (if w1 < 0 then
      some none
    else
      (if (nI (gln (t + 1))) ≤ w1 then
        some none
      else
        (if ¬ (w1 < 0 ∨ gln (t + 1) ≤ w1.toNatClampNeg) then
        some (some ((t + 1) + (1 + 15 * w1.toNatClampNeg)))
        else none)))))
set_option maxHeartbeats 4000000 in
set_option maxRecDepth 100000 in
theorem mX3_state (l : Launch) (X : gX) (σ : gM) (t : Nat) (a1 : Int32) (r : Option Nat) (ok : gok3 X t) (h : fX3_state σ t a1 = some r) : Met l yX3_state (Cond.code yX3_state cX3_state 3 (some (.object "TornPages$Desk")) :: gBig) ({ frames := 0, cells := 0, slots := 0, locals := 0 }) (gPc X σ [.ref (xN X + t), .int a1]) (gQr X σ r) 0 0 (xA X) := by
  refine g_metr (cc := cX3_state) (maxL := 3) (own := RX3) (by decide) rfl rfl (Nat.le_of_ble_eq_true rfl) ?_
  intro p ev s m args below meth c Q C G ret ls hl
  obtain ⟨⟨hx, hb, hml, hown, hts⟩, hK⟩ := id C
  have hl : lv_has ls 3 [(0, .ref (xN X + t)), (1, .int a1)] := hl
  unfold fX3_state at h
  refine lv_aload_n hx hb dX3_state_0 rfl (lv_at hl 0 rfl) ?_
  refine gg3_1 C G ok.1 u_fl_RX3_22 dX3_state_1 ?_
  refine lv_iload_n hx hb dX3_state_4 rfl (lv_at hl 1 rfl) ?_
  refine lv_iadd hx hb dX3_state_5 ?_
  refine lv_iconst (v := 5) hx hb dX3_state_6 (by decide) ?_
  refine lv_irem hx hb dX3_state_7 (by decide) ?_
  refine lv_topi (fun w1 e_w1 => ?_)
  have h := g_let2 e_w1 h
  refine lv_istore_n (lv' := [(2, .int w1), (0, .ref (xN X + t)), (1, .int a1)]) hx hb dX3_state_8 rfl hl (by decide) rfl (fun ls hl => ?_)
  refine lv_iload_n hx hb dX3_state_9 rfl (lv_at hl 2 rfl) ?_
  refine lv_if_lt (tgt := 35) hx hb dX3_state_10 (by decide) (fun c2 => ?_) (fun c2 => ?_)
  · have h := g_it h c2
    refine lv_null hx hb dX3_state_35 ?_
    exact ret (v := none) dX3_state_36 G ⟨Option.some.inj h, rfl⟩
  · have h := g_if h c2
    refine lv_iload_n hx hb dX3_state_13 rfl (lv_at hl 0 rfl) ?_
    refine lv_if_lt (tgt := 35) hx hb dX3_state_14 (by decide) (fun c3 => ?_) (fun c3 => ?_)
    · have h := g_it h c3
      refine lv_null hx hb dX3_state_35 ?_
      exact ret (v := none) dX3_state_36 G ⟨Option.some.inj h, rfl⟩
    · have h := g_if h c3
      refine lv_iload_n hx hb dX3_state_17 rfl (lv_at hl 0 rfl) ?_
      refine lv_aload_n hx hb dX3_state_18 rfl (lv_at hl 1 rfl) ?_
      refine gg3_0 C G ok.1 ok.2.1 u_fl_RX3_11 dX3_state_19 ?_
      refine g_qlen C G ok.2.2.1 dX3_state_22 ?_
      refine lv_icmp_ge (tgt := 35) hx hb dX3_state_23 (by decide) (fun c4 => ?_) (fun c4 => ?_)
      · have h := g_it h c4
        refine lv_null hx hb dX3_state_35 ?_
        exact ret (v := none) dX3_state_36 G ⟨Option.some.inj h, rfl⟩
      · have h := g_if h c4
        refine lv_aload_n hx hb dX3_state_26 rfl (lv_at hl 1 rfl) ?_
        refine gg3_0 C G ok.1 ok.2.1 u_fl_RX3_11 dX3_state_27 ?_
        refine lv_iload_n hx hb dX3_state_30 rfl (lv_at hl 0 rfl) ?_
        obtain ⟨c5, h⟩ := g_chk h
        refine g_aald C G ok.2.2.1 c5 ok.2.2.2.1 dX3_state_31 ?_
        refine lv_goto (tgt := 36) hx hb dX3_state_32 (by decide) ?_
        exact ret (v := (some ((t + 1) + (1 + 15 * w1.toNatClampNeg)))) dX3_state_36 G ⟨Option.some.inj h, rfl⟩
theorem okX3_state {X : gX} {σ : gM} {t k : Nat} {a1 : Int32} (ok : gok3 X t) (h : fX3_state σ t a1 = some (some k)) : gok0 X k := by
  unfold fX3_state at h
  obtain ⟨w, -, h⟩ := g_let h
  by_cases c1 : a1 < 0
  · have h := g_it h c1
    cases h
  · have h := g_if h c1
    by_cases c2 : w < 0
    · have h := g_it h c2
      cases h
    · have h := g_if h c2
      by_cases c3 : nI (gln (t + 1)) ≤ w
      · have h := g_it h c3
        cases h
      · have h := g_if h c3
        obtain ⟨c4, h⟩ := g_chk h
        have e := Option.some.inj (Option.some.inj h)
        rw [← e]
        exact ok.2.2.2.2 _ (g_lt c4)

def fX5_copy (σ : gM) (t : Nat) (o1 : Nat) : Option (gM) :=
  (gl (if (nI (gln (o1 + 1))) < (nI (gln (t + 1))) then (nI (gln (o1 + 1))) else (nI (gln (t + 1)))) fun w1 =>
  (if ¬ (0 : Int32) < 0 ∧ ¬ (0 : Int32) < 0 ∧ ¬ w1 < 0 ∧ (0 : Int32).toNatClampNeg + w1.toNatClampNeg ≤ gln (o1 + 1) ∧ (0 : Int32).toNatClampNeg + w1.toNatClampNeg ≤ gln (t + 1) then
  (gl (gset σ (t + 1) (va_cpy (σ (o1 + 1)) (σ (t + 1)) (0 : Int32).toNatClampNeg (0 : Int32).toNatClampNeg w1.toNatClampNeg)) fun σ3 =>
  some σ3)
  else none))
set_option maxHeartbeats 4000000 in
set_option maxRecDepth 100000 in
theorem mX5_copy (l : Launch) (X : gX) (σ σ' : gM) (t : Nat) (o1 : Nat) (ok : gok5 X t) (ok1 : gok5 X o1) (h : fX5_copy σ t o1 = some σ') : Met l yX5_copy (Cond.code yX5_copy cX5_copy 3 none :: gBig) ({ frames := 1, cells := 0, slots := 0, locals := 64 }) (gPc X σ [.ref (xN X + t), .ref (xN X + o1)]) (gQv X σ') 0 0 (xA X) := by
  refine g_metv (cc := cX5_copy) (maxL := 3) (own := RX5) (by decide) rfl rfl (Nat.le_of_ble_eq_true rfl) ?_
  intro p ev s m args below meth c Q C G ret ls hl
  obtain ⟨⟨hx, hb, hml, hown, hts⟩, hK⟩ := id C
  have hl : lv_has ls 3 [(0, .ref (xN X + t)), (1, .ref (xN X + o1))] := hl
  unfold fX5_copy at h
  refine lv_aload_n hx hb dX5_copy_0 rfl (lv_at hl 0 rfl) ?_
  refine gg5_0 C G ok.1 ok.2.1 u_fl_RX5_15 dX5_copy_1 ?_
  refine g_alen C G ok.2.2 dX5_copy_4 ?_
  refine lv_aload_n hx hb dX5_copy_5 rfl (lv_at hl 1 rfl) ?_
  refine gg5_0 C G ok1.1 ok1.2.1 u_fl_RX5_15 dX5_copy_6 ?_
  refine g_alen C G ok1.2.2 dX5_copy_9 ?_
  refine g_min C hl.1 u_ml_RX5_27 u_st_Lib_Math_min_name u_in_java_lang_Math u_co_Lib_Math_min_name (Nat.le_of_ble_eq_true rfl) (Nat.le_of_ble_eq_true rfl) (Nat.zero_le _) (Nat.zero_le _) dX5_copy_10 ?_
  refine lv_topi (fun w1 e_w1 => ?_)
  have h := g_let2 e_w1 h
  refine lv_istore_n (lv' := [(2, .int w1), (0, .ref (xN X + t)), (1, .ref (xN X + o1))]) hx hb dX5_copy_13 rfl hl (by decide) rfl (fun ls hl => ?_)
  refine lv_aload_n hx hb dX5_copy_14 rfl (lv_at hl 2 rfl) ?_
  refine gg5_0 C G ok1.1 ok1.2.1 u_fl_RX5_15 dX5_copy_15 ?_
  refine lv_iconst (v := 0) hx hb dX5_copy_18 (by decide) ?_
  refine lv_aload_n hx hb dX5_copy_19 rfl (lv_at hl 1 rfl) ?_
  refine gg5_0 C G ok.1 ok.2.1 u_fl_RX5_15 dX5_copy_20 ?_
  refine lv_iconst (v := 0) hx hb dX5_copy_23 (by decide) ?_
  refine lv_iload_n hx hb dX5_copy_24 rfl (lv_at hl 0 rfl) ?_
  obtain ⟨c2, h⟩ := g_chk h
  obtain ⟨σ3, e_σ3, h⟩ := g_let h
  refine g_copy C G ok1.2.2 ok.2.2 hl.1 u_ml_RX5_30 u_na_arraycopyName u_st_arraycopyName u_in_java_lang_System c2 (Nat.le_of_ble_eq_true rfl) (Nat.le_of_ble_eq_true rfl) dX5_copy_25 (fun H locs G => ?_)
  rw [e_σ3] at G
  exact ret dX5_copy_28 G (Option.some.inj h)

def fX6_copy (σ : gM) (t : Nat) (o1 : Nat) : Option (gM) :=
  ((fX5_copy σ (t + 1) (o1 + 1)).bind fun σ2 =>
  ((fX5_copy σ2 (t + 3) (o1 + 3)).bind fun σ4 =>
  ((fX5_copy σ4 (t + 5) (o1 + 5)).bind fun σ6 =>
  (gl (gset σ6 t (upd (σ6 t) 3 (σ6 o1 3))) fun σ7 =>
  some σ7))))
set_option maxHeartbeats 4000000 in
set_option maxRecDepth 100000 in
theorem mX6_copy (l : Launch) (X : gX) (σ σ' : gM) (t : Nat) (o1 : Nat) (ok : gok6 X t) (ok1 : gok6 X o1) (h : fX6_copy σ t o1 = some σ') : Met l yX6_copy (Cond.code yX6_copy cX6_copy 2 none :: gBig) ({ frames := 2, cells := 0, slots := 0, locals := 86 }) (gPc X σ [.ref (xN X + t), .ref (xN X + o1)]) (gQv X σ') 0 0 (xA X) := by
  refine g_metv (cc := cX6_copy) (maxL := 2) (own := RX6) (by decide) rfl rfl (Nat.le_of_ble_eq_true rfl) ?_
  intro p ev s m args below meth c Q C G ret ls hl
  obtain ⟨⟨hx, hb, hml, hown, hts⟩, hK⟩ := id C
  have hl : lv_has ls 2 [(0, .ref (xN X + t)), (1, .ref (xN X + o1))] := hl
  unfold fX6_copy at h
  refine lv_aload_n hx hb dX6_copy_0 rfl (lv_at hl 0 rfl) ?_
  refine gg6_0 C G ok.1 ok.2.1.1 u_fl_RX6_14 dX6_copy_1 ?_
  refine lv_aload_n hx hb dX6_copy_4 rfl (lv_at hl 1 rfl) ?_
  refine gg6_0 C G ok1.1 ok1.2.1.1 u_fl_RX6_14 dX6_copy_5 ?_
  obtain ⟨σ2, e_σ2, h⟩ := g_bind h
  refine g_callv (g_runV (n := 1) (As := [.ref (xN X + (o1 + 1))]) (rest := []) C G (mX5_copy l X σ σ2 (t + 1) (o1 + 1) ok.2.2.1 ok1.2.2.1 e_σ2) ok.2.2.1.1.2 (gE_5 ok.2.2.1.1.1) rfl (g_goodV u_ml_RX6_54 u_im_yX5_copy u_se_yX5_copy u_in_RX5 u_co_yX5_copy) rfl rfl rfl (by decide +kernel) ⟨Nat.le_of_ble_eq_true rfl, Nat.le_of_ble_eq_true rfl⟩ rfl hl.1 rfl (Nat.le_of_ble_eq_true rfl) dX6_copy_8 ⟨Nat.zero_le _, Nat.zero_le _⟩) G (fun H locs G => ?_)
  refine lv_aload_n hx hb dX6_copy_11 rfl (lv_at hl 0 rfl) ?_
  refine gg6_1 C G ok.1 ok.2.1.2.1 u_fl_RX6_20 dX6_copy_12 ?_
  refine lv_aload_n hx hb dX6_copy_15 rfl (lv_at hl 1 rfl) ?_
  refine gg6_1 C G ok1.1 ok1.2.1.2.1 u_fl_RX6_20 dX6_copy_16 ?_
  obtain ⟨σ4, e_σ4, h⟩ := g_bind h
  refine g_callv (g_runV (n := 1) (As := [.ref (xN X + (o1 + 3))]) (rest := []) C G (mX5_copy l X σ2 σ4 (t + 3) (o1 + 3) ok.2.2.2.1 ok1.2.2.2.1 e_σ4) ok.2.2.2.1.1.2 (gE_5 ok.2.2.2.1.1.1) rfl (g_goodV u_ml_RX6_54 u_im_yX5_copy u_se_yX5_copy u_in_RX5 u_co_yX5_copy) rfl rfl rfl (by decide +kernel) ⟨Nat.le_of_ble_eq_true rfl, Nat.le_of_ble_eq_true rfl⟩ rfl hl.1 rfl (Nat.le_of_ble_eq_true rfl) dX6_copy_19 ⟨Nat.zero_le _, Nat.zero_le _⟩) G (fun H locs G => ?_)
  refine lv_aload_n hx hb dX6_copy_22 rfl (lv_at hl 0 rfl) ?_
  refine gg6_2 C G ok.1 ok.2.1.2.2 u_fl_RX6_23 dX6_copy_23 ?_
  refine lv_aload_n hx hb dX6_copy_26 rfl (lv_at hl 1 rfl) ?_
  refine gg6_2 C G ok1.1 ok1.2.1.2.2 u_fl_RX6_23 dX6_copy_27 ?_
  obtain ⟨σ6, e_σ6, h⟩ := g_bind h
  refine g_callv (g_runV (n := 1) (As := [.ref (xN X + (o1 + 5))]) (rest := []) C G (mX5_copy l X σ4 σ6 (t + 5) (o1 + 5) ok.2.2.2.2 ok1.2.2.2.2 e_σ6) ok.2.2.2.2.1.2 (gE_5 ok.2.2.2.2.1.1) rfl (g_goodV u_ml_RX6_54 u_im_yX5_copy u_se_yX5_copy u_in_RX5 u_co_yX5_copy) rfl rfl rfl (by decide +kernel) ⟨Nat.le_of_ble_eq_true rfl, Nat.le_of_ble_eq_true rfl⟩ rfl hl.1 rfl (Nat.le_of_ble_eq_true rfl) dX6_copy_30 ⟨Nat.zero_le _, Nat.zero_le _⟩) G (fun H locs G => ?_)
  refine lv_aload_n hx hb dX6_copy_33 rfl (lv_at hl 0 rfl) ?_
  refine lv_aload_n hx hb dX6_copy_34 rfl (lv_at hl 1 rfl) ?_
  refine gg6_3 C G ok1.1 u_fl_RX6_26 dX6_copy_35 ?_
  obtain ⟨σ7, e_σ7, h⟩ := g_let h
  refine gp6_3 C G ok.1 u_fl_RX6_26 dX6_copy_38 (fun H locs G => ?_)
  rw [e_σ7] at G
  exact ret dX6_copy_41 G (Option.some.inj h)

def fX4_copy (σ : gM) (t : Nat) (o1 : Nat) : Option (gM) :=
  (gl (gset σ t (upd (σ t) 3 (σ o1 3))) fun σ1 =>
  (gl (gset σ1 t (upd (σ1 t) 4 (σ1 o1 4))) fun σ2 =>
  ((fX5_copy σ2 (t + 1) (o1 + 1)).bind fun σ4 =>
  ((fX5_copy σ4 (t + 3) (o1 + 3)).bind fun σ6 =>
  ((fX5_copy σ6 (t + 5) (o1 + 5)).bind fun σ8 =>
  some σ8)))))
set_option maxHeartbeats 4000000 in
set_option maxRecDepth 100000 in
theorem mX4_copy (l : Launch) (X : gX) (σ σ' : gM) (t : Nat) (o1 : Nat) (ok : gok4 X t) (ok1 : gok4 X o1) (h : fX4_copy σ t o1 = some σ') : Met l yX4_copy (Cond.code yX4_copy cX4_copy 2 none :: gBig) ({ frames := 2, cells := 0, slots := 0, locals := 86 }) (gPc X σ [.ref (xN X + t), .ref (xN X + o1)]) (gQv X σ') 0 0 (xA X) := by
  refine g_metv (cc := cX4_copy) (maxL := 2) (own := RX4) (by decide) rfl rfl (Nat.le_of_ble_eq_true rfl) ?_
  intro p ev s m args below meth c Q C G ret ls hl
  obtain ⟨⟨hx, hb, hml, hown, hts⟩, hK⟩ := id C
  have hl : lv_has ls 2 [(0, .ref (xN X + t)), (1, .ref (xN X + o1))] := hl
  unfold fX4_copy at h
  refine lv_aload_n hx hb dX4_copy_0 rfl (lv_at hl 0 rfl) ?_
  refine lv_aload_n hx hb dX4_copy_1 rfl (lv_at hl 1 rfl) ?_
  refine gg4_3 C G ok1.1 u_fl_RX4_30 dX4_copy_2 ?_
  obtain ⟨σ1, e_σ1, h⟩ := g_let h
  refine gp4_3 C G ok.1 u_fl_RX4_30 dX4_copy_5 (fun H locs G => ?_)
  rw [e_σ1] at G
  refine lv_aload_n hx hb dX4_copy_8 rfl (lv_at hl 0 rfl) ?_
  refine lv_aload_n hx hb dX4_copy_9 rfl (lv_at hl 1 rfl) ?_
  refine gg4_4 C G ok1.1 u_fl_RX4_34 dX4_copy_10 ?_
  obtain ⟨σ2, e_σ2, h⟩ := g_let h
  refine gp4_4 C G ok.1 u_fl_RX4_34 dX4_copy_13 (fun H locs G => ?_)
  rw [e_σ2] at G
  refine lv_aload_n hx hb dX4_copy_16 rfl (lv_at hl 0 rfl) ?_
  refine gg4_0 C G ok.1 ok.2.1.1 u_fl_RX4_14 dX4_copy_17 ?_
  refine lv_aload_n hx hb dX4_copy_20 rfl (lv_at hl 1 rfl) ?_
  refine gg4_0 C G ok1.1 ok1.2.1.1 u_fl_RX4_14 dX4_copy_21 ?_
  obtain ⟨σ4, e_σ4, h⟩ := g_bind h
  refine g_callv (g_runV (n := 1) (As := [.ref (xN X + (o1 + 1))]) (rest := []) C G (mX5_copy l X σ2 σ4 (t + 1) (o1 + 1) ok.2.2.1 ok1.2.2.1 e_σ4) ok.2.2.1.1.2 (gE_5 ok.2.2.1.1.1) rfl (g_goodV u_ml_RX4_50 u_im_yX5_copy u_se_yX5_copy u_in_RX5 u_co_yX5_copy) rfl rfl rfl (by decide +kernel) ⟨Nat.le_of_ble_eq_true rfl, Nat.le_of_ble_eq_true rfl⟩ rfl hl.1 rfl (Nat.le_of_ble_eq_true rfl) dX4_copy_24 ⟨Nat.zero_le _, Nat.zero_le _⟩) G (fun H locs G => ?_)
  refine lv_aload_n hx hb dX4_copy_27 rfl (lv_at hl 0 rfl) ?_
  refine gg4_1 C G ok.1 ok.2.1.2.1 u_fl_RX4_20 dX4_copy_28 ?_
  refine lv_aload_n hx hb dX4_copy_31 rfl (lv_at hl 1 rfl) ?_
  refine gg4_1 C G ok1.1 ok1.2.1.2.1 u_fl_RX4_20 dX4_copy_32 ?_
  obtain ⟨σ6, e_σ6, h⟩ := g_bind h
  refine g_callv (g_runV (n := 1) (As := [.ref (xN X + (o1 + 3))]) (rest := []) C G (mX5_copy l X σ4 σ6 (t + 3) (o1 + 3) ok.2.2.2.1 ok1.2.2.2.1 e_σ6) ok.2.2.2.1.1.2 (gE_5 ok.2.2.2.1.1.1) rfl (g_goodV u_ml_RX4_50 u_im_yX5_copy u_se_yX5_copy u_in_RX5 u_co_yX5_copy) rfl rfl rfl (by decide +kernel) ⟨Nat.le_of_ble_eq_true rfl, Nat.le_of_ble_eq_true rfl⟩ rfl hl.1 rfl (Nat.le_of_ble_eq_true rfl) dX4_copy_35 ⟨Nat.zero_le _, Nat.zero_le _⟩) G (fun H locs G => ?_)
  refine lv_aload_n hx hb dX4_copy_38 rfl (lv_at hl 0 rfl) ?_
  refine gg4_2 C G ok.1 ok.2.1.2.2 u_fl_RX4_23 dX4_copy_39 ?_
  refine lv_aload_n hx hb dX4_copy_42 rfl (lv_at hl 1 rfl) ?_
  refine gg4_2 C G ok1.1 ok1.2.1.2.2 u_fl_RX4_23 dX4_copy_43 ?_
  obtain ⟨σ8, e_σ8, h⟩ := g_bind h
  refine g_callv (g_runV (n := 1) (As := [.ref (xN X + (o1 + 5))]) (rest := []) C G (mX5_copy l X σ6 σ8 (t + 5) (o1 + 5) ok.2.2.2.2 ok1.2.2.2.2 e_σ8) ok.2.2.2.2.1.2 (gE_5 ok.2.2.2.2.1.1) rfl (g_goodV u_ml_RX4_50 u_im_yX5_copy u_se_yX5_copy u_in_RX5 u_co_yX5_copy) rfl rfl rfl (by decide +kernel) ⟨Nat.le_of_ble_eq_true rfl, Nat.le_of_ble_eq_true rfl⟩ rfl hl.1 rfl (Nat.le_of_ble_eq_true rfl) dX4_copy_46 ⟨Nat.zero_le _, Nat.zero_le _⟩) G (fun H locs G => ?_)
  exact ret dX4_copy_49 G (Option.some.inj h)

def fX0_copy (σ : gM) (t : Nat) (o1 : Nat) : Option (gM) :=
  ((fX6_copy σ (t + 1) (o1 + 1)).bind fun σ2 =>
  ((fX4_copy σ2 (t + 8) (o1 + 8)).bind fun σ4 =>
  some σ4))
set_option maxHeartbeats 4000000 in
set_option maxRecDepth 100000 in
theorem mX0_copy (l : Launch) (X : gX) (σ σ' : gM) (t : Nat) (o1 : Nat) (ok : gok0 X t) (ok1 : gok0 X o1) (h : fX0_copy σ t o1 = some σ') : Met l yX0_copy (Cond.code yX0_copy cX0_copy 2 none :: gBig) ({ frames := 3, cells := 0, slots := 0, locals := 107 }) (gPc X σ [.ref (xN X + t), .ref (xN X + o1)]) (gQv X σ') 0 0 (xA X) := by
  refine g_metv (cc := cX0_copy) (maxL := 2) (own := RX0) (by decide) rfl rfl (Nat.le_of_ble_eq_true rfl) ?_
  intro p ev s m args below meth c Q C G ret ls hl
  obtain ⟨⟨hx, hb, hml, hown, hts⟩, hK⟩ := id C
  have hl : lv_has ls 2 [(0, .ref (xN X + t)), (1, .ref (xN X + o1))] := hl
  unfold fX0_copy at h
  refine lv_aload_n hx hb dX0_copy_0 rfl (lv_at hl 0 rfl) ?_
  refine gg0_0 C G ok.1 ok.2.1.1 u_fl_RX0_12 dX0_copy_1 ?_
  refine lv_aload_n hx hb dX0_copy_4 rfl (lv_at hl 1 rfl) ?_
  refine gg0_0 C G ok1.1 ok1.2.1.1 u_fl_RX0_12 dX0_copy_5 ?_
  obtain ⟨σ2, e_σ2, h⟩ := g_bind h
  refine g_callv (g_runV (n := 1) (As := [.ref (xN X + (o1 + 1))]) (rest := []) C G (mX6_copy l X σ σ2 (t + 1) (o1 + 1) ok.2.2.1 ok1.2.2.1 e_σ2) ok.2.2.1.1.2 (gE_6 ok.2.2.1.1.1) rfl (g_goodV u_ml_RX0_25 u_im_yX6_copy u_se_yX6_copy u_in_RX6 u_co_yX6_copy) rfl rfl rfl (by decide +kernel) ⟨Nat.le_of_ble_eq_true rfl, Nat.le_of_ble_eq_true rfl⟩ rfl hl.1 rfl (Nat.le_of_ble_eq_true rfl) dX0_copy_8 ⟨Nat.zero_le _, Nat.zero_le _⟩) G (fun H locs G => ?_)
  refine lv_aload_n hx hb dX0_copy_11 rfl (lv_at hl 0 rfl) ?_
  refine gg0_1 C G ok.1 ok.2.1.2 u_fl_RX0_21 dX0_copy_12 ?_
  refine lv_aload_n hx hb dX0_copy_15 rfl (lv_at hl 1 rfl) ?_
  refine gg0_1 C G ok1.1 ok1.2.1.2 u_fl_RX0_21 dX0_copy_16 ?_
  obtain ⟨σ4, e_σ4, h⟩ := g_bind h
  refine g_callv (g_runV (n := 1) (As := [.ref (xN X + (o1 + 8))]) (rest := []) C G (mX4_copy l X σ2 σ4 (t + 8) (o1 + 8) ok.2.2.2 ok1.2.2.2 e_σ4) ok.2.2.2.1.2 (gE_4 ok.2.2.2.1.1) rfl (g_goodV u_ml_RX0_29 u_im_yX4_copy u_se_yX4_copy u_in_RX4 u_co_yX4_copy) rfl rfl rfl (by decide +kernel) ⟨Nat.le_of_ble_eq_true rfl, Nat.le_of_ble_eq_true rfl⟩ rfl hl.1 rfl (Nat.le_of_ble_eq_true rfl) dX0_copy_19 ⟨Nat.zero_le _, Nat.zero_le _⟩) G (fun H locs G => ?_)
  exact ret dX0_copy_22 G (Option.some.inj h)

def fX3_keep (σ : gM) (t : Nat) (o1 : Nat) : Option (gM) :=
  (if (σ t 2) < 5 then
    ((fX3_state σ t (σ t 2)).bind fun v2 =>
    (go v2 (
      some σ)
      fun k3 =>
      ((fX0_copy σ k3 o1).bind fun σ5 =>
      (gl (gset σ5 t (upd (σ5 t) 2 ((σ5 t 2) + 1))) fun σ6 =>
      some σ6))))
  else
    (gl (gset σ t (upd (σ t) 1 (((σ t 1) + 1) - ((σ t 1) + 1) / 5 * 5))) fun σ7 =>
    (gl (gset σ7 t (upd (σ7 t) 2 ((σ7 t 2) - 1))) fun σ8 =>
    ((fX3_state σ8 t (σ8 t 2)).bind fun v9 =>
    (go v9 (
      some σ8)
      fun k10 =>
      ((fX0_copy σ8 k10 o1).bind fun σ12 =>
      (gl (gset σ12 t (upd (σ12 t) 2 ((σ12 t 2) + 1))) fun σ13 =>
      some σ13)))))))
set_option maxHeartbeats 4000000 in
set_option maxRecDepth 100000 in
theorem mX3_keep (l : Launch) (X : gX) (σ σ' : gM) (t : Nat) (o1 : Nat) (ok : gok3 X t) (ok1 : gok0 X o1) (h : fX3_keep σ t o1 = some σ') : Met l yX3_keep (Cond.code yX3_keep cX3_keep 3 none :: gBig) ({ frames := 4, cells := 0, slots := 0, locals := 128 }) (gPc X σ [.ref (xN X + t), .ref (xN X + o1)]) (gQv X σ') 0 0 (xA X) := by
  refine g_metv (cc := cX3_keep) (maxL := 3) (own := RX3) (by decide) rfl rfl (Nat.le_of_ble_eq_true rfl) ?_
  intro p ev s m args below meth c Q C G ret ls hl
  obtain ⟨⟨hx, hb, hml, hown, hts⟩, hK⟩ := id C
  have hl : lv_has ls 3 [(0, .ref (xN X + t)), (1, .ref (xN X + o1))] := hl
  unfold fX3_keep at h
  refine lv_aload_n hx hb dX3_keep_0 rfl (lv_at hl 0 rfl) ?_
  refine gg3_2 C G ok.1 u_fl_RX3_18 dX3_keep_1 ?_
  refine lv_iconst (v := 5) hx hb dX3_keep_4 (by decide) ?_
  refine lv_icmp_lt (tgt := 30) hx hb dX3_keep_5 (by decide) (fun c1 => ?_) (fun c1 => ?_)
  · have h := g_it h c1
    refine lv_aload_n hx hb dX3_keep_30 rfl (lv_at hl 0 rfl) ?_
    refine lv_aload_n hx hb dX3_keep_31 rfl (lv_at hl 0 rfl) ?_
    refine gg3_2 C G ok.1 u_fl_RX3_18 dX3_keep_32 ?_
    obtain ⟨v2, e_v2, h⟩ := g_bind h
    refine g_callr (g_runV (n := 1) (As := [.int (σ t 2)]) (rest := []) C G (mX3_state l X σ t (σ t 2) v2 ok e_v2) ok.1.2 (gE_3 ok.1.1) rfl (g_goodV u_ml_RX3_25 u_im_yX3_state u_se_yX3_state u_in_RX3 u_co_yX3_state) rfl rfl rfl (by decide +kernel) ⟨Nat.le_of_ble_eq_true rfl, Nat.le_of_ble_eq_true rfl⟩ rfl hl.1 rfl (Nat.le_of_ble_eq_true rfl) dX3_keep_35 ⟨Nat.zero_le _, Nat.zero_le _⟩) G (fun H locs G => ?_)
    cases v2 with
    | none =>
      have h := g_gon h
      refine lv_astore_nN (lv' := [(2, .null), (0, .ref (xN X + t)), (1, .ref (xN X + o1))]) hx hb dX3_keep_38 rfl hl (by decide) rfl (fun ls hl => ?_)
      refine lv_aload_nN hx hb dX3_keep_39 rfl (lv_at hl 0 rfl) ?_
      refine lv_ifnullN (tgt := 58) hx hb dX3_keep_40 (by decide) ?_
      exact ret dX3_keep_58 G (Option.some.inj h)
    | some k3 =>
      have h := g_gos h
      have okk3 := okX3_state ok e_v2
      refine lv_astore_n (lv' := [(2, .ref (xN X + k3)), (0, .ref (xN X + t)), (1, .ref (xN X + o1))]) hx hb dX3_keep_38 rfl hl (by decide) rfl (fun ls hl => ?_)
      refine lv_aload_n hx hb dX3_keep_39 rfl (lv_at hl 0 rfl) ?_
      refine lv_ifnull hx hb dX3_keep_40 ?_
      refine lv_aload_n hx hb dX3_keep_43 rfl (lv_at hl 0 rfl) ?_
      refine lv_aload_n hx hb dX3_keep_44 rfl (lv_at hl 2 rfl) ?_
      obtain ⟨σ5, e_σ5, h⟩ := g_bind h
      refine g_callv (g_runV (n := 1) (As := [.ref (xN X + o1)]) (rest := []) C G (mX0_copy l X σ σ5 k3 o1 okk3 ok1 e_σ5) okk3.1.2 (gE_0 okk3.1.1) rfl (g_goodV u_ml_RX3_29 u_im_yX0_copy u_se_yX0_copy u_in_RX0 u_co_yX0_copy) rfl rfl rfl (by decide +kernel) ⟨Nat.le_of_ble_eq_true rfl, Nat.le_of_ble_eq_true rfl⟩ rfl hl.1 rfl (Nat.le_of_ble_eq_true rfl) dX3_keep_45 ⟨Nat.zero_le _, Nat.zero_le _⟩) G (fun H locs G => ?_)
      refine lv_aload_n hx hb dX3_keep_48 rfl (lv_at hl 1 rfl) ?_
      refine lv_dup hx hb dX3_keep_49 rfl ?_
      refine gg3_2 C G ok.1 u_fl_RX3_18 dX3_keep_50 ?_
      refine lv_iconst (v := 1) hx hb dX3_keep_53 (by decide) ?_
      refine lv_iadd hx hb dX3_keep_54 ?_
      obtain ⟨σ6, e_σ6, h⟩ := g_let h
      refine gp3_2 C G ok.1 u_fl_RX3_18 dX3_keep_55 (fun H locs G => ?_)
      rw [e_σ6] at G
      exact ret dX3_keep_58 G (Option.some.inj h)
  · have h := g_if h c1
    refine lv_aload_n hx hb dX3_keep_8 rfl (lv_at hl 0 rfl) ?_
    refine lv_aload_n hx hb dX3_keep_9 rfl (lv_at hl 0 rfl) ?_
    refine gg3_1 C G ok.1 u_fl_RX3_22 dX3_keep_10 ?_
    refine lv_iconst (v := 1) hx hb dX3_keep_13 (by decide) ?_
    refine lv_iadd hx hb dX3_keep_14 ?_
    refine lv_iconst (v := 5) hx hb dX3_keep_15 (by decide) ?_
    refine lv_irem hx hb dX3_keep_16 (by decide) ?_
    obtain ⟨σ7, e_σ7, h⟩ := g_let h
    refine gp3_1 C G ok.1 u_fl_RX3_22 dX3_keep_17 (fun H locs G => ?_)
    rw [e_σ7] at G
    refine lv_aload_n hx hb dX3_keep_20 rfl (lv_at hl 0 rfl) ?_
    refine lv_dup hx hb dX3_keep_21 rfl ?_
    refine gg3_2 C G ok.1 u_fl_RX3_18 dX3_keep_22 ?_
    refine lv_iconst (v := 1) hx hb dX3_keep_25 (by decide) ?_
    refine lv_isub hx hb dX3_keep_26 ?_
    obtain ⟨σ8, e_σ8, h⟩ := g_let h
    refine gp3_2 C G ok.1 u_fl_RX3_18 dX3_keep_27 (fun H locs G => ?_)
    rw [e_σ8] at G
    refine lv_aload_n hx hb dX3_keep_30 rfl (lv_at hl 0 rfl) ?_
    refine lv_aload_n hx hb dX3_keep_31 rfl (lv_at hl 0 rfl) ?_
    refine gg3_2 C G ok.1 u_fl_RX3_18 dX3_keep_32 ?_
    obtain ⟨v9, e_v9, h⟩ := g_bind h
    refine g_callr (g_runV (n := 1) (As := [.int (σ8 t 2)]) (rest := []) C G (mX3_state l X σ8 t (σ8 t 2) v9 ok e_v9) ok.1.2 (gE_3 ok.1.1) rfl (g_goodV u_ml_RX3_25 u_im_yX3_state u_se_yX3_state u_in_RX3 u_co_yX3_state) rfl rfl rfl (by decide +kernel) ⟨Nat.le_of_ble_eq_true rfl, Nat.le_of_ble_eq_true rfl⟩ rfl hl.1 rfl (Nat.le_of_ble_eq_true rfl) dX3_keep_35 ⟨Nat.zero_le _, Nat.zero_le _⟩) G (fun H locs G => ?_)
    cases v9 with
    | none =>
      have h := g_gon h
      refine lv_astore_nN (lv' := [(2, .null), (0, .ref (xN X + t)), (1, .ref (xN X + o1))]) hx hb dX3_keep_38 rfl hl (by decide) rfl (fun ls hl => ?_)
      refine lv_aload_nN hx hb dX3_keep_39 rfl (lv_at hl 0 rfl) ?_
      refine lv_ifnullN (tgt := 58) hx hb dX3_keep_40 (by decide) ?_
      exact ret dX3_keep_58 G (Option.some.inj h)
    | some k10 =>
      have h := g_gos h
      have okk10 := okX3_state ok e_v9
      refine lv_astore_n (lv' := [(2, .ref (xN X + k10)), (0, .ref (xN X + t)), (1, .ref (xN X + o1))]) hx hb dX3_keep_38 rfl hl (by decide) rfl (fun ls hl => ?_)
      refine lv_aload_n hx hb dX3_keep_39 rfl (lv_at hl 0 rfl) ?_
      refine lv_ifnull hx hb dX3_keep_40 ?_
      refine lv_aload_n hx hb dX3_keep_43 rfl (lv_at hl 0 rfl) ?_
      refine lv_aload_n hx hb dX3_keep_44 rfl (lv_at hl 2 rfl) ?_
      obtain ⟨σ12, e_σ12, h⟩ := g_bind h
      refine g_callv (g_runV (n := 1) (As := [.ref (xN X + o1)]) (rest := []) C G (mX0_copy l X σ8 σ12 k10 o1 okk10 ok1 e_σ12) okk10.1.2 (gE_0 okk10.1.1) rfl (g_goodV u_ml_RX3_29 u_im_yX0_copy u_se_yX0_copy u_in_RX0 u_co_yX0_copy) rfl rfl rfl (by decide +kernel) ⟨Nat.le_of_ble_eq_true rfl, Nat.le_of_ble_eq_true rfl⟩ rfl hl.1 rfl (Nat.le_of_ble_eq_true rfl) dX3_keep_45 ⟨Nat.zero_le _, Nat.zero_le _⟩) G (fun H locs G => ?_)
      refine lv_aload_n hx hb dX3_keep_48 rfl (lv_at hl 1 rfl) ?_
      refine lv_dup hx hb dX3_keep_49 rfl ?_
      refine gg3_2 C G ok.1 u_fl_RX3_18 dX3_keep_50 ?_
      refine lv_iconst (v := 1) hx hb dX3_keep_53 (by decide) ?_
      refine lv_iadd hx hb dX3_keep_54 ?_
      obtain ⟨σ13, e_σ13, h⟩ := g_let h
      refine gp3_2 C G ok.1 u_fl_RX3_18 dX3_keep_55 (fun H locs G => ?_)
      rw [e_σ13] at G
      exact ret dX3_keep_58 G (Option.some.inj h)

def fX8_reset (σ : gM) (t : Nat) (a1 : Int32) (a2 : Int32) : Option (Int32 × gM) :=
  ((fX8_isWithin σ a1 1 6).bind fun v1 =>
  (if v1 = 0 then
    some ((-1001), σ)
  else
    ((fX8_isWithin σ a2 1 6).bind fun v3 =>
    (if v3 = 0 then
      some ((-1001), σ)
    else
      ((fX0_countLying σ (t + 1)).bind fun v5 =>
      ((fX3_keep σ (t + 31) (t + 1)).bind fun σ7 =>
      ((fX4_clear σ7 ((t + 1) + 8) a1 a2).bind fun σ9 =>
      some (v5, σ9))))))))
set_option maxHeartbeats 4000000 in
set_option maxRecDepth 100000 in
theorem mX8_reset (l : Launch) (X : gX) (σ σ' : gM) (t : Nat) (a1 : Int32) (a2 : Int32) (r : Int32) (ok : gok8 X t) (h : fX8_reset σ t a1 a2 = some (r, σ')) : Met l yX8_reset (Cond.code yX8_reset cX8_reset 4 (some .int) :: gBig) ({ frames := 5, cells := 0, slots := 0, locals := 150 }) (gPc X σ [.ref (xN X + t), .int a1, .int a2]) (gQi X σ' r) 0 0 (xA X) := by
  refine g_meti (cc := cX8_reset) (maxL := 4) (own := RX8) (by decide) rfl rfl (Nat.le_of_ble_eq_true rfl) ?_
  intro p ev s m args below meth c Q C G ret ls hl
  obtain ⟨⟨hx, hb, hml, hown, hts⟩, hK⟩ := id C
  have hl : lv_has ls 4 [(0, .ref (xN X + t)), (1, .int a1), (2, .int a2)] := hl
  unfold fX8_reset at h
  refine lv_iload_n hx hb dX8_reset_0 rfl (lv_at hl 1 rfl) ?_
  refine lv_iconst (v := 1) hx hb dX8_reset_1 (by decide) ?_
  refine lv_bipush (v := 6) hx hb dX8_reset_2 (by decide) ?_
  obtain ⟨v1, e_v1, h⟩ := g_bind h
  refine g_calli (g_runS (n := 3) (As := [.int a1, .int 1, .int 6]) (rest := []) C G (mX8_isWithin l X σ a1 1 6 v1 e_v1) (g_goodS u_ml_RX8_47 u_st_yX8_isWithin u_in_RX8 u_co_yX8_isWithin) rfl rfl rfl (by decide +kernel) ⟨Nat.le_of_ble_eq_true rfl, Nat.le_of_ble_eq_true rfl⟩ rfl hl.1 rfl (Nat.le_of_ble_eq_true rfl) dX8_reset_4 ⟨Nat.zero_le _, Nat.zero_le _⟩) G (fun H locs G => ?_)
  refine lv_if_eq (tgt := 20) hx hb dX8_reset_7 (by decide) (fun c2 => ?_) (fun c2 => ?_)
  · have h := g_it h c2
    refine lv_sipush (v := (-1001)) hx hb dX8_reset_20 (by decide) ?_
    exact ret dX8_reset_23 rfl G (Prod.mk.inj (Option.some.inj h))
  · have h := g_if h c2
    refine lv_iload_n hx hb dX8_reset_10 rfl (lv_at hl 2 rfl) ?_
    refine lv_iconst (v := 1) hx hb dX8_reset_11 (by decide) ?_
    refine lv_bipush (v := 6) hx hb dX8_reset_12 (by decide) ?_
    obtain ⟨v3, e_v3, h⟩ := g_bind h
    refine g_calli (g_runS (n := 3) (As := [.int a2, .int 1, .int 6]) (rest := []) C G (mX8_isWithin l X σ a2 1 6 v3 e_v3) (g_goodS u_ml_RX8_47 u_st_yX8_isWithin u_in_RX8 u_co_yX8_isWithin) rfl rfl rfl (by decide +kernel) ⟨Nat.le_of_ble_eq_true rfl, Nat.le_of_ble_eq_true rfl⟩ rfl hl.1 rfl (Nat.le_of_ble_eq_true rfl) dX8_reset_14 ⟨Nat.zero_le _, Nat.zero_le _⟩) G (fun H locs G => ?_)
    refine lv_if_ne (tgt := 24) hx hb dX8_reset_17 (by decide) (fun c4 => ?_) (fun c4 => ?_)
    · have h := g_if h c4
      refine lv_aload_n hx hb dX8_reset_24 rfl (lv_at hl 0 rfl) ?_
      refine gg8_0 C G ok.1 ok.2.1.1 u_fl_RX8_10 dX8_reset_25 ?_
      obtain ⟨v5, e_v5, h⟩ := g_bind h
      refine g_calli (g_runV (n := 0) (As := []) (rest := []) C G (mX0_countLying l X σ (t + 1) v5 ok.2.2.1 e_v5) ok.2.2.1.1.2 (gE_0 ok.2.2.1.1.1) rfl (g_goodV u_ml_RX8_51 u_im_yX0_countLying u_se_yX0_countLying u_in_RX0 u_co_yX0_countLying) rfl rfl rfl (by decide +kernel) ⟨Nat.le_of_ble_eq_true rfl, Nat.le_of_ble_eq_true rfl⟩ rfl hl.1 rfl (Nat.le_of_ble_eq_true rfl) dX8_reset_28 ⟨Nat.zero_le _, Nat.zero_le _⟩) G (fun H locs G => ?_)
      refine lv_istore_n (lv' := [(3, .int v5), (0, .ref (xN X + t)), (1, .int a1), (2, .int a2)]) hx hb dX8_reset_31 rfl hl (by decide) rfl (fun ls hl => ?_)
      refine lv_aload_n hx hb dX8_reset_32 rfl (lv_at hl 1 rfl) ?_
      refine gg8_2 C G ok.1 ok.2.1.2.2.1 u_fl_RX8_22 dX8_reset_33 ?_
      refine lv_aload_n hx hb dX8_reset_36 rfl (lv_at hl 1 rfl) ?_
      refine gg8_0 C G ok.1 ok.2.1.1 u_fl_RX8_10 dX8_reset_37 ?_
      obtain ⟨σ7, e_σ7, h⟩ := g_bind h
      refine g_callv (g_runV (n := 1) (As := [.ref (xN X + (t + 1))]) (rest := []) C G (mX3_keep l X σ σ7 (t + 31) (t + 1) ok.2.2.2.2.1 ok.2.2.1 e_σ7) ok.2.2.2.2.1.1.2 (gE_3 ok.2.2.2.2.1.1.1) rfl (g_goodV u_ml_RX8_55 u_im_yX3_keep u_se_yX3_keep u_in_RX3 u_co_yX3_keep) rfl rfl rfl (by decide +kernel) ⟨Nat.le_of_ble_eq_true rfl, Nat.le_of_ble_eq_true rfl⟩ rfl hl.1 rfl (Nat.le_of_ble_eq_true rfl) dX8_reset_40 ⟨Nat.zero_le _, Nat.zero_le _⟩) G (fun H locs G => ?_)
      refine lv_aload_n hx hb dX8_reset_43 rfl (lv_at hl 1 rfl) ?_
      refine gg8_0 C G ok.1 ok.2.1.1 u_fl_RX8_10 dX8_reset_44 ?_
      refine gn0_1 C G ok.2.2.1.1 ok.2.2.1.2.1.2 (List.mem_of_getElem? (i := 3) rfl) dX8_reset_47 ?_
      refine lv_iload_n hx hb dX8_reset_50 rfl (lv_at hl 2 rfl) ?_
      refine lv_iload_n hx hb dX8_reset_51 rfl (lv_at hl 3 rfl) ?_
      obtain ⟨σ9, e_σ9, h⟩ := g_bind h
      refine g_callv (g_runV (n := 2) (As := [.int a1, .int a2]) (rest := []) C G (mX4_clear l X σ7 σ9 ((t + 1) + 8) a1 a2 ok.2.2.1.2.2.2 e_σ9) ok.2.2.1.2.2.2.1.2 (gE_4 ok.2.2.1.2.2.2.1.1) rfl (g_goodV u_ml_RX8_63 u_im_yX4_clear u_se_yX4_clear u_in_RX4 u_co_yX4_clear) rfl rfl rfl (by decide +kernel) ⟨Nat.le_of_ble_eq_true rfl, Nat.le_of_ble_eq_true rfl⟩ rfl hl.1 rfl (Nat.le_of_ble_eq_true rfl) dX8_reset_52 ⟨Nat.zero_le _, Nat.zero_le _⟩) G (fun H locs G => ?_)
      refine lv_iload_n hx hb dX8_reset_55 rfl (lv_at hl 0 rfl) ?_
      exact ret dX8_reset_56 rfl G (Prod.mk.inj (Option.some.inj h))
    · have h := g_it h c4
      refine lv_sipush (v := (-1001)) hx hb dX8_reset_20 (by decide) ?_
      exact ret dX8_reset_23 rfl G (Prod.mk.inj (Option.some.inj h))

def fX8_isProfile (σ : gM) (a1 : Int32) : Option (Int32) :=
  ((fX8_isWithin σ a1 (-1) 999).bind fun v1 =>
  (if v1 = 0 ∨ v1 = 1 then
  some v1
  else none))
set_option maxHeartbeats 4000000 in
set_option maxRecDepth 100000 in
theorem mX8_isProfile (l : Launch) (X : gX) (σ : gM) (a1 : Int32) (r : Int32) (h : fX8_isProfile σ a1 = some r) : Met l yX8_isProfile (Cond.code yX8_isProfile cX8_isProfile 1 (some .boolean) :: gBig) ({ frames := 1, cells := 0, slots := 0, locals := 22 }) (gPc X σ [.int a1]) (gQi X σ r) 0 0 (xA X) := by
  refine g_meti (cc := cX8_isProfile) (maxL := 1) (own := RX8) (by decide) rfl rfl (Nat.le_of_ble_eq_true rfl) ?_
  intro p ev s m args below meth c Q C G ret ls hl
  obtain ⟨⟨hx, hb, hml, hown, hts⟩, hK⟩ := id C
  have hl : lv_has ls 1 [(0, .int a1)] := hl
  unfold fX8_isProfile at h
  refine lv_iload_n hx hb dX8_isProfile_0 rfl (lv_at hl 0 rfl) ?_
  refine lv_iconst (v := (-1)) hx hb dX8_isProfile_1 (by decide) ?_
  refine lv_sipush (v := 999) hx hb dX8_isProfile_2 (by decide) ?_
  obtain ⟨v1, e_v1, h⟩ := g_bind h
  refine g_calli (g_runS (n := 3) (As := [.int a1, .int (-1), .int 999]) (rest := []) C G (mX8_isWithin l X σ a1 (-1) 999 v1 e_v1) (g_goodS u_ml_RX8_47 u_st_yX8_isWithin u_in_RX8 u_co_yX8_isWithin) rfl rfl rfl (by decide +kernel) ⟨Nat.le_of_ble_eq_true rfl, Nat.le_of_ble_eq_true rfl⟩ rfl hl.1 rfl (Nat.le_of_ble_eq_true rfl) dX8_isProfile_5 ⟨Nat.zero_le _, Nat.zero_le _⟩) G (fun H locs G => ?_)
  obtain ⟨c2, h⟩ := g_chk h
  exact ret dX8_isProfile_8 (g_z c2) G ⟨Option.some.inj h, rfl⟩

def fX5_set (σ : gM) (t : Nat) (a1 : Int32) (a2 : Int32) : Option (gM) :=
  (if a1 < 0 then
    some σ
  else
    (if (nI (gln (t + 1))) ≤ a1 then
      some σ
    else
      (if ¬ (a1 < 0 ∨ gln (t + 1) ≤ a1.toNatClampNeg) then
      (gl (gset σ (t + 1) (upd (σ (t + 1)) a1.toNatClampNeg a2)) fun σ4 =>
      some σ4)
      else none)))
set_option maxHeartbeats 4000000 in
set_option maxRecDepth 100000 in
theorem mX5_set (l : Launch) (X : gX) (σ σ' : gM) (t : Nat) (a1 : Int32) (a2 : Int32) (ok : gok5 X t) (h : fX5_set σ t a1 a2 = some σ') : Met l yX5_set (Cond.code yX5_set cX5_set 3 none :: gBig) ({ frames := 0, cells := 0, slots := 0, locals := 0 }) (gPc X σ [.ref (xN X + t), .int a1, .int a2]) (gQv X σ') 0 0 (xA X) := by
  refine g_metv (cc := cX5_set) (maxL := 3) (own := RX5) (by decide) rfl rfl (Nat.le_of_ble_eq_true rfl) ?_
  intro p ev s m args below meth c Q C G ret ls hl
  obtain ⟨⟨hx, hb, hml, hown, hts⟩, hK⟩ := id C
  have hl : lv_has ls 3 [(0, .ref (xN X + t)), (1, .int a1), (2, .int a2)] := hl
  unfold fX5_set at h
  refine lv_iload_n hx hb dX5_set_0 rfl (lv_at hl 1 rfl) ?_
  refine lv_if_lt (tgt := 20) hx hb dX5_set_1 (by decide) (fun c1 => ?_) (fun c1 => ?_)
  · have h := g_it h c1
    exact ret dX5_set_20 G (Option.some.inj h)
  · have h := g_if h c1
    refine lv_iload_n hx hb dX5_set_4 rfl (lv_at hl 1 rfl) ?_
    refine lv_aload_n hx hb dX5_set_5 rfl (lv_at hl 0 rfl) ?_
    refine gg5_0 C G ok.1 ok.2.1 u_fl_RX5_15 dX5_set_6 ?_
    refine g_alen C G ok.2.2 dX5_set_9 ?_
    refine lv_icmp_ge (tgt := 20) hx hb dX5_set_10 (by decide) (fun c2 => ?_) (fun c2 => ?_)
    · have h := g_it h c2
      exact ret dX5_set_20 G (Option.some.inj h)
    · have h := g_if h c2
      refine lv_aload_n hx hb dX5_set_13 rfl (lv_at hl 0 rfl) ?_
      refine gg5_0 C G ok.1 ok.2.1 u_fl_RX5_15 dX5_set_14 ?_
      refine lv_iload_n hx hb dX5_set_17 rfl (lv_at hl 1 rfl) ?_
      refine lv_iload_n hx hb dX5_set_18 rfl (lv_at hl 2 rfl) ?_
      obtain ⟨c3, h⟩ := g_chk h
      obtain ⟨σ4, e_σ4, h⟩ := g_let h
      refine g_iast C G ok.2.2 c3 dX5_set_19 (fun H locs G => ?_)
      rw [e_σ4] at G
      exact ret dX5_set_20 G (Option.some.inj h)

def fX1_setEdge (σ : gM) (t : Nat) (a1 : Int32) (a2 : Int32) (a3 : Int32) : Option (gM) :=
  ((fX5_set σ (t + 1) a1 a2).bind fun σ2 =>
  ((fX5_set σ2 (t + 3) a1 a3).bind fun σ4 =>
  some σ4))
set_option maxHeartbeats 4000000 in
set_option maxRecDepth 100000 in
theorem mX1_setEdge (l : Launch) (X : gX) (σ σ' : gM) (t : Nat) (a1 : Int32) (a2 : Int32) (a3 : Int32) (ok : gok1 X t) (h : fX1_setEdge σ t a1 a2 a3 = some σ') : Met l yX1_setEdge (Cond.code yX1_setEdge cX1_setEdge 4 none :: gBig) ({ frames := 1, cells := 0, slots := 0, locals := 22 }) (gPc X σ [.ref (xN X + t), .int a1, .int a2, .int a3]) (gQv X σ') 0 0 (xA X) := by
  refine g_metv (cc := cX1_setEdge) (maxL := 4) (own := RX1) (by decide) rfl rfl (Nat.le_of_ble_eq_true rfl) ?_
  intro p ev s m args below meth c Q C G ret ls hl
  obtain ⟨⟨hx, hb, hml, hown, hts⟩, hK⟩ := id C
  have hl : lv_has ls 4 [(0, .ref (xN X + t)), (1, .int a1), (2, .int a2), (3, .int a3)] := hl
  unfold fX1_setEdge at h
  refine lv_aload_n hx hb dX1_setEdge_0 rfl (lv_at hl 0 rfl) ?_
  refine gg1_0 C G ok.1 ok.2.1.1 u_fl_RX1_14 dX1_setEdge_1 ?_
  refine lv_iload_n hx hb dX1_setEdge_4 rfl (lv_at hl 1 rfl) ?_
  refine lv_iload_n hx hb dX1_setEdge_5 rfl (lv_at hl 2 rfl) ?_
  obtain ⟨σ2, e_σ2, h⟩ := g_bind h
  refine g_callv (g_runV (n := 2) (As := [.int a1, .int a2]) (rest := []) C G (mX5_set l X σ σ2 (t + 1) a1 a2 ok.2.2.1 e_σ2) ok.2.2.1.1.2 (gE_5 ok.2.2.1.1.1) rfl (g_goodV u_ml_RX1_23 u_im_yX5_set u_se_yX5_set u_in_RX5 u_co_yX5_set) rfl rfl rfl (by decide +kernel) ⟨Nat.le_of_ble_eq_true rfl, Nat.le_of_ble_eq_true rfl⟩ rfl hl.1 rfl (Nat.le_of_ble_eq_true rfl) dX1_setEdge_6 ⟨Nat.zero_le _, Nat.zero_le _⟩) G (fun H locs G => ?_)
  refine lv_aload_n hx hb dX1_setEdge_9 rfl (lv_at hl 0 rfl) ?_
  refine gg1_1 C G ok.1 ok.2.1.2 u_fl_RX1_20 dX1_setEdge_10 ?_
  refine lv_iload_n hx hb dX1_setEdge_13 rfl (lv_at hl 1 rfl) ?_
  refine lv_iload_n hx hb dX1_setEdge_14 rfl (lv_at hl 3 rfl) ?_
  obtain ⟨σ4, e_σ4, h⟩ := g_bind h
  refine g_callv (g_runV (n := 2) (As := [.int a1, .int a3]) (rest := []) C G (mX5_set l X σ2 σ4 (t + 3) a1 a3 ok.2.2.2 e_σ4) ok.2.2.2.1.2 (gE_5 ok.2.2.2.1.1) rfl (g_goodV u_ml_RX1_23 u_im_yX5_set u_se_yX5_set u_in_RX5 u_co_yX5_set) rfl rfl rfl (by decide +kernel) ⟨Nat.le_of_ble_eq_true rfl, Nat.le_of_ble_eq_true rfl⟩ rfl hl.1 rfl (Nat.le_of_ble_eq_true rfl) dX1_setEdge_15 ⟨Nat.zero_le _, Nat.zero_le _⟩) G (fun H locs G => ?_)
  exact ret dX1_setEdge_18 G (Option.some.inj h)

def fX1_setKind (σ : gM) (t : Nat) (a1 : Int32) : Option (gM) :=
  (gl (gset σ t (upd (σ t) 2 a1)) fun σ1 =>
  some σ1)
set_option maxHeartbeats 4000000 in
set_option maxRecDepth 100000 in
theorem mX1_setKind (l : Launch) (X : gX) (σ σ' : gM) (t : Nat) (a1 : Int32) (ok : gok1 X t) (h : fX1_setKind σ t a1 = some σ') : Met l yX1_setKind (Cond.code yX1_setKind cX1_setKind 2 none :: gBig) ({ frames := 0, cells := 0, slots := 0, locals := 0 }) (gPc X σ [.ref (xN X + t), .int a1]) (gQv X σ') 0 0 (xA X) := by
  refine g_metv (cc := cX1_setKind) (maxL := 2) (own := RX1) (by decide) rfl rfl (Nat.le_of_ble_eq_true rfl) ?_
  intro p ev s m args below meth c Q C G ret ls hl
  obtain ⟨⟨hx, hb, hml, hown, hts⟩, hK⟩ := id C
  have hl : lv_has ls 2 [(0, .ref (xN X + t)), (1, .int a1)] := hl
  unfold fX1_setKind at h
  refine lv_aload_n hx hb dX1_setKind_0 rfl (lv_at hl 0 rfl) ?_
  refine lv_iload_n hx hb dX1_setKind_1 rfl (lv_at hl 1 rfl) ?_
  obtain ⟨σ1, e_σ1, h⟩ := g_let h
  refine gp1_2 C G ok.1 u_fl_RX1_27 dX1_setKind_2 (fun H locs G => ?_)
  rw [e_σ1] at G
  exact ret dX1_setKind_5 G (Option.some.inj h)

def fX1_kind (σ : gM) (t : Nat) : Option (Int32) :=
  some (σ t 2)
set_option maxHeartbeats 4000000 in
set_option maxRecDepth 100000 in
theorem mX1_kind (l : Launch) (X : gX) (σ : gM) (t : Nat) (r : Int32) (ok : gok1 X t) (h : fX1_kind σ t = some r) : Met l yX1_kind (Cond.code yX1_kind cX1_kind 1 (some .int) :: gBig) ({ frames := 0, cells := 0, slots := 0, locals := 0 }) (gPc X σ [.ref (xN X + t)]) (gQi X σ r) 0 0 (xA X) := by
  refine g_meti (cc := cX1_kind) (maxL := 1) (own := RX1) (by decide) rfl rfl (Nat.le_of_ble_eq_true rfl) ?_
  intro p ev s m args below meth c Q C G ret ls hl
  obtain ⟨⟨hx, hb, hml, hown, hts⟩, hK⟩ := id C
  have hl : lv_has ls 1 [(0, .ref (xN X + t))] := hl
  unfold fX1_kind at h
  refine lv_aload_n hx hb dX1_kind_0 rfl (lv_at hl 0 rfl) ?_
  refine gg1_2 C G ok.1 u_fl_RX1_27 dX1_kind_1 ?_
  exact ret dX1_kind_4 rfl G ⟨Option.some.inj h, rfl⟩

def fX1_unturned (σ : gM) (a1 : Int32) (a2 : Int32) : Option (Int32) :=
  some ((a2 - a1) &&& 3)
set_option maxHeartbeats 4000000 in
set_option maxRecDepth 100000 in
theorem mX1_unturned (l : Launch) (X : gX) (σ : gM) (a1 : Int32) (a2 : Int32) (r : Int32) (h : fX1_unturned σ a1 a2 = some r) : Met l yX1_unturned (Cond.code yX1_unturned cX1_unturned 2 (some .int) :: gBig) ({ frames := 0, cells := 0, slots := 0, locals := 0 }) (gPc X σ [.int a1, .int a2]) (gQi X σ r) 0 0 (xA X) := by
  refine g_meti (cc := cX1_unturned) (maxL := 2) (own := RX1) (by decide) rfl rfl (Nat.le_of_ble_eq_true rfl) ?_
  intro p ev s m args below meth c Q C G ret ls hl
  obtain ⟨⟨hx, hb, hml, hown, hts⟩, hK⟩ := id C
  have hl : lv_has ls 2 [(0, .int a1), (1, .int a2)] := hl
  unfold fX1_unturned at h
  refine lv_iload_n hx hb dX1_unturned_0 rfl (lv_at hl 1 rfl) ?_
  refine lv_iload_n hx hb dX1_unturned_1 rfl (lv_at hl 0 rfl) ?_
  refine lv_isub hx hb dX1_unturned_2 ?_
  refine lv_iconst (v := 3) hx hb dX1_unturned_3 (by decide) ?_
  refine lv_iand hx hb dX1_unturned_4 ?_
  exact ret dX1_unturned_5 rfl G ⟨Option.some.inj h, rfl⟩

def fX1_origin (σ : gM) (a1 : Int32) (a2 : Int32) : Option (Int32) :=
  ((fX1_unturned σ a1 a2).bind fun v1 =>
  (if a1 < 4 then
    some v1
  else
    some ((4 - v1) &&& 3)))
set_option maxHeartbeats 4000000 in
set_option maxRecDepth 100000 in
theorem mX1_origin (l : Launch) (X : gX) (σ : gM) (a1 : Int32) (a2 : Int32) (r : Int32) (h : fX1_origin σ a1 a2 = some r) : Met l yX1_origin (Cond.code yX1_origin cX1_origin 3 (some .int) :: gBig) ({ frames := 1, cells := 0, slots := 0, locals := 21 }) (gPc X σ [.int a1, .int a2]) (gQi X σ r) 0 0 (xA X) := by
  refine g_meti (cc := cX1_origin) (maxL := 3) (own := RX1) (by decide) rfl rfl (Nat.le_of_ble_eq_true rfl) ?_
  intro p ev s m args below meth c Q C G ret ls hl
  obtain ⟨⟨hx, hb, hml, hown, hts⟩, hK⟩ := id C
  have hl : lv_has ls 3 [(0, .int a1), (1, .int a2)] := hl
  unfold fX1_origin at h
  refine lv_iload_n hx hb dX1_origin_0 rfl (lv_at hl 0 rfl) ?_
  refine lv_iload_n hx hb dX1_origin_1 rfl (lv_at hl 1 rfl) ?_
  obtain ⟨v1, e_v1, h⟩ := g_bind h
  refine g_calli (g_runS (n := 2) (As := [.int a1, .int a2]) (rest := []) C G (mX1_unturned l X σ a1 a2 v1 e_v1) (g_goodS u_ml_RX1_46 u_st_yX1_unturned u_in_RX1 u_co_yX1_unturned) rfl rfl rfl (by decide +kernel) ⟨Nat.le_of_ble_eq_true rfl, Nat.le_of_ble_eq_true rfl⟩ rfl hl.1 rfl (Nat.le_of_ble_eq_true rfl) dX1_origin_2 ⟨Nat.zero_le _, Nat.zero_le _⟩) G (fun H locs G => ?_)
  refine lv_istore_n (lv' := [(2, .int v1), (0, .int a1), (1, .int a2)]) hx hb dX1_origin_5 rfl hl (by decide) rfl (fun ls hl => ?_)
  refine lv_iload_n hx hb dX1_origin_6 rfl (lv_at hl 1 rfl) ?_
  refine lv_iconst (v := 4) hx hb dX1_origin_7 (by decide) ?_
  refine lv_icmp_lt (tgt := 19) hx hb dX1_origin_8 (by decide) (fun c2 => ?_) (fun c2 => ?_)
  · have h := g_it h c2
    refine lv_iload_n hx hb dX1_origin_19 rfl (lv_at hl 0 rfl) ?_
    exact ret dX1_origin_20 rfl G ⟨Option.some.inj h, rfl⟩
  · have h := g_if h c2
    refine lv_iconst (v := 4) hx hb dX1_origin_11 (by decide) ?_
    refine lv_iload_n hx hb dX1_origin_12 rfl (lv_at hl 0 rfl) ?_
    refine lv_isub hx hb dX1_origin_13 ?_
    refine lv_iconst (v := 3) hx hb dX1_origin_14 (by decide) ?_
    refine lv_iand hx hb dX1_origin_15 ?_
    refine lv_goto (tgt := 20) hx hb dX1_origin_16 (by decide) ?_
    exact ret dX1_origin_20 rfl G ⟨Option.some.inj h, rfl⟩

def fX1_isToldClockwise (σ : gM) (a1 : Int32) : Option (Int32) :=
  (if a1 = 0 then
    some 1
  else
    (if a1 = 1 then
      some 1
    else
      some 0))
set_option maxHeartbeats 4000000 in
set_option maxRecDepth 100000 in
theorem mX1_isToldClockwise (l : Launch) (X : gX) (σ : gM) (a1 : Int32) (r : Int32) (h : fX1_isToldClockwise σ a1 = some r) : Met l yX1_isToldClockwise (Cond.code yX1_isToldClockwise cX1_isToldClockwise 1 (some .boolean) :: gBig) ({ frames := 0, cells := 0, slots := 0, locals := 0 }) (gPc X σ [.int a1]) (gQi X σ r) 0 0 (xA X) := by
  refine g_meti (cc := cX1_isToldClockwise) (maxL := 1) (own := RX1) (by decide) rfl rfl (Nat.le_of_ble_eq_true rfl) ?_
  intro p ev s m args below meth c Q C G ret ls hl
  obtain ⟨⟨hx, hb, hml, hown, hts⟩, hK⟩ := id C
  have hl : lv_has ls 1 [(0, .int a1)] := hl
  unfold fX1_isToldClockwise at h
  refine lv_iload_n hx hb dX1_isToldClockwise_0 rfl (lv_at hl 0 rfl) ?_
  refine lv_if_eq (tgt := 9) hx hb dX1_isToldClockwise_1 (by decide) (fun c1 => ?_) (fun c1 => ?_)
  · have h := g_it h c1
    refine lv_iconst (v := 1) hx hb dX1_isToldClockwise_9 (by decide) ?_
    refine lv_goto (tgt := 14) hx hb dX1_isToldClockwise_10 (by decide) ?_
    exact ret dX1_isToldClockwise_14 rfl G ⟨Option.some.inj h, rfl⟩
  · have h := g_if h c1
    refine lv_iload_n hx hb dX1_isToldClockwise_4 rfl (lv_at hl 0 rfl) ?_
    refine lv_iconst (v := 1) hx hb dX1_isToldClockwise_5 (by decide) ?_
    refine lv_icmp_ne (tgt := 13) hx hb dX1_isToldClockwise_6 (by decide) (fun c2 => ?_) (fun c2 => ?_)
    · have h := g_if h c2
      refine lv_iconst (v := 0) hx hb dX1_isToldClockwise_13 (by decide) ?_
      exact ret dX1_isToldClockwise_14 rfl G ⟨Option.some.inj h, rfl⟩
    · have h := g_it h c2
      refine lv_iconst (v := 1) hx hb dX1_isToldClockwise_9 (by decide) ?_
      refine lv_goto (tgt := 14) hx hb dX1_isToldClockwise_10 (by decide) ?_
      exact ret dX1_isToldClockwise_14 rfl G ⟨Option.some.inj h, rfl⟩

def fX1_isReversed (σ : gM) (a1 : Int32) (a2 : Int32) : Option (Int32) :=
  ((fX1_unturned σ a1 a2).bind fun v1 =>
  ((fX1_isToldClockwise σ v1).bind fun v2 =>
  ((fX1_isToldClockwise σ a2).bind fun v3 =>
  (if v2 = v3 then
    (if a1 < 4 then
      some 0
    else
      (if v1 = 0 then
        some 1
      else
        (if v1 = 2 then
          some 1
        else
          some 0)))
  else
    (if a1 < 4 then
      some 1
    else
      (if v1 = 0 then
        some 0
      else
        (if v1 = 2 then
          some 0
        else
          some 1)))))))
set_option maxHeartbeats 4000000 in
set_option maxRecDepth 100000 in
theorem mX1_isReversed (l : Launch) (X : gX) (σ : gM) (a1 : Int32) (a2 : Int32) (r : Int32) (h : fX1_isReversed σ a1 a2 = some r) : Met l yX1_isReversed (Cond.code yX1_isReversed cX1_isReversed 5 (some .boolean) :: gBig) ({ frames := 1, cells := 0, slots := 0, locals := 21 }) (gPc X σ [.int a1, .int a2]) (gQi X σ r) 0 0 (xA X) := by
  refine g_meti (cc := cX1_isReversed) (maxL := 5) (own := RX1) (by decide) rfl rfl (Nat.le_of_ble_eq_true rfl) ?_
  intro p ev s m args below meth c Q C G ret ls hl
  obtain ⟨⟨hx, hb, hml, hown, hts⟩, hK⟩ := id C
  have hl : lv_has ls 5 [(0, .int a1), (1, .int a2)] := hl
  unfold fX1_isReversed at h
  refine lv_iload_n hx hb dX1_isReversed_0 rfl (lv_at hl 0 rfl) ?_
  refine lv_iload_n hx hb dX1_isReversed_1 rfl (lv_at hl 1 rfl) ?_
  obtain ⟨v1, e_v1, h⟩ := g_bind h
  refine g_calli (g_runS (n := 2) (As := [.int a1, .int a2]) (rest := []) C G (mX1_unturned l X σ a1 a2 v1 e_v1) (g_goodS u_ml_RX1_46 u_st_yX1_unturned u_in_RX1 u_co_yX1_unturned) rfl rfl rfl (by decide +kernel) ⟨Nat.le_of_ble_eq_true rfl, Nat.le_of_ble_eq_true rfl⟩ rfl hl.1 rfl (Nat.le_of_ble_eq_true rfl) dX1_isReversed_2 ⟨Nat.zero_le _, Nat.zero_le _⟩) G (fun H locs G => ?_)
  refine lv_istore_n (lv' := [(2, .int v1), (0, .int a1), (1, .int a2)]) hx hb dX1_isReversed_5 rfl hl (by decide) rfl (fun ls hl => ?_)
  refine lv_iload_n hx hb dX1_isReversed_6 rfl (lv_at hl 0 rfl) ?_
  obtain ⟨v2, e_v2, h⟩ := g_bind h
  refine g_calli (g_runS (n := 1) (As := [.int v1]) (rest := []) C G (mX1_isToldClockwise l X σ v1 v2 e_v2) (g_goodS u_ml_RX1_49 u_st_yX1_isToldClockwise u_in_RX1 u_co_yX1_isToldClockwise) rfl rfl rfl (by decide +kernel) ⟨Nat.le_of_ble_eq_true rfl, Nat.le_of_ble_eq_true rfl⟩ rfl hl.1 rfl (Nat.le_of_ble_eq_true rfl) dX1_isReversed_7 ⟨Nat.zero_le _, Nat.zero_le _⟩) G (fun H locs G => ?_)
  refine lv_iload_n hx hb dX1_isReversed_10 rfl (lv_at hl 2 rfl) ?_
  obtain ⟨v3, e_v3, h⟩ := g_bind h
  refine g_calli (g_runS (n := 1) (As := [.int a2]) (rest := [.int v2]) C G (mX1_isToldClockwise l X σ a2 v3 e_v3) (g_goodS u_ml_RX1_49 u_st_yX1_isToldClockwise u_in_RX1 u_co_yX1_isToldClockwise) rfl rfl rfl (by decide +kernel) ⟨Nat.le_of_ble_eq_true rfl, Nat.le_of_ble_eq_true rfl⟩ rfl hl.1 rfl (Nat.le_of_ble_eq_true rfl) dX1_isReversed_11 ⟨Nat.zero_le _, Nat.zero_le _⟩) G (fun H locs G => ?_)
  refine lv_icmp_eq (tgt := 21) hx hb dX1_isReversed_14 (by decide) (fun c4 => ?_) (fun c4 => ?_)
  · have h := g_it h c4
    refine lv_iconst (v := 0) hx hb dX1_isReversed_21 (by decide) ?_
    refine lv_istore_n (lv' := [(3, .int 0), (2, .int v1), (0, .int a1), (1, .int a2)]) hx hb dX1_isReversed_22 rfl hl (by decide) rfl (fun ls hl => ?_)
    refine lv_iload_n hx hb dX1_isReversed_23 rfl (lv_at hl 2 rfl) ?_
    refine lv_iconst (v := 4) hx hb dX1_isReversed_24 (by decide) ?_
    refine lv_icmp_lt (tgt := 41) hx hb dX1_isReversed_25 (by decide) (fun c5 => ?_) (fun c5 => ?_)
    · have h := g_it h c5
      refine lv_iconst (v := 0) hx hb dX1_isReversed_41 (by decide) ?_
      refine lv_istore (lv' := [(4, .int 0), (3, .int 0), (2, .int v1), (0, .int a1), (1, .int a2)]) hx hb dX1_isReversed_42 hl (by decide) rfl (fun ls hl => ?_)
      refine lv_iload_n hx hb dX1_isReversed_44 rfl (lv_at hl 1 rfl) ?_
      refine lv_iload hx hb dX1_isReversed_45 (lv_at hl 0 rfl) ?_
      refine lv_icmp_eq (tgt := 54) hx hb dX1_isReversed_47 (by decide) (fun _ => ?_) (fun c6 => absurd c6 (by decide))
      refine lv_iconst (v := 0) hx hb dX1_isReversed_54 (by decide) ?_
      exact ret dX1_isReversed_55 rfl G ⟨Option.some.inj h, rfl⟩
    · have h := g_if h c5
      refine lv_iload_n hx hb dX1_isReversed_28 rfl (lv_at hl 1 rfl) ?_
      refine lv_if_eq (tgt := 37) hx hb dX1_isReversed_29 (by decide) (fun c7 => ?_) (fun c7 => ?_)
      · have h := g_it h c7
        refine lv_iconst (v := 1) hx hb dX1_isReversed_37 (by decide) ?_
        refine lv_goto (tgt := 42) hx hb dX1_isReversed_38 (by decide) ?_
        refine lv_istore (lv' := [(4, .int 1), (3, .int 0), (2, .int v1), (0, .int a1), (1, .int a2)]) hx hb dX1_isReversed_42 hl (by decide) rfl (fun ls hl => ?_)
        refine lv_iload_n hx hb dX1_isReversed_44 rfl (lv_at hl 1 rfl) ?_
        refine lv_iload hx hb dX1_isReversed_45 (lv_at hl 0 rfl) ?_
        refine lv_icmp_eq (tgt := 54) hx hb dX1_isReversed_47 (by decide) (fun c8 => absurd c8 (by decide)) (fun _ => ?_)
        refine lv_iconst (v := 1) hx hb dX1_isReversed_50 (by decide) ?_
        refine lv_goto (tgt := 55) hx hb dX1_isReversed_51 (by decide) ?_
        exact ret dX1_isReversed_55 rfl G ⟨Option.some.inj h, rfl⟩
      · have h := g_if h c7
        refine lv_iload_n hx hb dX1_isReversed_32 rfl (lv_at hl 1 rfl) ?_
        refine lv_iconst (v := 2) hx hb dX1_isReversed_33 (by decide) ?_
        refine lv_icmp_ne (tgt := 41) hx hb dX1_isReversed_34 (by decide) (fun c9 => ?_) (fun c9 => ?_)
        · have h := g_if h c9
          refine lv_iconst (v := 0) hx hb dX1_isReversed_41 (by decide) ?_
          refine lv_istore (lv' := [(4, .int 0), (3, .int 0), (2, .int v1), (0, .int a1), (1, .int a2)]) hx hb dX1_isReversed_42 hl (by decide) rfl (fun ls hl => ?_)
          refine lv_iload_n hx hb dX1_isReversed_44 rfl (lv_at hl 1 rfl) ?_
          refine lv_iload hx hb dX1_isReversed_45 (lv_at hl 0 rfl) ?_
          refine lv_icmp_eq (tgt := 54) hx hb dX1_isReversed_47 (by decide) (fun _ => ?_) (fun c11 => absurd c11 (by decide))
          refine lv_iconst (v := 0) hx hb dX1_isReversed_54 (by decide) ?_
          exact ret dX1_isReversed_55 rfl G ⟨Option.some.inj h, rfl⟩
        · have h := g_it h c9
          refine lv_iconst (v := 1) hx hb dX1_isReversed_37 (by decide) ?_
          refine lv_goto (tgt := 42) hx hb dX1_isReversed_38 (by decide) ?_
          refine lv_istore (lv' := [(4, .int 1), (3, .int 0), (2, .int v1), (0, .int a1), (1, .int a2)]) hx hb dX1_isReversed_42 hl (by decide) rfl (fun ls hl => ?_)
          refine lv_iload_n hx hb dX1_isReversed_44 rfl (lv_at hl 1 rfl) ?_
          refine lv_iload hx hb dX1_isReversed_45 (lv_at hl 0 rfl) ?_
          refine lv_icmp_eq (tgt := 54) hx hb dX1_isReversed_47 (by decide) (fun c10 => absurd c10 (by decide)) (fun _ => ?_)
          refine lv_iconst (v := 1) hx hb dX1_isReversed_50 (by decide) ?_
          refine lv_goto (tgt := 55) hx hb dX1_isReversed_51 (by decide) ?_
          exact ret dX1_isReversed_55 rfl G ⟨Option.some.inj h, rfl⟩
  · have h := g_if h c4
    refine lv_iconst (v := 1) hx hb dX1_isReversed_17 (by decide) ?_
    refine lv_goto (tgt := 22) hx hb dX1_isReversed_18 (by decide) ?_
    refine lv_istore_n (lv' := [(3, .int 1), (2, .int v1), (0, .int a1), (1, .int a2)]) hx hb dX1_isReversed_22 rfl hl (by decide) rfl (fun ls hl => ?_)
    refine lv_iload_n hx hb dX1_isReversed_23 rfl (lv_at hl 2 rfl) ?_
    refine lv_iconst (v := 4) hx hb dX1_isReversed_24 (by decide) ?_
    refine lv_icmp_lt (tgt := 41) hx hb dX1_isReversed_25 (by decide) (fun c12 => ?_) (fun c12 => ?_)
    · have h := g_it h c12
      refine lv_iconst (v := 0) hx hb dX1_isReversed_41 (by decide) ?_
      refine lv_istore (lv' := [(4, .int 0), (3, .int 1), (2, .int v1), (0, .int a1), (1, .int a2)]) hx hb dX1_isReversed_42 hl (by decide) rfl (fun ls hl => ?_)
      refine lv_iload_n hx hb dX1_isReversed_44 rfl (lv_at hl 1 rfl) ?_
      refine lv_iload hx hb dX1_isReversed_45 (lv_at hl 0 rfl) ?_
      refine lv_icmp_eq (tgt := 54) hx hb dX1_isReversed_47 (by decide) (fun c13 => absurd c13 (by decide)) (fun _ => ?_)
      refine lv_iconst (v := 1) hx hb dX1_isReversed_50 (by decide) ?_
      refine lv_goto (tgt := 55) hx hb dX1_isReversed_51 (by decide) ?_
      exact ret dX1_isReversed_55 rfl G ⟨Option.some.inj h, rfl⟩
    · have h := g_if h c12
      refine lv_iload_n hx hb dX1_isReversed_28 rfl (lv_at hl 1 rfl) ?_
      refine lv_if_eq (tgt := 37) hx hb dX1_isReversed_29 (by decide) (fun c14 => ?_) (fun c14 => ?_)
      · have h := g_it h c14
        refine lv_iconst (v := 1) hx hb dX1_isReversed_37 (by decide) ?_
        refine lv_goto (tgt := 42) hx hb dX1_isReversed_38 (by decide) ?_
        refine lv_istore (lv' := [(4, .int 1), (3, .int 1), (2, .int v1), (0, .int a1), (1, .int a2)]) hx hb dX1_isReversed_42 hl (by decide) rfl (fun ls hl => ?_)
        refine lv_iload_n hx hb dX1_isReversed_44 rfl (lv_at hl 1 rfl) ?_
        refine lv_iload hx hb dX1_isReversed_45 (lv_at hl 0 rfl) ?_
        refine lv_icmp_eq (tgt := 54) hx hb dX1_isReversed_47 (by decide) (fun _ => ?_) (fun c15 => absurd c15 (by decide))
        refine lv_iconst (v := 0) hx hb dX1_isReversed_54 (by decide) ?_
        exact ret dX1_isReversed_55 rfl G ⟨Option.some.inj h, rfl⟩
      · have h := g_if h c14
        refine lv_iload_n hx hb dX1_isReversed_32 rfl (lv_at hl 1 rfl) ?_
        refine lv_iconst (v := 2) hx hb dX1_isReversed_33 (by decide) ?_
        refine lv_icmp_ne (tgt := 41) hx hb dX1_isReversed_34 (by decide) (fun c16 => ?_) (fun c16 => ?_)
        · have h := g_if h c16
          refine lv_iconst (v := 0) hx hb dX1_isReversed_41 (by decide) ?_
          refine lv_istore (lv' := [(4, .int 0), (3, .int 1), (2, .int v1), (0, .int a1), (1, .int a2)]) hx hb dX1_isReversed_42 hl (by decide) rfl (fun ls hl => ?_)
          refine lv_iload_n hx hb dX1_isReversed_44 rfl (lv_at hl 1 rfl) ?_
          refine lv_iload hx hb dX1_isReversed_45 (lv_at hl 0 rfl) ?_
          refine lv_icmp_eq (tgt := 54) hx hb dX1_isReversed_47 (by decide) (fun c18 => absurd c18 (by decide)) (fun _ => ?_)
          refine lv_iconst (v := 1) hx hb dX1_isReversed_50 (by decide) ?_
          refine lv_goto (tgt := 55) hx hb dX1_isReversed_51 (by decide) ?_
          exact ret dX1_isReversed_55 rfl G ⟨Option.some.inj h, rfl⟩
        · have h := g_it h c16
          refine lv_iconst (v := 1) hx hb dX1_isReversed_37 (by decide) ?_
          refine lv_goto (tgt := 42) hx hb dX1_isReversed_38 (by decide) ?_
          refine lv_istore (lv' := [(4, .int 1), (3, .int 1), (2, .int v1), (0, .int a1), (1, .int a2)]) hx hb dX1_isReversed_42 hl (by decide) rfl (fun ls hl => ?_)
          refine lv_iload_n hx hb dX1_isReversed_44 rfl (lv_at hl 1 rfl) ?_
          refine lv_iload hx hb dX1_isReversed_45 (lv_at hl 0 rfl) ?_
          refine lv_icmp_eq (tgt := 54) hx hb dX1_isReversed_47 (by decide) (fun _ => ?_) (fun c17 => absurd c17 (by decide))
          refine lv_iconst (v := 0) hx hb dX1_isReversed_54 (by decide) ?_
          exact ret dX1_isReversed_55 rfl G ⟨Option.some.inj h, rfl⟩

def fX1_reverse (σ : gM) (a1 : Int32) : Option (Int32) :=
  (if a1 = (-1) then
    some (-1)
  else
    some ((((a1 - a1 / 10 * 10) * 100) + (((a1 / 10) - (a1 / 10) / 10 * 10) * 10)) + (a1 / 100)))
set_option maxHeartbeats 4000000 in
set_option maxRecDepth 100000 in
theorem mX1_reverse (l : Launch) (X : gX) (σ : gM) (a1 : Int32) (r : Int32) (h : fX1_reverse σ a1 = some r) : Met l yX1_reverse (Cond.code yX1_reverse cX1_reverse 1 (some .int) :: gBig) ({ frames := 0, cells := 0, slots := 0, locals := 0 }) (gPc X σ [.int a1]) (gQi X σ r) 0 0 (xA X) := by
  refine g_meti (cc := cX1_reverse) (maxL := 1) (own := RX1) (by decide) rfl rfl (Nat.le_of_ble_eq_true rfl) ?_
  intro p ev s m args below meth c Q C G ret ls hl
  obtain ⟨⟨hx, hb, hml, hown, hts⟩, hK⟩ := id C
  have hl : lv_has ls 1 [(0, .int a1)] := hl
  unfold fX1_reverse at h
  refine lv_iload_n hx hb dX1_reverse_0 rfl (lv_at hl 0 rfl) ?_
  refine lv_iconst (v := (-1)) hx hb dX1_reverse_1 (by decide) ?_
  refine lv_icmp_ne (tgt := 7) hx hb dX1_reverse_2 (by decide) (fun c1 => ?_) (fun c1 => ?_)
  · have h := g_if h c1
    refine lv_iload_n hx hb dX1_reverse_7 rfl (lv_at hl 0 rfl) ?_
    refine lv_bipush (v := 10) hx hb dX1_reverse_8 (by decide) ?_
    refine lv_irem hx hb dX1_reverse_10 (by decide) ?_
    refine lv_bipush (v := 100) hx hb dX1_reverse_11 (by decide) ?_
    refine lv_imul hx hb dX1_reverse_13 ?_
    refine lv_iload_n hx hb dX1_reverse_14 rfl (lv_at hl 0 rfl) ?_
    refine lv_bipush (v := 10) hx hb dX1_reverse_15 (by decide) ?_
    refine lv_idiv hx hb dX1_reverse_17 (by decide) ?_
    refine lv_bipush (v := 10) hx hb dX1_reverse_18 (by decide) ?_
    refine lv_irem hx hb dX1_reverse_20 (by decide) ?_
    refine lv_bipush (v := 10) hx hb dX1_reverse_21 (by decide) ?_
    refine lv_imul hx hb dX1_reverse_23 ?_
    refine lv_iadd hx hb dX1_reverse_24 ?_
    refine lv_iload_n hx hb dX1_reverse_25 rfl (lv_at hl 0 rfl) ?_
    refine lv_bipush (v := 100) hx hb dX1_reverse_26 (by decide) ?_
    refine lv_idiv hx hb dX1_reverse_28 (by decide) ?_
    refine lv_iadd hx hb dX1_reverse_29 ?_
    exact ret dX1_reverse_30 rfl G ⟨Option.some.inj h, rfl⟩
  · have h := g_it h c1
    refine lv_iconst (v := (-1)) hx hb dX1_reverse_5 (by decide) ?_
    exact ret dX1_reverse_6 rfl G ⟨Option.some.inj h, rfl⟩

def fX1_profile (σ : gM) (t : Nat) (a1 : Int32) (a2 : Int32) : Option (Int32) :=
  ((fX1_origin σ a1 a2).bind fun v1 =>
  ((fX5_get σ (t + 1) v1).bind fun v2 =>
  ((fX1_isReversed σ a1 a2).bind fun v3 =>
  (if v3 = 0 then
    some v2
  else
    ((fX1_reverse σ v2).bind fun v5 =>
    some v5)))))
set_option maxHeartbeats 4000000 in
set_option maxRecDepth 100000 in
theorem mX1_profile (l : Launch) (X : gX) (σ : gM) (t : Nat) (a1 : Int32) (a2 : Int32) (r : Int32) (ok : gok1 X t) (h : fX1_profile σ t a1 a2 = some r) : Met l yX1_profile (Cond.code yX1_profile cX1_profile 4 (some .int) :: gBig) ({ frames := 2, cells := 0, slots := 0, locals := 45 }) (gPc X σ [.ref (xN X + t), .int a1, .int a2]) (gQi X σ r) 0 0 (xA X) := by
  refine g_meti (cc := cX1_profile) (maxL := 4) (own := RX1) (by decide) rfl rfl (Nat.le_of_ble_eq_true rfl) ?_
  intro p ev s m args below meth c Q C G ret ls hl
  obtain ⟨⟨hx, hb, hml, hown, hts⟩, hK⟩ := id C
  have hl : lv_has ls 4 [(0, .ref (xN X + t)), (1, .int a1), (2, .int a2)] := hl
  unfold fX1_profile at h
  refine lv_aload_n hx hb dX1_profile_0 rfl (lv_at hl 0 rfl) ?_
  refine gg1_0 C G ok.1 ok.2.1.1 u_fl_RX1_14 dX1_profile_1 ?_
  refine lv_iload_n hx hb dX1_profile_4 rfl (lv_at hl 1 rfl) ?_
  refine lv_iload_n hx hb dX1_profile_5 rfl (lv_at hl 2 rfl) ?_
  obtain ⟨v1, e_v1, h⟩ := g_bind h
  refine g_calli (g_runS (n := 2) (As := [.int a1, .int a2]) (rest := [.ref (xN X + (t + 1))]) C G (mX1_origin l X σ a1 a2 v1 e_v1) (g_goodS u_ml_RX1_31 u_st_yX1_origin u_in_RX1 u_co_yX1_origin) rfl rfl rfl (by decide +kernel) ⟨Nat.le_of_ble_eq_true rfl, Nat.le_of_ble_eq_true rfl⟩ rfl hl.1 rfl (Nat.le_of_ble_eq_true rfl) dX1_profile_6 ⟨Nat.zero_le _, Nat.zero_le _⟩) G (fun H locs G => ?_)
  obtain ⟨v2, e_v2, h⟩ := g_bind h
  refine g_calli (g_runV (n := 1) (As := [.int v1]) (rest := []) C G (mX5_get l X σ (t + 1) v1 v2 ok.2.2.1 e_v2) ok.2.2.1.1.2 (gE_5 ok.2.2.1.1.1) rfl (g_goodV u_ml_RX1_35 u_im_yX5_get u_se_yX5_get u_in_RX5 u_co_yX5_get) rfl rfl rfl (by decide +kernel) ⟨Nat.le_of_ble_eq_true rfl, Nat.le_of_ble_eq_true rfl⟩ rfl hl.1 rfl (Nat.le_of_ble_eq_true rfl) dX1_profile_9 ⟨Nat.zero_le _, Nat.zero_le _⟩) G (fun H locs G => ?_)
  refine lv_istore_n (lv' := [(3, .int v2), (0, .ref (xN X + t)), (1, .int a1), (2, .int a2)]) hx hb dX1_profile_12 rfl hl (by decide) rfl (fun ls hl => ?_)
  refine lv_iload_n hx hb dX1_profile_13 rfl (lv_at hl 2 rfl) ?_
  refine lv_iload_n hx hb dX1_profile_14 rfl (lv_at hl 3 rfl) ?_
  obtain ⟨v3, e_v3, h⟩ := g_bind h
  refine g_calli (g_runS (n := 2) (As := [.int a1, .int a2]) (rest := []) C G (mX1_isReversed l X σ a1 a2 v3 e_v3) (g_goodS u_ml_RX1_39 u_st_yX1_isReversed u_in_RX1 u_co_yX1_isReversed) rfl rfl rfl (by decide +kernel) ⟨Nat.le_of_ble_eq_true rfl, Nat.le_of_ble_eq_true rfl⟩ rfl hl.1 rfl (Nat.le_of_ble_eq_true rfl) dX1_profile_15 ⟨Nat.zero_le _, Nat.zero_le _⟩) G (fun H locs G => ?_)
  refine lv_if_eq (tgt := 28) hx hb dX1_profile_18 (by decide) (fun c4 => ?_) (fun c4 => ?_)
  · have h := g_it h c4
    refine lv_iload_n hx hb dX1_profile_28 rfl (lv_at hl 0 rfl) ?_
    exact ret dX1_profile_29 rfl G ⟨Option.some.inj h, rfl⟩
  · have h := g_if h c4
    refine lv_iload_n hx hb dX1_profile_21 rfl (lv_at hl 0 rfl) ?_
    obtain ⟨v5, e_v5, h⟩ := g_bind h
    refine g_calli (g_runS (n := 1) (As := [.int v2]) (rest := []) C G (mX1_reverse l X σ v2 v5 e_v5) (g_goodS u_ml_RX1_43 u_st_yX1_reverse u_in_RX1 u_co_yX1_reverse) rfl rfl rfl (by decide +kernel) ⟨Nat.le_of_ble_eq_true rfl, Nat.le_of_ble_eq_true rfl⟩ rfl hl.1 rfl (Nat.le_of_ble_eq_true rfl) dX1_profile_22 ⟨Nat.zero_le _, Nat.zero_le _⟩) G (fun H locs G => ?_)
    refine lv_goto (tgt := 29) hx hb dX1_profile_25 (by decide) ?_
    exact ret dX1_profile_29 rfl G ⟨Option.some.inj h, rfl⟩

def fX1_line (σ : gM) (t : Nat) (a1 : Int32) (a2 : Int32) : Option (Int32) :=
  (if (σ t 2) = 0 then
    (if a1 < 4 then
      ((fX1_origin σ a1 a2).bind fun v4 =>
      ((fX5_get σ (t + 3) v4).bind fun v5 =>
      some v5))
    else
      some 0)
  else
    ((fX1_origin σ a1 a2).bind fun v8 =>
    ((fX5_get σ (t + 3) v8).bind fun v9 =>
    some v9)))
set_option maxHeartbeats 4000000 in
set_option maxRecDepth 100000 in
theorem mX1_line (l : Launch) (X : gX) (σ : gM) (t : Nat) (a1 : Int32) (a2 : Int32) (r : Int32) (ok : gok1 X t) (h : fX1_line σ t a1 a2 = some r) : Met l yX1_line (Cond.code yX1_line cX1_line 4 (some .int) :: gBig) ({ frames := 2, cells := 0, slots := 0, locals := 43 }) (gPc X σ [.ref (xN X + t), .int a1, .int a2]) (gQi X σ r) 0 0 (xA X) := by
  refine g_meti (cc := cX1_line) (maxL := 4) (own := RX1) (by decide) rfl rfl (Nat.le_of_ble_eq_true rfl) ?_
  intro p ev s m args below meth c Q C G ret ls hl
  obtain ⟨⟨hx, hb, hml, hown, hts⟩, hK⟩ := id C
  have hl : lv_has ls 4 [(0, .ref (xN X + t)), (1, .int a1), (2, .int a2)] := hl
  unfold fX1_line at h
  refine lv_aload_n hx hb dX1_line_0 rfl (lv_at hl 0 rfl) ?_
  refine gg1_2 C G ok.1 u_fl_RX1_27 dX1_line_1 ?_
  refine lv_if_ne (tgt := 16) hx hb dX1_line_4 (by decide) (fun c1 => ?_) (fun c1 => ?_)
  · have h := g_if h c1
    refine lv_iconst (v := 0) hx hb dX1_line_16 (by decide) ?_
    refine lv_istore_n (lv' := [(3, .int 0), (0, .ref (xN X + t)), (1, .int a1), (2, .int a2)]) hx hb dX1_line_17 rfl hl (by decide) rfl (fun ls hl => ?_)
    refine lv_iload_n hx hb dX1_line_18 rfl (lv_at hl 0 rfl) ?_
    refine lv_if_eq (tgt := 26) hx hb dX1_line_19 (by decide) (fun _ => ?_) (fun c7 => absurd c7 (by decide))
    refine lv_aload_n hx hb dX1_line_26 rfl (lv_at hl 1 rfl) ?_
    refine gg1_1 C G ok.1 ok.2.1.2 u_fl_RX1_20 dX1_line_27 ?_
    refine lv_iload_n hx hb dX1_line_30 rfl (lv_at hl 2 rfl) ?_
    refine lv_iload_n hx hb dX1_line_31 rfl (lv_at hl 3 rfl) ?_
    obtain ⟨v8, e_v8, h⟩ := g_bind h
    refine g_calli (g_runS (n := 2) (As := [.int a1, .int a2]) (rest := [.ref (xN X + (t + 3))]) C G (mX1_origin l X σ a1 a2 v8 e_v8) (g_goodS u_ml_RX1_31 u_st_yX1_origin u_in_RX1 u_co_yX1_origin) rfl rfl rfl (by decide +kernel) ⟨Nat.le_of_ble_eq_true rfl, Nat.le_of_ble_eq_true rfl⟩ rfl hl.1 rfl (Nat.le_of_ble_eq_true rfl) dX1_line_32 ⟨Nat.zero_le _, Nat.zero_le _⟩) G (fun H locs G => ?_)
    obtain ⟨v9, e_v9, h⟩ := g_bind h
    refine g_calli (g_runV (n := 1) (As := [.int v8]) (rest := []) C G (mX5_get l X σ (t + 3) v8 v9 ok.2.2.2 e_v9) ok.2.2.2.1.2 (gE_5 ok.2.2.2.1.1) rfl (g_goodV u_ml_RX1_35 u_im_yX5_get u_se_yX5_get u_in_RX5 u_co_yX5_get) rfl rfl rfl (by decide +kernel) ⟨Nat.le_of_ble_eq_true rfl, Nat.le_of_ble_eq_true rfl⟩ rfl hl.1 rfl (Nat.le_of_ble_eq_true rfl) dX1_line_35 ⟨Nat.zero_le _, Nat.zero_le _⟩) G (fun H locs G => ?_)
    exact ret dX1_line_38 rfl G ⟨Option.some.inj h, rfl⟩
  · have h := g_it h c1
    refine lv_iload_n hx hb dX1_line_7 rfl (lv_at hl 1 rfl) ?_
    refine lv_iconst (v := 4) hx hb dX1_line_8 (by decide) ?_
    refine lv_icmp_lt (tgt := 16) hx hb dX1_line_9 (by decide) (fun c2 => ?_) (fun c2 => ?_)
    · have h := g_it h c2
      refine lv_iconst (v := 0) hx hb dX1_line_16 (by decide) ?_
      refine lv_istore_n (lv' := [(3, .int 0), (0, .ref (xN X + t)), (1, .int a1), (2, .int a2)]) hx hb dX1_line_17 rfl hl (by decide) rfl (fun ls hl => ?_)
      refine lv_iload_n hx hb dX1_line_18 rfl (lv_at hl 0 rfl) ?_
      refine lv_if_eq (tgt := 26) hx hb dX1_line_19 (by decide) (fun _ => ?_) (fun c3 => absurd c3 (by decide))
      refine lv_aload_n hx hb dX1_line_26 rfl (lv_at hl 1 rfl) ?_
      refine gg1_1 C G ok.1 ok.2.1.2 u_fl_RX1_20 dX1_line_27 ?_
      refine lv_iload_n hx hb dX1_line_30 rfl (lv_at hl 2 rfl) ?_
      refine lv_iload_n hx hb dX1_line_31 rfl (lv_at hl 3 rfl) ?_
      obtain ⟨v4, e_v4, h⟩ := g_bind h
      refine g_calli (g_runS (n := 2) (As := [.int a1, .int a2]) (rest := [.ref (xN X + (t + 3))]) C G (mX1_origin l X σ a1 a2 v4 e_v4) (g_goodS u_ml_RX1_31 u_st_yX1_origin u_in_RX1 u_co_yX1_origin) rfl rfl rfl (by decide +kernel) ⟨Nat.le_of_ble_eq_true rfl, Nat.le_of_ble_eq_true rfl⟩ rfl hl.1 rfl (Nat.le_of_ble_eq_true rfl) dX1_line_32 ⟨Nat.zero_le _, Nat.zero_le _⟩) G (fun H locs G => ?_)
      obtain ⟨v5, e_v5, h⟩ := g_bind h
      refine g_calli (g_runV (n := 1) (As := [.int v4]) (rest := []) C G (mX5_get l X σ (t + 3) v4 v5 ok.2.2.2 e_v5) ok.2.2.2.1.2 (gE_5 ok.2.2.2.1.1) rfl (g_goodV u_ml_RX1_35 u_im_yX5_get u_se_yX5_get u_in_RX5 u_co_yX5_get) rfl rfl rfl (by decide +kernel) ⟨Nat.le_of_ble_eq_true rfl, Nat.le_of_ble_eq_true rfl⟩ rfl hl.1 rfl (Nat.le_of_ble_eq_true rfl) dX1_line_35 ⟨Nat.zero_le _, Nat.zero_le _⟩) G (fun H locs G => ?_)
      exact ret dX1_line_38 rfl G ⟨Option.some.inj h, rfl⟩
    · have h := g_if h c2
      refine lv_iconst (v := 1) hx hb dX1_line_12 (by decide) ?_
      refine lv_goto (tgt := 17) hx hb dX1_line_13 (by decide) ?_
      refine lv_istore_n (lv' := [(3, .int 1), (0, .ref (xN X + t)), (1, .int a1), (2, .int a2)]) hx hb dX1_line_17 rfl hl (by decide) rfl (fun ls hl => ?_)
      refine lv_iload_n hx hb dX1_line_18 rfl (lv_at hl 0 rfl) ?_
      refine lv_if_eq (tgt := 26) hx hb dX1_line_19 (by decide) (fun c6 => absurd c6 (by decide)) (fun _ => ?_)
      refine lv_iconst (v := 0) hx hb dX1_line_22 (by decide) ?_
      refine lv_goto (tgt := 38) hx hb dX1_line_23 (by decide) ?_
      exact ret dX1_line_38 rfl G ⟨Option.some.inj h, rfl⟩

def fX6_append_35 (K27 : gM → Int32 → Option (gM)) (t : Nat) (o1 : Nat) : Nat → gM → Int32 → Int32 → Option (gM)
  | 0, _, _, _ => none
  | n + 1, σ, x2, x3 =>
    (if 4 ≤ x3 then
      (gl (x2 + 1) fun w8 =>
      K27 σ w8)
    else
      (gl ((((σ t 3) * 32) + (x2 * 4)) + x3) fun w9 =>
      ((fX1_profile σ o1 x2 x3).bind fun v10 =>
      ((fX5_set σ (t + 3) w9 v10).bind fun σ12 =>
      ((fX1_line σ12 o1 x2 x3).bind fun v13 =>
      ((fX5_set σ12 (t + 5) w9 v13).bind fun σ15 =>
      (gl (x3 + 1) fun w16 =>
      fX6_append_35 K27 t o1 n σ15 x2 w16)))))))

def fX6_append_27 (t : Nat) (o1 : Nat) : Nat → gM → Int32 → Option (gM)
  | 0, _, _ => none
  | n + 1, σ, x2 =>
    (if 8 ≤ x2 then
      (gl (gset σ t (upd (σ t) 3 ((σ t 3) + 1))) fun σ6 =>
      some σ6)
    else
      fX6_append_35 (fun σ2 y2 => fX6_append_27 t o1 n σ2 y2) t o1 gF σ x2 0)

def fX6_append (σ : gM) (t : Nat) (o1 : Nat) : Option (gM) :=
  (if (σ t 3) < 12 then
    ((fX1_kind σ o1).bind fun v2 =>
    ((fX5_set σ (t + 1) (σ t 3) v2).bind fun σ4 =>
    fX6_append_27 t o1 gF σ4 0))
  else
    some σ)
set_option maxHeartbeats 4000000 in
set_option maxRecDepth 100000 in
theorem mX6_append (l : Launch) (X : gX) (σ σ' : gM) (t : Nat) (o1 : Nat) (ok : gok6 X t) (ok1 : gok1 X o1) (h : fX6_append σ t o1 = some σ') : Met l yX6_append (Cond.code yX6_append cX6_append 5 none :: gBig) ({ frames := 3, cells := 0, slots := 0, locals := 68 }) (gPc X σ [.ref (xN X + t), .ref (xN X + o1)]) (gQv X σ') 0 0 (xA X) := by
  refine g_metv (cc := cX6_append) (maxL := 5) (own := RX6) (by decide) rfl rfl (Nat.le_of_ble_eq_true rfl) ?_
  intro p ev s m args below meth c Q C G ret ls hl
  obtain ⟨⟨hx, hb, hml, hown, hts⟩, hK⟩ := id C
  have hl : lv_has ls 5 [(0, .ref (xN X + t)), (1, .ref (xN X + o1))] := hl
  have L35 : ∀ (K27 : gM → Int32 → Option (gM)), (∀ (H : Heap) (locs : List Loc) (ls : Array Slot) (σ : gM) (x2 : Int32), gG X σ s H locs → lv_has ls 5 [(0, .ref (xN X + t)), (1, .ref (xN X + o1)), (2, .int x2)] → K27 σ x2 = some σ' → W p l ev ({ frames := 3, cells := 0, slots := 0, locals := 68 }) s m args below meth c H locs 0 0 Q (F0 m 27 ls [])) → ∀ (n : Nat) (H : Heap) (locs : List Loc) (ls : Array Slot) (σ : gM) (x2 : Int32) (x3 : Int32), gG X σ s H locs → lv_has ls 5 [(0, .ref (xN X + t)), (1, .ref (xN X + o1)), (2, .int x2), (3, .int x3)] → fX6_append_35 K27 t o1 n σ x2 x3 = some σ' → W p l ev ({ frames := 3, cells := 0, slots := 0, locals := 68 }) s m args below meth c H locs 0 0 Q (F0 m 35 ls []) := by
    intro K27 hK27 n
    induction n with
    | zero =>
      intro H locs ls σ x2 x3 G hl h
      rw [fX6_append_35] at h
      cases h
    | succ n ih =>
      intro H locs ls σ x2 x3 G hl h
      rw [fX6_append_35] at h
      refine lv_iload_n hx hb dX6_append_35 rfl (lv_at hl 3 rfl) ?_
      refine lv_iconst (v := 4) hx hb dX6_append_36 (by decide) ?_
      refine lv_icmp_ge (tgt := 91) hx hb dX6_append_37 (by decide) (fun c7 => ?_) (fun c7 => ?_)
      · have h := g_it h c7
        obtain ⟨w8, e_w8⟩ : ∃ y : Int32, y = x2 + 1 := ⟨_, rfl⟩
        have h := g_let2 e_w8 h
        refine lv_iinc (v := w8) (lv' := [(2, .int w8), (0, .ref (xN X + t)), (1, .ref (xN X + o1)), (3, .int x3)]) hx hb dX6_append_91 hl (k := 2) rfl (by rw [e_w8]; rfl) (by decide) rfl (fun ls hl => ?_)
        refine lv_goto (tgt := 27) hx hb dX6_append_94 (by decide) ?_
        exact hK27 _ _ _ σ w8 G (lv_sub hl [1, 2, 0] rfl) h
      · have h := g_if h c7
        refine lv_aload_n hx hb dX6_append_40 rfl (lv_at hl 0 rfl) ?_
        refine gg6_3 C G ok.1 u_fl_RX6_26 dX6_append_41 ?_
        refine lv_bipush (v := 32) hx hb dX6_append_44 (by decide) ?_
        refine lv_imul hx hb dX6_append_46 ?_
        refine lv_iload_n hx hb dX6_append_47 rfl (lv_at hl 2 rfl) ?_
        refine lv_iconst (v := 4) hx hb dX6_append_48 (by decide) ?_
        refine lv_imul hx hb dX6_append_49 ?_
        refine lv_iadd hx hb dX6_append_50 ?_
        refine lv_iload_n hx hb dX6_append_51 rfl (lv_at hl 3 rfl) ?_
        refine lv_iadd hx hb dX6_append_52 ?_
        refine lv_topi (fun w9 e_w9 => ?_)
        have h := g_let2 e_w9 h
        refine lv_istore (lv' := [(4, .int w9), (0, .ref (xN X + t)), (1, .ref (xN X + o1)), (2, .int x2), (3, .int x3)]) hx hb dX6_append_53 hl (by decide) rfl (fun ls hl => ?_)
        refine lv_aload_n hx hb dX6_append_55 rfl (lv_at hl 1 rfl) ?_
        refine gg6_1 C G ok.1 ok.2.1.2.1 u_fl_RX6_20 dX6_append_56 ?_
        refine lv_iload hx hb dX6_append_59 (lv_at hl 0 rfl) ?_
        refine lv_aload_n hx hb dX6_append_61 rfl (lv_at hl 2 rfl) ?_
        refine lv_iload_n hx hb dX6_append_62 rfl (lv_at hl 3 rfl) ?_
        refine lv_iload_n hx hb dX6_append_63 rfl (lv_at hl 4 rfl) ?_
        obtain ⟨v10, e_v10, h⟩ := g_bind h
        refine g_calli (g_runV (n := 2) (As := [.int x2, .int x3]) (rest := [.int w9, .ref (xN X + (t + 3))]) C G (mX1_profile l X σ o1 x2 x3 v10 ok1 e_v10) ok1.1.2 (gE_1 ok1.1.1) rfl (g_goodV u_ml_RX6_44 u_im_yX1_profile u_se_yX1_profile u_in_RX1 u_co_yX1_profile) rfl rfl rfl (by decide +kernel) ⟨Nat.le_of_ble_eq_true rfl, Nat.le_of_ble_eq_true rfl⟩ rfl hl.1 rfl (Nat.le_of_ble_eq_true rfl) dX6_append_64 ⟨Nat.zero_le _, Nat.zero_le _⟩) G (fun H locs G => ?_)
        obtain ⟨σ12, e_σ12, h⟩ := g_bind h
        refine g_callv (g_runV (n := 2) (As := [.int w9, .int v10]) (rest := []) C G (mX5_set l X σ σ12 (t + 3) w9 v10 ok.2.2.2.1 e_σ12) ok.2.2.2.1.1.2 (gE_5 ok.2.2.2.1.1.1) rfl (g_goodV u_ml_RX6_40 u_im_yX5_set u_se_yX5_set u_in_RX5 u_co_yX5_set) rfl rfl rfl (by decide +kernel) ⟨Nat.le_of_ble_eq_true rfl, Nat.le_of_ble_eq_true rfl⟩ rfl hl.1 rfl (Nat.le_of_ble_eq_true rfl) dX6_append_67 ⟨Nat.zero_le _, Nat.zero_le _⟩) G (fun H locs G => ?_)
        refine lv_aload_n hx hb dX6_append_70 rfl (lv_at hl 1 rfl) ?_
        refine gg6_2 C G ok.1 ok.2.1.2.2 u_fl_RX6_23 dX6_append_71 ?_
        refine lv_iload hx hb dX6_append_74 (lv_at hl 0 rfl) ?_
        refine lv_aload_n hx hb dX6_append_76 rfl (lv_at hl 2 rfl) ?_
        refine lv_iload_n hx hb dX6_append_77 rfl (lv_at hl 3 rfl) ?_
        refine lv_iload_n hx hb dX6_append_78 rfl (lv_at hl 4 rfl) ?_
        obtain ⟨v13, e_v13, h⟩ := g_bind h
        refine g_calli (g_runV (n := 2) (As := [.int x2, .int x3]) (rest := [.int w9, .ref (xN X + (t + 5))]) C G (mX1_line l X σ12 o1 x2 x3 v13 ok1 e_v13) ok1.1.2 (gE_1 ok1.1.1) rfl (g_goodV u_ml_RX6_48 u_im_yX1_line u_se_yX1_line u_in_RX1 u_co_yX1_line) rfl rfl rfl (by decide +kernel) ⟨Nat.le_of_ble_eq_true rfl, Nat.le_of_ble_eq_true rfl⟩ rfl hl.1 rfl (Nat.le_of_ble_eq_true rfl) dX6_append_79 ⟨Nat.zero_le _, Nat.zero_le _⟩) G (fun H locs G => ?_)
        obtain ⟨σ15, e_σ15, h⟩ := g_bind h
        refine g_callv (g_runV (n := 2) (As := [.int w9, .int v13]) (rest := []) C G (mX5_set l X σ12 σ15 (t + 5) w9 v13 ok.2.2.2.2 e_σ15) ok.2.2.2.2.1.2 (gE_5 ok.2.2.2.2.1.1) rfl (g_goodV u_ml_RX6_40 u_im_yX5_set u_se_yX5_set u_in_RX5 u_co_yX5_set) rfl rfl rfl (by decide +kernel) ⟨Nat.le_of_ble_eq_true rfl, Nat.le_of_ble_eq_true rfl⟩ rfl hl.1 rfl (Nat.le_of_ble_eq_true rfl) dX6_append_82 ⟨Nat.zero_le _, Nat.zero_le _⟩) G (fun H locs G => ?_)
        obtain ⟨w16, e_w16⟩ : ∃ y : Int32, y = x3 + 1 := ⟨_, rfl⟩
        have h := g_let2 e_w16 h
        refine lv_iinc (v := w16) (lv' := [(3, .int w16), (4, .int w9), (0, .ref (xN X + t)), (1, .ref (xN X + o1)), (2, .int x2)]) hx hb dX6_append_85 hl (k := 4) rfl (by rw [e_w16]; rfl) (by decide) rfl (fun ls hl => ?_)
        refine lv_goto (tgt := 35) hx hb dX6_append_88 (by decide) ?_
        exact ih _ _ _ σ15 x2 w16 G (lv_sub hl [2, 3, 4, 0] rfl) h
  have L27 : ∀ (n : Nat) (H : Heap) (locs : List Loc) (ls : Array Slot) (σ : gM) (x2 : Int32), gG X σ s H locs → lv_has ls 5 [(0, .ref (xN X + t)), (1, .ref (xN X + o1)), (2, .int x2)] → fX6_append_27 t o1 n σ x2 = some σ' → W p l ev ({ frames := 3, cells := 0, slots := 0, locals := 68 }) s m args below meth c H locs 0 0 Q (F0 m 27 ls []) := by
    intro n
    induction n with
    | zero =>
      intro H locs ls σ x2 G hl h
      rw [fX6_append_27] at h
      cases h
    | succ n ih =>
      intro H locs ls σ x2 G hl h
      rw [fX6_append_27] at h
      refine lv_iload_n hx hb dX6_append_27 rfl (lv_at hl 2 rfl) ?_
      refine lv_bipush (v := 8) hx hb dX6_append_28 (by decide) ?_
      refine lv_icmp_ge (tgt := 97) hx hb dX6_append_30 (by decide) (fun c5 => ?_) (fun c5 => ?_)
      · have h := g_it h c5
        refine lv_aload_n hx hb dX6_append_97 rfl (lv_at hl 0 rfl) ?_
        refine lv_dup hx hb dX6_append_98 rfl ?_
        refine gg6_3 C G ok.1 u_fl_RX6_26 dX6_append_99 ?_
        refine lv_iconst (v := 1) hx hb dX6_append_102 (by decide) ?_
        refine lv_iadd hx hb dX6_append_103 ?_
        obtain ⟨σ6, e_σ6, h⟩ := g_let h
        refine gp6_3 C G ok.1 u_fl_RX6_26 dX6_append_104 (fun H locs G => ?_)
        rw [e_σ6] at G
        exact ret dX6_append_107 G (Option.some.inj h)
      · have h := g_if h c5
        refine lv_iconst (v := 0) hx hb dX6_append_33 (by decide) ?_
        refine lv_istore_n (lv' := [(3, .int 0), (0, .ref (xN X + t)), (1, .ref (xN X + o1)), (2, .int x2)]) hx hb dX6_append_34 rfl hl (by decide) rfl (fun ls hl => ?_)
        exact L35 (fun σ2 y2 => fX6_append_27 t o1 n σ2 y2) (fun H locs ls σ2 y2 G hl h => ih H locs ls σ2 y2 G hl h) gF _ _ _ σ x2 0 G (lv_sub hl [1, 2, 3, 0] rfl) h
  unfold fX6_append at h
  refine lv_aload_n hx hb dX6_append_0 rfl (lv_at hl 0 rfl) ?_
  refine gg6_3 C G ok.1 u_fl_RX6_26 dX6_append_1 ?_
  refine lv_bipush (v := 12) hx hb dX6_append_4 (by decide) ?_
  refine lv_icmp_lt (tgt := 10) hx hb dX6_append_6 (by decide) (fun c1 => ?_) (fun c1 => ?_)
  · have h := g_it h c1
    refine lv_aload_n hx hb dX6_append_10 rfl (lv_at hl 0 rfl) ?_
    refine gg6_0 C G ok.1 ok.2.1.1 u_fl_RX6_14 dX6_append_11 ?_
    refine lv_aload_n hx hb dX6_append_14 rfl (lv_at hl 0 rfl) ?_
    refine gg6_3 C G ok.1 u_fl_RX6_26 dX6_append_15 ?_
    refine lv_aload_n hx hb dX6_append_18 rfl (lv_at hl 1 rfl) ?_
    obtain ⟨v2, e_v2, h⟩ := g_bind h
    refine g_calli (g_runV (n := 0) (As := []) (rest := [.int (σ t 3), .ref (xN X + (t + 1))]) C G (mX1_kind l X σ o1 v2 ok1 e_v2) ok1.1.2 (gE_1 ok1.1.1) rfl (g_goodV u_ml_RX6_34 u_im_yX1_kind u_se_yX1_kind u_in_RX1 u_co_yX1_kind) rfl rfl rfl (by decide +kernel) ⟨Nat.le_of_ble_eq_true rfl, Nat.le_of_ble_eq_true rfl⟩ rfl hl.1 rfl (Nat.le_of_ble_eq_true rfl) dX6_append_19 ⟨Nat.zero_le _, Nat.zero_le _⟩) G (fun H locs G => ?_)
    obtain ⟨σ4, e_σ4, h⟩ := g_bind h
    refine g_callv (g_runV (n := 2) (As := [.int (σ t 3), .int v2]) (rest := []) C G (mX5_set l X σ σ4 (t + 1) (σ t 3) v2 ok.2.2.1 e_σ4) ok.2.2.1.1.2 (gE_5 ok.2.2.1.1.1) rfl (g_goodV u_ml_RX6_40 u_im_yX5_set u_se_yX5_set u_in_RX5 u_co_yX5_set) rfl rfl rfl (by decide +kernel) ⟨Nat.le_of_ble_eq_true rfl, Nat.le_of_ble_eq_true rfl⟩ rfl hl.1 rfl (Nat.le_of_ble_eq_true rfl) dX6_append_22 ⟨Nat.zero_le _, Nat.zero_le _⟩) G (fun H locs G => ?_)
    refine lv_iconst (v := 0) hx hb dX6_append_25 (by decide) ?_
    refine lv_istore_n (lv' := [(2, .int 0), (0, .ref (xN X + t)), (1, .ref (xN X + o1))]) hx hb dX6_append_26 rfl hl (by decide) rfl (fun ls hl => ?_)
    exact L27  gF _ _ _ σ4 0 G (lv_sub hl [1, 2, 0] rfl) h
  · have h := g_if h c1
    exact ret dX6_append_9 G (Option.some.inj h)

def fX8_append (σ : gM) (t : Nat) (o1 : Nat) : Option (Int32 × gM) :=
  ((fX3_keep σ (t + 31) (t + 1)).bind fun σ2 =>
  ((fX6_append σ2 ((t + 1) + 1) o1).bind fun σ4 =>
  ((fX6_size σ4 ((t + 1) + 1)).bind fun v5 =>
  some ((v5 - 1), σ4))))
set_option maxHeartbeats 4000000 in
set_option maxRecDepth 100000 in
theorem mX8_append (l : Launch) (X : gX) (σ σ' : gM) (t : Nat) (o1 : Nat) (r : Int32) (ok : gok8 X t) (ok1 : gok1 X o1) (h : fX8_append σ t o1 = some (r, σ')) : Met l yX8_append (Cond.code yX8_append cX8_append 2 (some .int) :: gBig) ({ frames := 5, cells := 0, slots := 0, locals := 150 }) (gPc X σ [.ref (xN X + t), .ref (xN X + o1)]) (gQi X σ' r) 0 0 (xA X) := by
  refine g_meti (cc := cX8_append) (maxL := 2) (own := RX8) (by decide) rfl rfl (Nat.le_of_ble_eq_true rfl) ?_
  intro p ev s m args below meth c Q C G ret ls hl
  obtain ⟨⟨hx, hb, hml, hown, hts⟩, hK⟩ := id C
  have hl : lv_has ls 2 [(0, .ref (xN X + t)), (1, .ref (xN X + o1))] := hl
  unfold fX8_append at h
  refine lv_aload_n hx hb dX8_append_0 rfl (lv_at hl 0 rfl) ?_
  refine gg8_2 C G ok.1 ok.2.1.2.2.1 u_fl_RX8_22 dX8_append_1 ?_
  refine lv_aload_n hx hb dX8_append_4 rfl (lv_at hl 0 rfl) ?_
  refine gg8_0 C G ok.1 ok.2.1.1 u_fl_RX8_10 dX8_append_5 ?_
  obtain ⟨σ2, e_σ2, h⟩ := g_bind h
  refine g_callv (g_runV (n := 1) (As := [.ref (xN X + (t + 1))]) (rest := []) C G (mX3_keep l X σ σ2 (t + 31) (t + 1) ok.2.2.2.2.1 ok.2.2.1 e_σ2) ok.2.2.2.2.1.1.2 (gE_3 ok.2.2.2.2.1.1.1) rfl (g_goodV u_ml_RX8_55 u_im_yX3_keep u_se_yX3_keep u_in_RX3 u_co_yX3_keep) rfl rfl rfl (by decide +kernel) ⟨Nat.le_of_ble_eq_true rfl, Nat.le_of_ble_eq_true rfl⟩ rfl hl.1 rfl (Nat.le_of_ble_eq_true rfl) dX8_append_8 ⟨Nat.zero_le _, Nat.zero_le _⟩) G (fun H locs G => ?_)
  refine lv_aload_n hx hb dX8_append_11 rfl (lv_at hl 0 rfl) ?_
  refine gg8_0 C G ok.1 ok.2.1.1 u_fl_RX8_10 dX8_append_12 ?_
  refine gn0_0 C G ok.2.2.1.1 ok.2.2.1.2.1.1 (List.mem_of_getElem? (i := 1) rfl) dX8_append_15 ?_
  refine lv_aload_n hx hb dX8_append_18 rfl (lv_at hl 1 rfl) ?_
  obtain ⟨σ4, e_σ4, h⟩ := g_bind h
  refine g_callv (g_runV (n := 1) (As := [.ref (xN X + o1)]) (rest := []) C G (mX6_append l X σ2 σ4 ((t + 1) + 1) o1 ok.2.2.1.2.2.1 ok1 e_σ4) ok.2.2.1.2.2.1.1.2 (gE_6 ok.2.2.1.2.2.1.1.1) rfl (g_goodV u_ml_RX8_227 u_im_yX6_append u_se_yX6_append u_in_RX6 u_co_yX6_append) rfl rfl rfl (by decide +kernel) ⟨Nat.le_of_ble_eq_true rfl, Nat.le_of_ble_eq_true rfl⟩ rfl hl.1 rfl (Nat.le_of_ble_eq_true rfl) dX8_append_19 ⟨Nat.zero_le _, Nat.zero_le _⟩) G (fun H locs G => ?_)
  refine lv_aload_n hx hb dX8_append_22 rfl (lv_at hl 0 rfl) ?_
  refine gg8_0 C G ok.1 ok.2.1.1 u_fl_RX8_10 dX8_append_23 ?_
  refine gn0_0 C G ok.2.2.1.1 ok.2.2.1.2.1.1 (List.mem_of_getElem? (i := 1) rfl) dX8_append_26 ?_
  obtain ⟨v5, e_v5, h⟩ := g_bind h
  refine g_calli (g_runV (n := 0) (As := []) (rest := []) C G (mX6_size l X σ4 ((t + 1) + 1) v5 ok.2.2.1.2.2.1 e_v5) ok.2.2.1.2.2.1.1.2 (gE_6 ok.2.2.1.2.2.1.1.1) rfl (g_goodV u_ml_RX8_77 u_im_yX6_size u_se_yX6_size u_in_RX6 u_co_yX6_size) rfl rfl rfl (by decide +kernel) ⟨Nat.le_of_ble_eq_true rfl, Nat.le_of_ble_eq_true rfl⟩ rfl hl.1 rfl (Nat.le_of_ble_eq_true rfl) dX8_append_29 ⟨Nat.zero_le _, Nat.zero_le _⟩) G (fun H locs G => ?_)
  refine lv_iconst (v := 1) hx hb dX8_append_32 (by decide) ?_
  refine lv_isub hx hb dX8_append_33 ?_
  exact ret dX8_append_34 rfl G (Prod.mk.inj (Option.some.inj h))
