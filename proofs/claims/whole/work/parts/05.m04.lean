def fX0_countSeams_17 (K4 : Int32 → Int32 → Option (Int32)) (σ : gM) (t : Nat) : Nat → Int32 → Int32 → Int32 → Option (Int32)
  | 0, _, _, _ => none
  | n + 1, x1, x2, x3 =>
    (if 2 < x3 then
      (gl (x2 + 1) fun w4 =>
      K4 x1 w4)
    else
      ((fX0_neighbourOnPage σ t x2 x3).bind fun v5 =>
      (if v5 = (-1) then
        (gl (x3 + 1) fun w7 =>
        fX0_countSeams_17 K4 σ t n x1 x2 w7)
      else
        (gl (x1 + 1) fun w8 =>
        (gl (x3 + 1) fun w9 =>
        fX0_countSeams_17 K4 σ t n w8 x2 w9)))))

def fX0_countSeams_4 (σ : gM) (t : Nat) : Nat → Int32 → Int32 → Option (Int32)
  | 0, _, _ => none
  | n + 1, x1, x2 =>
    ((fX6_size σ (t + 1)).bind fun v1 =>
    (if v1 ≤ x2 then
      some x1
    else
      fX0_countSeams_17 (fun y1 y2 => fX0_countSeams_4 σ t n y1 y2) σ t gF x1 x2 1))

def fX0_countSeams (σ : gM) (t : Nat) : Option (Int32) :=
  fX0_countSeams_4 σ t gF 0 0
set_option maxHeartbeats 4000000 in
set_option maxRecDepth 100000 in
theorem mX0_countSeams (l : Launch) (X : gX) (σ : gM) (t : Nat) (r : Int32) (ok : gok0 X t) (h : fX0_countSeams σ t = some r) : Met l yX0_countSeams (Cond.code yX0_countSeams cX0_countSeams 4 (some .int) :: gBig) ({ frames := 4, cells := 0, slots := 0, locals := 90 }) (gPc X σ [.ref (xN X + t)]) (gQi X σ r) 0 0 (xA X) := by
  refine g_meti (cc := cX0_countSeams) (maxL := 4) (own := RX0) (by decide) rfl rfl (Nat.le_of_ble_eq_true rfl) ?_
  intro p ev s m args below meth c Q C G ret ls hl
  obtain ⟨⟨hx, hb, hml, hown, hts⟩, hK⟩ := id C
  have hl : lv_has ls 4 [(0, .ref (xN X + t))] := hl
  have L17 : ∀ (K4 : Int32 → Int32 → Option (Int32)), (∀ (H : Heap) (locs : List Loc) (ls : Array Slot) (x1 : Int32) (x2 : Int32), gG X σ s H locs → lv_has ls 4 [(0, .ref (xN X + t)), (1, .int x1), (2, .int x2)] → K4 x1 x2 = some r → W p l ev ({ frames := 4, cells := 0, slots := 0, locals := 90 }) s m args below meth c H locs 0 0 Q (F0 m 4 ls [])) → ∀ (n : Nat) (H : Heap) (locs : List Loc) (ls : Array Slot) (x1 : Int32) (x2 : Int32) (x3 : Int32), gG X σ s H locs → lv_has ls 4 [(0, .ref (xN X + t)), (1, .int x1), (2, .int x2), (3, .int x3)] → fX0_countSeams_17 K4 σ t n x1 x2 x3 = some r → W p l ev ({ frames := 4, cells := 0, slots := 0, locals := 90 }) s m args below meth c H locs 0 0 Q (F0 m 17 ls []) := by
    intro K4 hK4 n
    induction n with
    | zero =>
      intro H locs ls x1 x2 x3 G hl h
      rw [fX0_countSeams_17] at h
      cases h
    | succ n ih =>
      intro H locs ls x1 x2 x3 G hl h
      rw [fX0_countSeams_17] at h
      refine lv_iload_n hx hb dX0_countSeams_17 rfl (lv_at hl 3 rfl) ?_
      refine lv_iconst (v := 2) hx hb dX0_countSeams_18 (by decide) ?_
      refine lv_icmp_gt (tgt := 41) hx hb dX0_countSeams_19 (by decide) (fun c3 => ?_) (fun c3 => ?_)
      · have h := g_it h c3
        obtain ⟨w4, e_w4⟩ : ∃ y : Int32, y = x2 + 1 := ⟨_, rfl⟩
        have h := g_let2 e_w4 h
        refine lv_iinc (v := w4) (lv' := [(2, .int w4), (0, .ref (xN X + t)), (1, .int x1), (3, .int x3)]) hx hb dX0_countSeams_41 hl (k := 2) rfl (by rw [e_w4]; rfl) (by decide) rfl (fun ls hl => ?_)
        refine lv_goto (tgt := 4) hx hb dX0_countSeams_44 (by decide) ?_
        exact hK4 _ _ _ x1 w4 G (lv_sub hl [1, 2, 0] rfl) h
      · have h := g_if h c3
        refine lv_aload_n hx hb dX0_countSeams_22 rfl (lv_at hl 0 rfl) ?_
        refine lv_iload_n hx hb dX0_countSeams_23 rfl (lv_at hl 2 rfl) ?_
        refine lv_iload_n hx hb dX0_countSeams_24 rfl (lv_at hl 3 rfl) ?_
        obtain ⟨v5, e_v5, h⟩ := g_bind h
        refine g_calli (g_runV (n := 2) (As := [.int x2, .int x3]) (rest := []) C G (mX0_neighbourOnPage l X σ t x2 x3 v5 ok e_v5) ok.1.2 (gE_0 ok.1.1) rfl (g_goodV u_ml_RX0_80 u_im_yX0_neighbourOnPage u_se_yX0_neighbourOnPage u_in_RX0 u_co_yX0_neighbourOnPage) rfl rfl rfl (by decide +kernel) ⟨Nat.le_of_ble_eq_true rfl, Nat.le_of_ble_eq_true rfl⟩ rfl hl.1 rfl (Nat.le_of_ble_eq_true rfl) dX0_countSeams_25 ⟨Nat.zero_le _, Nat.zero_le _⟩) G (fun H locs G => ?_)
        refine lv_iconst (v := (-1)) hx hb dX0_countSeams_28 (by decide) ?_
        refine lv_icmp_eq (tgt := 35) hx hb dX0_countSeams_29 (by decide) (fun c6 => ?_) (fun c6 => ?_)
        · have h := g_it h c6
          obtain ⟨w7, e_w7⟩ : ∃ y : Int32, y = x3 + 1 := ⟨_, rfl⟩
          have h := g_let2 e_w7 h
          refine lv_iinc (v := w7) (lv' := [(3, .int w7), (0, .ref (xN X + t)), (1, .int x1), (2, .int x2)]) hx hb dX0_countSeams_35 hl (k := 3) rfl (by rw [e_w7]; rfl) (by decide) rfl (fun ls hl => ?_)
          refine lv_goto (tgt := 17) hx hb dX0_countSeams_38 (by decide) ?_
          exact ih _ _ _ x1 x2 w7 G (lv_sub hl [1, 2, 3, 0] rfl) h
        · have h := g_if h c6
          obtain ⟨w8, e_w8⟩ : ∃ y : Int32, y = x1 + 1 := ⟨_, rfl⟩
          have h := g_let2 e_w8 h
          refine lv_iinc (v := w8) (lv' := [(1, .int w8), (0, .ref (xN X + t)), (2, .int x2), (3, .int x3)]) hx hb dX0_countSeams_32 hl (k := 1) rfl (by rw [e_w8]; rfl) (by decide) rfl (fun ls hl => ?_)
          obtain ⟨w9, e_w9⟩ : ∃ y : Int32, y = x3 + 1 := ⟨_, rfl⟩
          have h := g_let2 e_w9 h
          refine lv_iinc (v := w9) (lv' := [(3, .int w9), (1, .int w8), (0, .ref (xN X + t)), (2, .int x2)]) hx hb dX0_countSeams_35 hl (k := 3) rfl (by rw [e_w9]; rfl) (by decide) rfl (fun ls hl => ?_)
          refine lv_goto (tgt := 17) hx hb dX0_countSeams_38 (by decide) ?_
          exact ih _ _ _ w8 x2 w9 G (lv_sub hl [2, 1, 3, 0] rfl) h
  have L4 : ∀ (n : Nat) (H : Heap) (locs : List Loc) (ls : Array Slot) (x1 : Int32) (x2 : Int32), gG X σ s H locs → lv_has ls 4 [(0, .ref (xN X + t)), (1, .int x1), (2, .int x2)] → fX0_countSeams_4 σ t n x1 x2 = some r → W p l ev ({ frames := 4, cells := 0, slots := 0, locals := 90 }) s m args below meth c H locs 0 0 Q (F0 m 4 ls []) := by
    intro n
    induction n with
    | zero =>
      intro H locs ls x1 x2 G hl h
      rw [fX0_countSeams_4] at h
      cases h
    | succ n ih =>
      intro H locs ls x1 x2 G hl h
      rw [fX0_countSeams_4] at h
      refine lv_iload_n hx hb dX0_countSeams_4 rfl (lv_at hl 2 rfl) ?_
      refine lv_aload_n hx hb dX0_countSeams_5 rfl (lv_at hl 0 rfl) ?_
      refine gg0_0 C G ok.1 ok.2.1.1 u_fl_RX0_12 dX0_countSeams_6 ?_
      obtain ⟨v1, e_v1, h⟩ := g_bind h
      refine g_calli (g_runV (n := 0) (As := []) (rest := [.int x2]) C G (mX6_size l X σ (t + 1) v1 ok.2.2.1 e_v1) ok.2.2.1.1.2 (gE_6 ok.2.2.1.1.1) rfl (g_goodV u_ml_RX0_37 u_im_yX6_size u_se_yX6_size u_in_RX6 u_co_yX6_size) rfl rfl rfl (by decide +kernel) ⟨Nat.le_of_ble_eq_true rfl, Nat.le_of_ble_eq_true rfl⟩ rfl hl.1 rfl (Nat.le_of_ble_eq_true rfl) dX0_countSeams_9 ⟨Nat.zero_le _, Nat.zero_le _⟩) G (fun H locs G => ?_)
      refine lv_icmp_ge (tgt := 47) hx hb dX0_countSeams_12 (by decide) (fun c2 => ?_) (fun c2 => ?_)
      · have h := g_it h c2
        refine lv_iload_n hx hb dX0_countSeams_47 rfl (lv_at hl 1 rfl) ?_
        exact ret dX0_countSeams_48 rfl G ⟨Option.some.inj h, rfl⟩
      · have h := g_if h c2
        refine lv_iconst (v := 1) hx hb dX0_countSeams_15 (by decide) ?_
        refine lv_istore_n (lv' := [(3, .int 1), (0, .ref (xN X + t)), (1, .int x1), (2, .int x2)]) hx hb dX0_countSeams_16 rfl hl (by decide) rfl (fun ls hl => ?_)
        exact L17 (fun y1 y2 => fX0_countSeams_4 σ t n y1 y2) (fun H locs ls y1 y2 G hl h => ih H locs ls y1 y2 G hl h) gF _ _ _ x1 x2 1 G (lv_sub hl [1, 2, 3, 0] rfl) h
  unfold fX0_countSeams at h
  refine lv_iconst (v := 0) hx hb dX0_countSeams_0 (by decide) ?_
  refine lv_istore_n (lv' := [(1, .int 0), (0, .ref (xN X + t))]) hx hb dX0_countSeams_1 rfl hl (by decide) rfl (fun ls hl => ?_)
  refine lv_iconst (v := 0) hx hb dX0_countSeams_2 (by decide) ?_
  refine lv_istore_n (lv' := [(2, .int 0), (1, .int 0), (0, .ref (xN X + t))]) hx hb dX0_countSeams_3 rfl hl (by decide) rfl (fun ls hl => ?_)
  exact L4  gF _ _ _ 0 0 G (lv_sub hl [2, 1, 0] rfl) h

def fX0_countFittingSeams_17 (K4 : Int32 → Int32 → Option (Int32)) (σ : gM) (t : Nat) : Nat → Int32 → Int32 → Int32 → Option (Int32)
  | 0, _, _, _ => none
  | n + 1, x1, x2, x3 =>
    (if 2 < x3 then
      (gl (x2 + 1) fun w4 =>
      K4 x1 w4)
    else
      ((fX0_isJoined σ t x2 x3).bind fun v5 =>
      (if v5 = 0 then
        (gl (x3 + 1) fun w7 =>
        fX0_countFittingSeams_17 K4 σ t n x1 x2 w7)
      else
        (gl (x1 + 1) fun w8 =>
        (gl (x3 + 1) fun w9 =>
        fX0_countFittingSeams_17 K4 σ t n w8 x2 w9)))))

def fX0_countFittingSeams_4 (σ : gM) (t : Nat) : Nat → Int32 → Int32 → Option (Int32)
  | 0, _, _ => none
  | n + 1, x1, x2 =>
    ((fX6_size σ (t + 1)).bind fun v1 =>
    (if v1 ≤ x2 then
      some x1
    else
      fX0_countFittingSeams_17 (fun y1 y2 => fX0_countFittingSeams_4 σ t n y1 y2) σ t gF x1 x2 1))

def fX0_countFittingSeams (σ : gM) (t : Nat) : Option (Int32) :=
  fX0_countFittingSeams_4 σ t gF 0 0
set_option maxHeartbeats 4000000 in
set_option maxRecDepth 100000 in
theorem mX0_countFittingSeams (l : Launch) (X : gX) (σ : gM) (t : Nat) (r : Int32) (ok : gok0 X t) (h : fX0_countFittingSeams σ t = some r) : Met l yX0_countFittingSeams (Cond.code yX0_countFittingSeams cX0_countFittingSeams 4 (some .int) :: gBig) ({ frames := 4, cells := 0, slots := 0, locals := 98 }) (gPc X σ [.ref (xN X + t)]) (gQi X σ r) 0 0 (xA X) := by
  refine g_meti (cc := cX0_countFittingSeams) (maxL := 4) (own := RX0) (by decide) rfl rfl (Nat.le_of_ble_eq_true rfl) ?_
  intro p ev s m args below meth c Q C G ret ls hl
  obtain ⟨⟨hx, hb, hml, hown, hts⟩, hK⟩ := id C
  have hl : lv_has ls 4 [(0, .ref (xN X + t))] := hl
  have L17 : ∀ (K4 : Int32 → Int32 → Option (Int32)), (∀ (H : Heap) (locs : List Loc) (ls : Array Slot) (x1 : Int32) (x2 : Int32), gG X σ s H locs → lv_has ls 4 [(0, .ref (xN X + t)), (1, .int x1), (2, .int x2)] → K4 x1 x2 = some r → W p l ev ({ frames := 4, cells := 0, slots := 0, locals := 98 }) s m args below meth c H locs 0 0 Q (F0 m 4 ls [])) → ∀ (n : Nat) (H : Heap) (locs : List Loc) (ls : Array Slot) (x1 : Int32) (x2 : Int32) (x3 : Int32), gG X σ s H locs → lv_has ls 4 [(0, .ref (xN X + t)), (1, .int x1), (2, .int x2), (3, .int x3)] → fX0_countFittingSeams_17 K4 σ t n x1 x2 x3 = some r → W p l ev ({ frames := 4, cells := 0, slots := 0, locals := 98 }) s m args below meth c H locs 0 0 Q (F0 m 17 ls []) := by
    intro K4 hK4 n
    induction n with
    | zero =>
      intro H locs ls x1 x2 x3 G hl h
      rw [fX0_countFittingSeams_17] at h
      cases h
    | succ n ih =>
      intro H locs ls x1 x2 x3 G hl h
      rw [fX0_countFittingSeams_17] at h
      refine lv_iload_n hx hb dX0_countFittingSeams_17 rfl (lv_at hl 3 rfl) ?_
      refine lv_iconst (v := 2) hx hb dX0_countFittingSeams_18 (by decide) ?_
      refine lv_icmp_gt (tgt := 40) hx hb dX0_countFittingSeams_19 (by decide) (fun c3 => ?_) (fun c3 => ?_)
      · have h := g_it h c3
        obtain ⟨w4, e_w4⟩ : ∃ y : Int32, y = x2 + 1 := ⟨_, rfl⟩
        have h := g_let2 e_w4 h
        refine lv_iinc (v := w4) (lv' := [(2, .int w4), (0, .ref (xN X + t)), (1, .int x1), (3, .int x3)]) hx hb dX0_countFittingSeams_40 hl (k := 2) rfl (by rw [e_w4]; rfl) (by decide) rfl (fun ls hl => ?_)
        refine lv_goto (tgt := 4) hx hb dX0_countFittingSeams_43 (by decide) ?_
        exact hK4 _ _ _ x1 w4 G (lv_sub hl [1, 2, 0] rfl) h
      · have h := g_if h c3
        refine lv_aload_n hx hb dX0_countFittingSeams_22 rfl (lv_at hl 0 rfl) ?_
        refine lv_iload_n hx hb dX0_countFittingSeams_23 rfl (lv_at hl 2 rfl) ?_
        refine lv_iload_n hx hb dX0_countFittingSeams_24 rfl (lv_at hl 3 rfl) ?_
        obtain ⟨v5, e_v5, h⟩ := g_bind h
        refine g_calli (g_runV (n := 2) (As := [.int x2, .int x3]) (rest := []) C G (mX0_isJoined l X σ t x2 x3 v5 ok e_v5) ok.1.2 (gE_0 ok.1.1) rfl (g_goodV u_ml_RX0_83 u_im_yX0_isJoined u_se_yX0_isJoined u_in_RX0 u_co_yX0_isJoined) rfl rfl rfl (by decide +kernel) ⟨Nat.le_of_ble_eq_true rfl, Nat.le_of_ble_eq_true rfl⟩ rfl hl.1 rfl (Nat.le_of_ble_eq_true rfl) dX0_countFittingSeams_25 ⟨Nat.zero_le _, Nat.zero_le _⟩) G (fun H locs G => ?_)
        refine lv_if_eq (tgt := 34) hx hb dX0_countFittingSeams_28 (by decide) (fun c6 => ?_) (fun c6 => ?_)
        · have h := g_it h c6
          obtain ⟨w7, e_w7⟩ : ∃ y : Int32, y = x3 + 1 := ⟨_, rfl⟩
          have h := g_let2 e_w7 h
          refine lv_iinc (v := w7) (lv' := [(3, .int w7), (0, .ref (xN X + t)), (1, .int x1), (2, .int x2)]) hx hb dX0_countFittingSeams_34 hl (k := 3) rfl (by rw [e_w7]; rfl) (by decide) rfl (fun ls hl => ?_)
          refine lv_goto (tgt := 17) hx hb dX0_countFittingSeams_37 (by decide) ?_
          exact ih _ _ _ x1 x2 w7 G (lv_sub hl [1, 2, 3, 0] rfl) h
        · have h := g_if h c6
          obtain ⟨w8, e_w8⟩ : ∃ y : Int32, y = x1 + 1 := ⟨_, rfl⟩
          have h := g_let2 e_w8 h
          refine lv_iinc (v := w8) (lv' := [(1, .int w8), (0, .ref (xN X + t)), (2, .int x2), (3, .int x3)]) hx hb dX0_countFittingSeams_31 hl (k := 1) rfl (by rw [e_w8]; rfl) (by decide) rfl (fun ls hl => ?_)
          obtain ⟨w9, e_w9⟩ : ∃ y : Int32, y = x3 + 1 := ⟨_, rfl⟩
          have h := g_let2 e_w9 h
          refine lv_iinc (v := w9) (lv' := [(3, .int w9), (1, .int w8), (0, .ref (xN X + t)), (2, .int x2)]) hx hb dX0_countFittingSeams_34 hl (k := 3) rfl (by rw [e_w9]; rfl) (by decide) rfl (fun ls hl => ?_)
          refine lv_goto (tgt := 17) hx hb dX0_countFittingSeams_37 (by decide) ?_
          exact ih _ _ _ w8 x2 w9 G (lv_sub hl [2, 1, 3, 0] rfl) h
  have L4 : ∀ (n : Nat) (H : Heap) (locs : List Loc) (ls : Array Slot) (x1 : Int32) (x2 : Int32), gG X σ s H locs → lv_has ls 4 [(0, .ref (xN X + t)), (1, .int x1), (2, .int x2)] → fX0_countFittingSeams_4 σ t n x1 x2 = some r → W p l ev ({ frames := 4, cells := 0, slots := 0, locals := 98 }) s m args below meth c H locs 0 0 Q (F0 m 4 ls []) := by
    intro n
    induction n with
    | zero =>
      intro H locs ls x1 x2 G hl h
      rw [fX0_countFittingSeams_4] at h
      cases h
    | succ n ih =>
      intro H locs ls x1 x2 G hl h
      rw [fX0_countFittingSeams_4] at h
      refine lv_iload_n hx hb dX0_countFittingSeams_4 rfl (lv_at hl 2 rfl) ?_
      refine lv_aload_n hx hb dX0_countFittingSeams_5 rfl (lv_at hl 0 rfl) ?_
      refine gg0_0 C G ok.1 ok.2.1.1 u_fl_RX0_12 dX0_countFittingSeams_6 ?_
      obtain ⟨v1, e_v1, h⟩ := g_bind h
      refine g_calli (g_runV (n := 0) (As := []) (rest := [.int x2]) C G (mX6_size l X σ (t + 1) v1 ok.2.2.1 e_v1) ok.2.2.1.1.2 (gE_6 ok.2.2.1.1.1) rfl (g_goodV u_ml_RX0_37 u_im_yX6_size u_se_yX6_size u_in_RX6 u_co_yX6_size) rfl rfl rfl (by decide +kernel) ⟨Nat.le_of_ble_eq_true rfl, Nat.le_of_ble_eq_true rfl⟩ rfl hl.1 rfl (Nat.le_of_ble_eq_true rfl) dX0_countFittingSeams_9 ⟨Nat.zero_le _, Nat.zero_le _⟩) G (fun H locs G => ?_)
      refine lv_icmp_ge (tgt := 46) hx hb dX0_countFittingSeams_12 (by decide) (fun c2 => ?_) (fun c2 => ?_)
      · have h := g_it h c2
        refine lv_iload_n hx hb dX0_countFittingSeams_46 rfl (lv_at hl 1 rfl) ?_
        exact ret dX0_countFittingSeams_47 rfl G ⟨Option.some.inj h, rfl⟩
      · have h := g_if h c2
        refine lv_iconst (v := 1) hx hb dX0_countFittingSeams_15 (by decide) ?_
        refine lv_istore_n (lv' := [(3, .int 1), (0, .ref (xN X + t)), (1, .int x1), (2, .int x2)]) hx hb dX0_countFittingSeams_16 rfl hl (by decide) rfl (fun ls hl => ?_)
        exact L17 (fun y1 y2 => fX0_countFittingSeams_4 σ t n y1 y2) (fun H locs ls y1 y2 G hl h => ih H locs ls y1 y2 G hl h) gF _ _ _ x1 x2 1 G (lv_sub hl [1, 2, 3, 0] rfl) h
  unfold fX0_countFittingSeams at h
  refine lv_iconst (v := 0) hx hb dX0_countFittingSeams_0 (by decide) ?_
  refine lv_istore_n (lv' := [(1, .int 0), (0, .ref (xN X + t))]) hx hb dX0_countFittingSeams_1 rfl hl (by decide) rfl (fun ls hl => ?_)
  refine lv_iconst (v := 0) hx hb dX0_countFittingSeams_2 (by decide) ?_
  refine lv_istore_n (lv' := [(2, .int 0), (1, .int 0), (0, .ref (xN X + t))]) hx hb dX0_countFittingSeams_3 rfl hl (by decide) rfl (fun ls hl => ?_)
  exact L4  gF _ _ _ 0 0 G (lv_sub hl [2, 1, 0] rfl) h

def fX0_isAtBorder (σ : gM) (t : Nat) (a1 : Int32) (a2 : Int32) : Option (Int32) :=
  ((fX4_lies σ (t + 8) a1).bind fun v1 =>
  (if v1 = 0 then
    some 0
  else
    ((fX4_placeOf σ (t + 8) a1).bind fun v3 =>
    ((fX4_behind σ (t + 8) v3 a2).bind fun v4 =>
    (if v4 = (-1) then
      some 1
    else
      some 0)))))
set_option maxHeartbeats 4000000 in
set_option maxRecDepth 100000 in
theorem mX0_isAtBorder (l : Launch) (X : gX) (σ : gM) (t : Nat) (a1 : Int32) (a2 : Int32) (r : Int32) (ok : gok0 X t) (h : fX0_isAtBorder σ t a1 a2 = some r) : Met l yX0_isAtBorder (Cond.code yX0_isAtBorder cX0_isAtBorder 3 (some .boolean) :: gBig) ({ frames := 2, cells := 0, slots := 0, locals := 43 }) (gPc X σ [.ref (xN X + t), .int a1, .int a2]) (gQi X σ r) 0 0 (xA X) := by
  refine g_meti (cc := cX0_isAtBorder) (maxL := 3) (own := RX0) (by decide) rfl rfl (Nat.le_of_ble_eq_true rfl) ?_
  intro p ev s m args below meth c Q C G ret ls hl
  obtain ⟨⟨hx, hb, hml, hown, hts⟩, hK⟩ := id C
  have hl : lv_has ls 3 [(0, .ref (xN X + t)), (1, .int a1), (2, .int a2)] := hl
  unfold fX0_isAtBorder at h
  refine lv_aload_n hx hb dX0_isAtBorder_0 rfl (lv_at hl 0 rfl) ?_
  refine gg0_1 C G ok.1 ok.2.1.2 u_fl_RX0_21 dX0_isAtBorder_1 ?_
  refine lv_iload_n hx hb dX0_isAtBorder_4 rfl (lv_at hl 1 rfl) ?_
  obtain ⟨v1, e_v1, h⟩ := g_bind h
  refine g_calli (g_runV (n := 1) (As := [.int a1]) (rest := []) C G (mX4_lies l X σ (t + 8) a1 v1 ok.2.2.2 e_v1) ok.2.2.2.1.2 (gE_4 ok.2.2.2.1.1) rfl (g_goodV u_ml_RX0_41 u_im_yX4_lies u_se_yX4_lies u_in_RX4 u_co_yX4_lies) rfl rfl rfl (by decide +kernel) ⟨Nat.le_of_ble_eq_true rfl, Nat.le_of_ble_eq_true rfl⟩ rfl hl.1 rfl (Nat.le_of_ble_eq_true rfl) dX0_isAtBorder_5 ⟨Nat.zero_le _, Nat.zero_le _⟩) G (fun H locs G => ?_)
  refine lv_if_eq (tgt := 35) hx hb dX0_isAtBorder_8 (by decide) (fun c2 => ?_) (fun c2 => ?_)
  · have h := g_it h c2
    refine lv_iconst (v := 0) hx hb dX0_isAtBorder_35 (by decide) ?_
    exact ret dX0_isAtBorder_36 rfl G ⟨Option.some.inj h, rfl⟩
  · have h := g_if h c2
    refine lv_aload_n hx hb dX0_isAtBorder_11 rfl (lv_at hl 0 rfl) ?_
    refine gg0_1 C G ok.1 ok.2.1.2 u_fl_RX0_21 dX0_isAtBorder_12 ?_
    refine lv_aload_n hx hb dX0_isAtBorder_15 rfl (lv_at hl 0 rfl) ?_
    refine gg0_1 C G ok.1 ok.2.1.2 u_fl_RX0_21 dX0_isAtBorder_16 ?_
    refine lv_iload_n hx hb dX0_isAtBorder_19 rfl (lv_at hl 1 rfl) ?_
    obtain ⟨v3, e_v3, h⟩ := g_bind h
    refine g_calli (g_runV (n := 1) (As := [.int a1]) (rest := [.ref (xN X + (t + 8))]) C G (mX4_placeOf l X σ (t + 8) a1 v3 ok.2.2.2 e_v3) ok.2.2.2.1.2 (gE_4 ok.2.2.2.1.1) rfl (g_goodV u_ml_RX0_77 u_im_yX4_placeOf u_se_yX4_placeOf u_in_RX4 u_co_yX4_placeOf) rfl rfl rfl (by decide +kernel) ⟨Nat.le_of_ble_eq_true rfl, Nat.le_of_ble_eq_true rfl⟩ rfl hl.1 rfl (Nat.le_of_ble_eq_true rfl) dX0_isAtBorder_20 ⟨Nat.zero_le _, Nat.zero_le _⟩) G (fun H locs G => ?_)
    refine lv_iload_n hx hb dX0_isAtBorder_23 rfl (lv_at hl 2 rfl) ?_
    obtain ⟨v4, e_v4, h⟩ := g_bind h
    refine g_calli (g_runV (n := 2) (As := [.int v3, .int a2]) (rest := []) C G (mX4_behind l X σ (t + 8) v3 a2 v4 ok.2.2.2 e_v4) ok.2.2.2.1.2 (gE_4 ok.2.2.2.1.1) rfl (g_goodV u_ml_RX0_45 u_im_yX4_behind u_se_yX4_behind u_in_RX4 u_co_yX4_behind) rfl rfl rfl (by decide +kernel) ⟨Nat.le_of_ble_eq_true rfl, Nat.le_of_ble_eq_true rfl⟩ rfl hl.1 rfl (Nat.le_of_ble_eq_true rfl) dX0_isAtBorder_24 ⟨Nat.zero_le _, Nat.zero_le _⟩) G (fun H locs G => ?_)
    refine lv_iconst (v := (-1)) hx hb dX0_isAtBorder_27 (by decide) ?_
    refine lv_icmp_ne (tgt := 35) hx hb dX0_isAtBorder_28 (by decide) (fun c5 => ?_) (fun c5 => ?_)
    · have h := g_if h c5
      refine lv_iconst (v := 0) hx hb dX0_isAtBorder_35 (by decide) ?_
      exact ret dX0_isAtBorder_36 rfl G ⟨Option.some.inj h, rfl⟩
    · have h := g_it h c5
      refine lv_iconst (v := 1) hx hb dX0_isAtBorder_31 (by decide) ?_
      refine lv_goto (tgt := 36) hx hb dX0_isAtBorder_32 (by decide) ?_
      exact ret dX0_isAtBorder_36 rfl G ⟨Option.some.inj h, rfl⟩

def fX0_countBorderEdges_18 (K4 : Int32 → Int32 → Option (Int32)) (σ : gM) (t : Nat) (a1 : Int32) : Nat → Int32 → Int32 → Int32 → Option (Int32)
  | 0, _, _, _ => none
  | n + 1, x2, x3, x4 =>
    (if 4 ≤ x4 then
      (gl (x3 + 1) fun w4 =>
      K4 x2 w4)
    else
      ((fX0_isAtBorder σ t x3 x4).bind fun v5 =>
      (if v5 = 0 then
        (gl (x4 + 1) fun w7 =>
        fX0_countBorderEdges_18 K4 σ t a1 n x2 x3 w7)
      else
        ((fX0_verdictOnPage σ t x3 x4).bind fun v8 =>
        (if v8 = a1 then
          (gl (x2 + 1) fun w10 =>
          (gl (x4 + 1) fun w11 =>
          fX0_countBorderEdges_18 K4 σ t a1 n w10 x3 w11))
        else
          (gl (x4 + 1) fun w12 =>
          fX0_countBorderEdges_18 K4 σ t a1 n x2 x3 w12))))))

def fX0_countBorderEdges_4 (σ : gM) (t : Nat) (a1 : Int32) : Nat → Int32 → Int32 → Option (Int32)
  | 0, _, _ => none
  | n + 1, x2, x3 =>
    ((fX6_size σ (t + 1)).bind fun v1 =>
    (if v1 ≤ x3 then
      some x2
    else
      fX0_countBorderEdges_18 (fun y2 y3 => fX0_countBorderEdges_4 σ t a1 n y2 y3) σ t a1 gF x2 x3 0))

def fX0_countBorderEdges (σ : gM) (t : Nat) (a1 : Int32) : Option (Int32) :=
  fX0_countBorderEdges_4 σ t a1 gF 0 0
set_option maxHeartbeats 4000000 in
set_option maxRecDepth 100000 in
theorem mX0_countBorderEdges (l : Launch) (X : gX) (σ : gM) (t : Nat) (a1 : Int32) (r : Int32) (ok : gok0 X t) (h : fX0_countBorderEdges σ t a1 = some r) : Met l yX0_countBorderEdges (Cond.code yX0_countBorderEdges cX0_countBorderEdges 5 (some .int) :: gBig) ({ frames := 4, cells := 0, slots := 0, locals := 98 }) (gPc X σ [.ref (xN X + t), .int a1]) (gQi X σ r) 0 0 (xA X) := by
  refine g_meti (cc := cX0_countBorderEdges) (maxL := 5) (own := RX0) (by decide) rfl rfl (Nat.le_of_ble_eq_true rfl) ?_
  intro p ev s m args below meth c Q C G ret ls hl
  obtain ⟨⟨hx, hb, hml, hown, hts⟩, hK⟩ := id C
  have hl : lv_has ls 5 [(0, .ref (xN X + t)), (1, .int a1)] := hl
  have L18 : ∀ (K4 : Int32 → Int32 → Option (Int32)), (∀ (H : Heap) (locs : List Loc) (ls : Array Slot) (x2 : Int32) (x3 : Int32), gG X σ s H locs → lv_has ls 5 [(0, .ref (xN X + t)), (1, .int a1), (2, .int x2), (3, .int x3)] → K4 x2 x3 = some r → W p l ev ({ frames := 4, cells := 0, slots := 0, locals := 98 }) s m args below meth c H locs 0 0 Q (F0 m 4 ls [])) → ∀ (n : Nat) (H : Heap) (locs : List Loc) (ls : Array Slot) (x2 : Int32) (x3 : Int32) (x4 : Int32), gG X σ s H locs → lv_has ls 5 [(0, .ref (xN X + t)), (1, .int a1), (2, .int x2), (3, .int x3), (4, .int x4)] → fX0_countBorderEdges_18 K4 σ t a1 n x2 x3 x4 = some r → W p l ev ({ frames := 4, cells := 0, slots := 0, locals := 98 }) s m args below meth c H locs 0 0 Q (F0 m 18 ls []) := by
    intro K4 hK4 n
    induction n with
    | zero =>
      intro H locs ls x2 x3 x4 G hl h
      rw [fX0_countBorderEdges_18] at h
      cases h
    | succ n ih =>
      intro H locs ls x2 x3 x4 G hl h
      rw [fX0_countBorderEdges_18] at h
      refine lv_iload hx hb dX0_countBorderEdges_18 (lv_at hl 4 rfl) ?_
      refine lv_iconst (v := 4) hx hb dX0_countBorderEdges_20 (by decide) ?_
      refine lv_icmp_ge (tgt := 54) hx hb dX0_countBorderEdges_21 (by decide) (fun c3 => ?_) (fun c3 => ?_)
      · have h := g_it h c3
        obtain ⟨w4, e_w4⟩ : ∃ y : Int32, y = x3 + 1 := ⟨_, rfl⟩
        have h := g_let2 e_w4 h
        refine lv_iinc (v := w4) (lv' := [(3, .int w4), (0, .ref (xN X + t)), (1, .int a1), (2, .int x2), (4, .int x4)]) hx hb dX0_countBorderEdges_54 hl (k := 3) rfl (by rw [e_w4]; rfl) (by decide) rfl (fun ls hl => ?_)
        refine lv_goto (tgt := 4) hx hb dX0_countBorderEdges_57 (by decide) ?_
        exact hK4 _ _ _ x2 w4 G (lv_sub hl [1, 2, 3, 0] rfl) h
      · have h := g_if h c3
        refine lv_aload_n hx hb dX0_countBorderEdges_24 rfl (lv_at hl 0 rfl) ?_
        refine lv_iload_n hx hb dX0_countBorderEdges_25 rfl (lv_at hl 3 rfl) ?_
        refine lv_iload hx hb dX0_countBorderEdges_26 (lv_at hl 4 rfl) ?_
        obtain ⟨v5, e_v5, h⟩ := g_bind h
        refine g_calli (g_runV (n := 2) (As := [.int x3, .int x4]) (rest := []) C G (mX0_isAtBorder l X σ t x3 x4 v5 ok e_v5) ok.1.2 (gE_0 ok.1.1) rfl (g_goodV u_ml_RX0_87 u_im_yX0_isAtBorder u_se_yX0_isAtBorder u_in_RX0 u_co_yX0_isAtBorder) rfl rfl rfl (by decide +kernel) ⟨Nat.le_of_ble_eq_true rfl, Nat.le_of_ble_eq_true rfl⟩ rfl hl.1 rfl (Nat.le_of_ble_eq_true rfl) dX0_countBorderEdges_28 ⟨Nat.zero_le _, Nat.zero_le _⟩) G (fun H locs G => ?_)
        refine lv_if_eq (tgt := 48) hx hb dX0_countBorderEdges_31 (by decide) (fun c6 => ?_) (fun c6 => ?_)
        · have h := g_it h c6
          obtain ⟨w7, e_w7⟩ : ∃ y : Int32, y = x4 + 1 := ⟨_, rfl⟩
          have h := g_let2 e_w7 h
          refine lv_iinc (v := w7) (lv' := [(4, .int w7), (0, .ref (xN X + t)), (1, .int a1), (2, .int x2), (3, .int x3)]) hx hb dX0_countBorderEdges_48 hl (k := 4) rfl (by rw [e_w7]; rfl) (by decide) rfl (fun ls hl => ?_)
          refine lv_goto (tgt := 18) hx hb dX0_countBorderEdges_51 (by decide) ?_
          exact ih _ _ _ x2 x3 w7 G (lv_sub hl [1, 2, 3, 4, 0] rfl) h
        · have h := g_if h c6
          refine lv_aload_n hx hb dX0_countBorderEdges_34 rfl (lv_at hl 0 rfl) ?_
          refine lv_iload_n hx hb dX0_countBorderEdges_35 rfl (lv_at hl 3 rfl) ?_
          refine lv_iload hx hb dX0_countBorderEdges_36 (lv_at hl 4 rfl) ?_
          obtain ⟨v8, e_v8, h⟩ := g_bind h
          refine g_calli (g_runV (n := 2) (As := [.int x3, .int x4]) (rest := []) C G (mX0_verdictOnPage l X σ t x3 x4 v8 ok e_v8) ok.1.2 (gE_0 ok.1.1) rfl (g_goodV u_ml_RX0_74 u_im_yX0_verdictOnPage u_se_yX0_verdictOnPage u_in_RX0 u_co_yX0_verdictOnPage) rfl rfl rfl (by decide +kernel) ⟨Nat.le_of_ble_eq_true rfl, Nat.le_of_ble_eq_true rfl⟩ rfl hl.1 rfl (Nat.le_of_ble_eq_true rfl) dX0_countBorderEdges_38 ⟨Nat.zero_le _, Nat.zero_le _⟩) G (fun H locs G => ?_)
          refine lv_iload_n hx hb dX0_countBorderEdges_41 rfl (lv_at hl 1 rfl) ?_
          refine lv_icmp_ne (tgt := 48) hx hb dX0_countBorderEdges_42 (by decide) (fun c9 => ?_) (fun c9 => ?_)
          · have h := g_if h c9
            obtain ⟨w12, e_w12⟩ : ∃ y : Int32, y = x4 + 1 := ⟨_, rfl⟩
            have h := g_let2 e_w12 h
            refine lv_iinc (v := w12) (lv' := [(4, .int w12), (0, .ref (xN X + t)), (1, .int a1), (2, .int x2), (3, .int x3)]) hx hb dX0_countBorderEdges_48 hl (k := 4) rfl (by rw [e_w12]; rfl) (by decide) rfl (fun ls hl => ?_)
            refine lv_goto (tgt := 18) hx hb dX0_countBorderEdges_51 (by decide) ?_
            exact ih _ _ _ x2 x3 w12 G (lv_sub hl [1, 2, 3, 4, 0] rfl) h
          · have h := g_it h c9
            obtain ⟨w10, e_w10⟩ : ∃ y : Int32, y = x2 + 1 := ⟨_, rfl⟩
            have h := g_let2 e_w10 h
            refine lv_iinc (v := w10) (lv' := [(2, .int w10), (0, .ref (xN X + t)), (1, .int a1), (3, .int x3), (4, .int x4)]) hx hb dX0_countBorderEdges_45 hl (k := 2) rfl (by rw [e_w10]; rfl) (by decide) rfl (fun ls hl => ?_)
            obtain ⟨w11, e_w11⟩ : ∃ y : Int32, y = x4 + 1 := ⟨_, rfl⟩
            have h := g_let2 e_w11 h
            refine lv_iinc (v := w11) (lv' := [(4, .int w11), (2, .int w10), (0, .ref (xN X + t)), (1, .int a1), (3, .int x3)]) hx hb dX0_countBorderEdges_48 hl (k := 4) rfl (by rw [e_w11]; rfl) (by decide) rfl (fun ls hl => ?_)
            refine lv_goto (tgt := 18) hx hb dX0_countBorderEdges_51 (by decide) ?_
            exact ih _ _ _ w10 x3 w11 G (lv_sub hl [2, 3, 1, 4, 0] rfl) h
  have L4 : ∀ (n : Nat) (H : Heap) (locs : List Loc) (ls : Array Slot) (x2 : Int32) (x3 : Int32), gG X σ s H locs → lv_has ls 5 [(0, .ref (xN X + t)), (1, .int a1), (2, .int x2), (3, .int x3)] → fX0_countBorderEdges_4 σ t a1 n x2 x3 = some r → W p l ev ({ frames := 4, cells := 0, slots := 0, locals := 98 }) s m args below meth c H locs 0 0 Q (F0 m 4 ls []) := by
    intro n
    induction n with
    | zero =>
      intro H locs ls x2 x3 G hl h
      rw [fX0_countBorderEdges_4] at h
      cases h
    | succ n ih =>
      intro H locs ls x2 x3 G hl h
      rw [fX0_countBorderEdges_4] at h
      refine lv_iload_n hx hb dX0_countBorderEdges_4 rfl (lv_at hl 3 rfl) ?_
      refine lv_aload_n hx hb dX0_countBorderEdges_5 rfl (lv_at hl 0 rfl) ?_
      refine gg0_0 C G ok.1 ok.2.1.1 u_fl_RX0_12 dX0_countBorderEdges_6 ?_
      obtain ⟨v1, e_v1, h⟩ := g_bind h
      refine g_calli (g_runV (n := 0) (As := []) (rest := [.int x3]) C G (mX6_size l X σ (t + 1) v1 ok.2.2.1 e_v1) ok.2.2.1.1.2 (gE_6 ok.2.2.1.1.1) rfl (g_goodV u_ml_RX0_37 u_im_yX6_size u_se_yX6_size u_in_RX6 u_co_yX6_size) rfl rfl rfl (by decide +kernel) ⟨Nat.le_of_ble_eq_true rfl, Nat.le_of_ble_eq_true rfl⟩ rfl hl.1 rfl (Nat.le_of_ble_eq_true rfl) dX0_countBorderEdges_9 ⟨Nat.zero_le _, Nat.zero_le _⟩) G (fun H locs G => ?_)
      refine lv_icmp_ge (tgt := 60) hx hb dX0_countBorderEdges_12 (by decide) (fun c2 => ?_) (fun c2 => ?_)
      · have h := g_it h c2
        refine lv_iload_n hx hb dX0_countBorderEdges_60 rfl (lv_at hl 2 rfl) ?_
        exact ret dX0_countBorderEdges_61 rfl G ⟨Option.some.inj h, rfl⟩
      · have h := g_if h c2
        refine lv_iconst (v := 0) hx hb dX0_countBorderEdges_15 (by decide) ?_
        refine lv_istore (lv' := [(4, .int 0), (0, .ref (xN X + t)), (1, .int a1), (2, .int x2), (3, .int x3)]) hx hb dX0_countBorderEdges_16 hl (by decide) rfl (fun ls hl => ?_)
        exact L18 (fun y2 y3 => fX0_countBorderEdges_4 σ t a1 n y2 y3) (fun H locs ls y2 y3 G hl h => ih H locs ls y2 y3 G hl h) gF _ _ _ x2 x3 0 G (lv_sub hl [1, 2, 3, 4, 0] rfl) h
  unfold fX0_countBorderEdges at h
  refine lv_iconst (v := 0) hx hb dX0_countBorderEdges_0 (by decide) ?_
  refine lv_istore_n (lv' := [(2, .int 0), (0, .ref (xN X + t)), (1, .int a1)]) hx hb dX0_countBorderEdges_1 rfl hl (by decide) rfl (fun ls hl => ?_)
  refine lv_iconst (v := 0) hx hb dX0_countBorderEdges_2 (by decide) ?_
  refine lv_istore_n (lv' := [(3, .int 0), (2, .int 0), (0, .ref (xN X + t)), (1, .int a1)]) hx hb dX0_countBorderEdges_3 rfl hl (by decide) rfl (fun ls hl => ?_)
  exact L4  gF _ _ _ 0 0 G (lv_sub hl [2, 3, 1, 0] rfl) h

def fX7_length (σ : gM) (t : Nat) : Option (Int32) :=
  some (σ t 2)
set_option maxHeartbeats 4000000 in
set_option maxRecDepth 100000 in
theorem mX7_length (l : Launch) (X : gX) (σ : gM) (t : Nat) (r : Int32) (ok : gok7 X t) (h : fX7_length σ t = some r) : Met l yX7_length (Cond.code yX7_length cX7_length 1 (some .int) :: gBig) ({ frames := 0, cells := 0, slots := 0, locals := 0 }) (gPc X σ [.ref (xN X + t)]) (gQi X σ r) 0 0 (xA X) := by
  refine g_meti (cc := cX7_length) (maxL := 1) (own := RX7) (by decide) rfl rfl (Nat.le_of_ble_eq_true rfl) ?_
  intro p ev s m args below meth c Q C G ret ls hl
  obtain ⟨⟨hx, hb, hml, hown, hts⟩, hK⟩ := id C
  have hl : lv_has ls 1 [(0, .ref (xN X + t))] := hl
  unfold fX7_length at h
  refine lv_aload_n hx hb dX7_length_0 rfl (lv_at hl 0 rfl) ?_
  refine gg7_2 C G ok.1 u_fl_RX7_27 dX7_length_1 ?_
  exact ret dX7_length_4 rfl G ⟨Option.some.inj h, rfl⟩

def fX8_count (σ : gM) (t : Nat) (a1 : Int32) : Option (Int32 × gM) :=
  (if a1 = 0 then
    ((fX6_size σ ((t + 1) + 1)).bind fun v2 =>
    some (v2, σ))
  else if a1 = 1 then
    ((fX0_countLying σ (t + 1)).bind fun v4 =>
    some (v4, σ))
  else if a1 = 2 then
    ((fX4_width σ ((t + 1) + 8)).bind fun v6 =>
    some (v6, σ))
  else if a1 = 3 then
    ((fX4_height σ ((t + 1) + 8)).bind fun v8 =>
    some (v8, σ))
  else if a1 = 4 then
    ((fX2_gather σ (t + 108) (t + 1)).bind fun σ11 =>
    ((fX2_size σ11 (t + 108)).bind fun v12 =>
    some (v12, σ11)))
  else if a1 = 5 then
    ((fX0_countSeams σ (t + 1)).bind fun v14 =>
    some (v14, σ))
  else if a1 = 6 then
    ((fX0_countFittingSeams σ (t + 1)).bind fun v16 =>
    some (v16, σ))
  else if a1 = 7 then
    ((fX0_countBorderEdges σ (t + 1) 0).bind fun v18 =>
    some (v18, σ))
  else if a1 = 8 then
    ((fX0_countBorderEdges σ (t + 1) 4).bind fun v20 =>
    some (v20, σ))
  else if a1 = 9 then
    ((fX4_places σ ((t + 1) + 8)).bind fun v22 =>
    ((fX0_countLying σ (t + 1)).bind fun v23 =>
    some ((v22 - v23), σ)))
  else if a1 = 10 then
    ((fX3_size σ (t + 31)).bind fun v25 =>
    some (v25, σ))
  else if a1 = 11 then
    ((fX7_length σ (t + 111)).bind fun v27 =>
    some (v27, σ))
  else 
    some ((-1001), σ))
set_option maxHeartbeats 4000000 in
set_option maxRecDepth 100000 in
theorem mX8_count (l : Launch) (X : gX) (σ σ' : gM) (t : Nat) (a1 : Int32) (r : Int32) (ok : gok8 X t) (h : fX8_count σ t a1 = some (r, σ')) : Met l yX8_count (Cond.code yX8_count cX8_count 2 (some .int) :: gBig) ({ frames := 6, cells := 0, slots := 0, locals := 146 }) (gPc X σ [.ref (xN X + t), .int a1]) (gQi X σ' r) 0 0 (xA X) := by
  refine g_meti (cc := cX8_count) (maxL := 2) (own := RX8) (by decide) rfl rfl (Nat.le_of_ble_eq_true rfl) ?_
  intro p ev s m args below meth c Q C G ret ls hl
  obtain ⟨⟨hx, hb, hml, hown, hts⟩, hK⟩ := id C
  have hl : lv_has ls 2 [(0, .ref (xN X + t)), (1, .int a1)] := hl
  unfold fX8_count at h
  refine lv_iload_n hx hb dX8_count_0 rfl (lv_at hl 1 rfl) ?_
  by_cases c1 : a1 = 0
  · have h := g_it h c1
    refine lv_tableIn (off := 63) (tgt := 64) hx hb dX8_count_1 (by rw [c1]; decide) (by rw [c1]; decide) (by rw [c1]; rfl) (by decide) ?_
    refine lv_aload_n hx hb dX8_count_64 rfl (lv_at hl 0 rfl) ?_
    refine gg8_0 C G ok.1 ok.2.1.1 u_fl_RX8_10 dX8_count_65 ?_
    refine gn0_0 C G ok.2.2.1.1 ok.2.2.1.2.1.1 (List.mem_of_getElem? (i := 1) rfl) dX8_count_68 ?_
    obtain ⟨v2, e_v2, h⟩ := g_bind h
    refine g_calli (g_runV (n := 0) (As := []) (rest := []) C G (mX6_size l X σ ((t + 1) + 1) v2 ok.2.2.1.2.2.1 e_v2) ok.2.2.1.2.2.1.1.2 (gE_6 ok.2.2.1.2.2.1.1.1) rfl (g_goodV u_ml_RX8_77 u_im_yX6_size u_se_yX6_size u_in_RX6 u_co_yX6_size) rfl rfl rfl (by decide +kernel) ⟨Nat.le_of_ble_eq_true rfl, Nat.le_of_ble_eq_true rfl⟩ rfl hl.1 rfl (Nat.le_of_ble_eq_true rfl) dX8_count_71 ⟨Nat.zero_le _, Nat.zero_le _⟩) G (fun H locs G => ?_)
    exact ret dX8_count_74 rfl G (Prod.mk.inj (Option.some.inj h))
  have h := g_if h c1
  by_cases c3 : a1 = 1
  · have h := g_it h c3
    refine lv_tableIn (off := 74) (tgt := 75) hx hb dX8_count_1 (by rw [c3]; decide) (by rw [c3]; decide) (by rw [c3]; rfl) (by decide) ?_
    refine lv_aload_n hx hb dX8_count_75 rfl (lv_at hl 0 rfl) ?_
    refine gg8_0 C G ok.1 ok.2.1.1 u_fl_RX8_10 dX8_count_76 ?_
    obtain ⟨v4, e_v4, h⟩ := g_bind h
    refine g_calli (g_runV (n := 0) (As := []) (rest := []) C G (mX0_countLying l X σ (t + 1) v4 ok.2.2.1 e_v4) ok.2.2.1.1.2 (gE_0 ok.2.2.1.1.1) rfl (g_goodV u_ml_RX8_51 u_im_yX0_countLying u_se_yX0_countLying u_in_RX0 u_co_yX0_countLying) rfl rfl rfl (by decide +kernel) ⟨Nat.le_of_ble_eq_true rfl, Nat.le_of_ble_eq_true rfl⟩ rfl hl.1 rfl (Nat.le_of_ble_eq_true rfl) dX8_count_79 ⟨Nat.zero_le _, Nat.zero_le _⟩) G (fun H locs G => ?_)
    exact ret dX8_count_82 rfl G (Prod.mk.inj (Option.some.inj h))
  have h := g_if h c3
  by_cases c5 : a1 = 2
  · have h := g_it h c5
    refine lv_tableIn (off := 82) (tgt := 83) hx hb dX8_count_1 (by rw [c5]; decide) (by rw [c5]; decide) (by rw [c5]; rfl) (by decide) ?_
    refine lv_aload_n hx hb dX8_count_83 rfl (lv_at hl 0 rfl) ?_
    refine gg8_0 C G ok.1 ok.2.1.1 u_fl_RX8_10 dX8_count_84 ?_
    refine gn0_1 C G ok.2.2.1.1 ok.2.2.1.2.1.2 (List.mem_of_getElem? (i := 3) rfl) dX8_count_87 ?_
    obtain ⟨v6, e_v6, h⟩ := g_bind h
    refine g_calli (g_runV (n := 0) (As := []) (rest := []) C G (mX4_width l X σ ((t + 1) + 8) v6 ok.2.2.1.2.2.2 e_v6) ok.2.2.1.2.2.2.1.2 (gE_4 ok.2.2.1.2.2.2.1.1) rfl (g_goodV u_ml_RX8_152 u_im_yX4_width u_se_yX4_width u_in_RX4 u_co_yX4_width) rfl rfl rfl (by decide +kernel) ⟨Nat.le_of_ble_eq_true rfl, Nat.le_of_ble_eq_true rfl⟩ rfl hl.1 rfl (Nat.le_of_ble_eq_true rfl) dX8_count_90 ⟨Nat.zero_le _, Nat.zero_le _⟩) G (fun H locs G => ?_)
    exact ret dX8_count_93 rfl G (Prod.mk.inj (Option.some.inj h))
  have h := g_if h c5
  by_cases c7 : a1 = 3
  · have h := g_it h c7
    refine lv_tableIn (off := 93) (tgt := 94) hx hb dX8_count_1 (by rw [c7]; decide) (by rw [c7]; decide) (by rw [c7]; rfl) (by decide) ?_
    refine lv_aload_n hx hb dX8_count_94 rfl (lv_at hl 0 rfl) ?_
    refine gg8_0 C G ok.1 ok.2.1.1 u_fl_RX8_10 dX8_count_95 ?_
    refine gn0_1 C G ok.2.2.1.1 ok.2.2.1.2.1.2 (List.mem_of_getElem? (i := 3) rfl) dX8_count_98 ?_
    obtain ⟨v8, e_v8, h⟩ := g_bind h
    refine g_calli (g_runV (n := 0) (As := []) (rest := []) C G (mX4_height l X σ ((t + 1) + 8) v8 ok.2.2.1.2.2.2 e_v8) ok.2.2.1.2.2.2.1.2 (gE_4 ok.2.2.1.2.2.2.1.1) rfl (g_goodV u_ml_RX8_155 u_im_yX4_height u_se_yX4_height u_in_RX4 u_co_yX4_height) rfl rfl rfl (by decide +kernel) ⟨Nat.le_of_ble_eq_true rfl, Nat.le_of_ble_eq_true rfl⟩ rfl hl.1 rfl (Nat.le_of_ble_eq_true rfl) dX8_count_101 ⟨Nat.zero_le _, Nat.zero_le _⟩) G (fun H locs G => ?_)
    exact ret dX8_count_104 rfl G (Prod.mk.inj (Option.some.inj h))
  have h := g_if h c7
  by_cases c9 : a1 = 4
  · have h := g_it h c9
    refine lv_tableIn (off := 104) (tgt := 105) hx hb dX8_count_1 (by rw [c9]; decide) (by rw [c9]; decide) (by rw [c9]; rfl) (by decide) ?_
    refine lv_aload_n hx hb dX8_count_105 rfl (lv_at hl 0 rfl) ?_
    refine gg8_3 C G ok.1 ok.2.1.2.2.2.1 u_fl_RX8_29 dX8_count_106 ?_
    refine lv_aload_n hx hb dX8_count_109 rfl (lv_at hl 0 rfl) ?_
    refine gg8_0 C G ok.1 ok.2.1.1 u_fl_RX8_10 dX8_count_110 ?_
    obtain ⟨σ11, e_σ11, h⟩ := g_bind h
    refine g_callv (g_runV (n := 1) (As := [.ref (xN X + (t + 1))]) (rest := []) C G (mX2_gather l X σ σ11 (t + 108) (t + 1) ok.2.2.2.2.2.1 ok.2.2.1 e_σ11) ok.2.2.2.2.2.1.1.2 (gE_2 ok.2.2.2.2.2.1.1.1) rfl (g_goodV u_ml_RX8_123 u_im_yX2_gather u_se_yX2_gather u_in_RX2 u_co_yX2_gather) rfl rfl rfl (by decide +kernel) ⟨Nat.le_of_ble_eq_true rfl, Nat.le_of_ble_eq_true rfl⟩ rfl hl.1 rfl (Nat.le_of_ble_eq_true rfl) dX8_count_113 ⟨Nat.zero_le _, Nat.zero_le _⟩) G (fun H locs G => ?_)
    refine lv_aload_n hx hb dX8_count_116 rfl (lv_at hl 0 rfl) ?_
    refine gg8_3 C G ok.1 ok.2.1.2.2.2.1 u_fl_RX8_29 dX8_count_117 ?_
    obtain ⟨v12, e_v12, h⟩ := g_bind h
    refine g_calli (g_runV (n := 0) (As := []) (rest := []) C G (mX2_size l X σ11 (t + 108) v12 ok.2.2.2.2.2.1 e_v12) ok.2.2.2.2.2.1.1.2 (gE_2 ok.2.2.2.2.2.1.1.1) rfl (g_goodV u_ml_RX8_158 u_im_yX2_size u_se_yX2_size u_in_RX2 u_co_yX2_size) rfl rfl rfl (by decide +kernel) ⟨Nat.le_of_ble_eq_true rfl, Nat.le_of_ble_eq_true rfl⟩ rfl hl.1 rfl (Nat.le_of_ble_eq_true rfl) dX8_count_120 ⟨Nat.zero_le _, Nat.zero_le _⟩) G (fun H locs G => ?_)
    exact ret dX8_count_123 rfl G (Prod.mk.inj (Option.some.inj h))
  have h := g_if h c9
  by_cases c13 : a1 = 5
  · have h := g_it h c13
    refine lv_tableIn (off := 123) (tgt := 124) hx hb dX8_count_1 (by rw [c13]; decide) (by rw [c13]; decide) (by rw [c13]; rfl) (by decide) ?_
    refine lv_aload_n hx hb dX8_count_124 rfl (lv_at hl 0 rfl) ?_
    refine gg8_0 C G ok.1 ok.2.1.1 u_fl_RX8_10 dX8_count_125 ?_
    obtain ⟨v14, e_v14, h⟩ := g_bind h
    refine g_calli (g_runV (n := 0) (As := []) (rest := []) C G (mX0_countSeams l X σ (t + 1) v14 ok.2.2.1 e_v14) ok.2.2.1.1.2 (gE_0 ok.2.2.1.1.1) rfl (g_goodV u_ml_RX8_159 u_im_yX0_countSeams u_se_yX0_countSeams u_in_RX0 u_co_yX0_countSeams) rfl rfl rfl (by decide +kernel) ⟨Nat.le_of_ble_eq_true rfl, Nat.le_of_ble_eq_true rfl⟩ rfl hl.1 rfl (Nat.le_of_ble_eq_true rfl) dX8_count_128 ⟨Nat.zero_le _, Nat.zero_le _⟩) G (fun H locs G => ?_)
    exact ret dX8_count_131 rfl G (Prod.mk.inj (Option.some.inj h))
  have h := g_if h c13
  by_cases c15 : a1 = 6
  · have h := g_it h c15
    refine lv_tableIn (off := 131) (tgt := 132) hx hb dX8_count_1 (by rw [c15]; decide) (by rw [c15]; decide) (by rw [c15]; rfl) (by decide) ?_
    refine lv_aload_n hx hb dX8_count_132 rfl (lv_at hl 0 rfl) ?_
    refine gg8_0 C G ok.1 ok.2.1.1 u_fl_RX8_10 dX8_count_133 ?_
    obtain ⟨v16, e_v16, h⟩ := g_bind h
    refine g_calli (g_runV (n := 0) (As := []) (rest := []) C G (mX0_countFittingSeams l X σ (t + 1) v16 ok.2.2.1 e_v16) ok.2.2.1.1.2 (gE_0 ok.2.2.1.1.1) rfl (g_goodV u_ml_RX8_162 u_im_yX0_countFittingSeams u_se_yX0_countFittingSeams u_in_RX0 u_co_yX0_countFittingSeams) rfl rfl rfl (by decide +kernel) ⟨Nat.le_of_ble_eq_true rfl, Nat.le_of_ble_eq_true rfl⟩ rfl hl.1 rfl (Nat.le_of_ble_eq_true rfl) dX8_count_136 ⟨Nat.zero_le _, Nat.zero_le _⟩) G (fun H locs G => ?_)
    exact ret dX8_count_139 rfl G (Prod.mk.inj (Option.some.inj h))
  have h := g_if h c15
  by_cases c17 : a1 = 7
  · have h := g_it h c17
    refine lv_tableIn (off := 139) (tgt := 140) hx hb dX8_count_1 (by rw [c17]; decide) (by rw [c17]; decide) (by rw [c17]; rfl) (by decide) ?_
    refine lv_aload_n hx hb dX8_count_140 rfl (lv_at hl 0 rfl) ?_
    refine gg8_0 C G ok.1 ok.2.1.1 u_fl_RX8_10 dX8_count_141 ?_
    refine lv_iconst (v := 0) hx hb dX8_count_144 (by decide) ?_
    obtain ⟨v18, e_v18, h⟩ := g_bind h
    refine g_calli (g_runV (n := 1) (As := [.int 0]) (rest := []) C G (mX0_countBorderEdges l X σ (t + 1) 0 v18 ok.2.2.1 e_v18) ok.2.2.1.1.2 (gE_0 ok.2.2.1.1.1) rfl (g_goodV u_ml_RX8_165 u_im_yX0_countBorderEdges u_se_yX0_countBorderEdges u_in_RX0 u_co_yX0_countBorderEdges) rfl rfl rfl (by decide +kernel) ⟨Nat.le_of_ble_eq_true rfl, Nat.le_of_ble_eq_true rfl⟩ rfl hl.1 rfl (Nat.le_of_ble_eq_true rfl) dX8_count_145 ⟨Nat.zero_le _, Nat.zero_le _⟩) G (fun H locs G => ?_)
    exact ret dX8_count_148 rfl G (Prod.mk.inj (Option.some.inj h))
  have h := g_if h c17
  by_cases c19 : a1 = 8
  · have h := g_it h c19
    refine lv_tableIn (off := 148) (tgt := 149) hx hb dX8_count_1 (by rw [c19]; decide) (by rw [c19]; decide) (by rw [c19]; rfl) (by decide) ?_
    refine lv_aload_n hx hb dX8_count_149 rfl (lv_at hl 0 rfl) ?_
    refine gg8_0 C G ok.1 ok.2.1.1 u_fl_RX8_10 dX8_count_150 ?_
    refine lv_iconst (v := 4) hx hb dX8_count_153 (by decide) ?_
    obtain ⟨v20, e_v20, h⟩ := g_bind h
    refine g_calli (g_runV (n := 1) (As := [.int 4]) (rest := []) C G (mX0_countBorderEdges l X σ (t + 1) 4 v20 ok.2.2.1 e_v20) ok.2.2.1.1.2 (gE_0 ok.2.2.1.1.1) rfl (g_goodV u_ml_RX8_165 u_im_yX0_countBorderEdges u_se_yX0_countBorderEdges u_in_RX0 u_co_yX0_countBorderEdges) rfl rfl rfl (by decide +kernel) ⟨Nat.le_of_ble_eq_true rfl, Nat.le_of_ble_eq_true rfl⟩ rfl hl.1 rfl (Nat.le_of_ble_eq_true rfl) dX8_count_154 ⟨Nat.zero_le _, Nat.zero_le _⟩) G (fun H locs G => ?_)
    exact ret dX8_count_157 rfl G (Prod.mk.inj (Option.some.inj h))
  have h := g_if h c19
  by_cases c21 : a1 = 9
  · have h := g_it h c21
    refine lv_tableIn (off := 157) (tgt := 158) hx hb dX8_count_1 (by rw [c21]; decide) (by rw [c21]; decide) (by rw [c21]; rfl) (by decide) ?_
    refine lv_aload_n hx hb dX8_count_158 rfl (lv_at hl 0 rfl) ?_
    refine gg8_0 C G ok.1 ok.2.1.1 u_fl_RX8_10 dX8_count_159 ?_
    refine gn0_1 C G ok.2.2.1.1 ok.2.2.1.2.1.2 (List.mem_of_getElem? (i := 3) rfl) dX8_count_162 ?_
    obtain ⟨v22, e_v22, h⟩ := g_bind h
    refine g_calli (g_runV (n := 0) (As := []) (rest := []) C G (mX4_places l X σ ((t + 1) + 8) v22 ok.2.2.1.2.2.2 e_v22) ok.2.2.1.2.2.2.1.2 (gE_4 ok.2.2.1.2.2.2.1.1) rfl (g_goodV u_ml_RX8_168 u_im_yX4_places u_se_yX4_places u_in_RX4 u_co_yX4_places) rfl rfl rfl (by decide +kernel) ⟨Nat.le_of_ble_eq_true rfl, Nat.le_of_ble_eq_true rfl⟩ rfl hl.1 rfl (Nat.le_of_ble_eq_true rfl) dX8_count_165 ⟨Nat.zero_le _, Nat.zero_le _⟩) G (fun H locs G => ?_)
    refine lv_aload_n hx hb dX8_count_168 rfl (lv_at hl 0 rfl) ?_
    refine gg8_0 C G ok.1 ok.2.1.1 u_fl_RX8_10 dX8_count_169 ?_
    obtain ⟨v23, e_v23, h⟩ := g_bind h
    refine g_calli (g_runV (n := 0) (As := []) (rest := [.int v22]) C G (mX0_countLying l X σ (t + 1) v23 ok.2.2.1 e_v23) ok.2.2.1.1.2 (gE_0 ok.2.2.1.1.1) rfl (g_goodV u_ml_RX8_51 u_im_yX0_countLying u_se_yX0_countLying u_in_RX0 u_co_yX0_countLying) rfl rfl rfl (by decide +kernel) ⟨Nat.le_of_ble_eq_true rfl, Nat.le_of_ble_eq_true rfl⟩ rfl hl.1 rfl (Nat.le_of_ble_eq_true rfl) dX8_count_172 ⟨Nat.zero_le _, Nat.zero_le _⟩) G (fun H locs G => ?_)
    refine lv_isub hx hb dX8_count_175 ?_
    exact ret dX8_count_176 rfl G (Prod.mk.inj (Option.some.inj h))
  have h := g_if h c21
  by_cases c24 : a1 = 10
  · have h := g_it h c24
    refine lv_tableIn (off := 176) (tgt := 177) hx hb dX8_count_1 (by rw [c24]; decide) (by rw [c24]; decide) (by rw [c24]; rfl) (by decide) ?_
    refine lv_aload_n hx hb dX8_count_177 rfl (lv_at hl 0 rfl) ?_
    refine gg8_2 C G ok.1 ok.2.1.2.2.1 u_fl_RX8_22 dX8_count_178 ?_
    obtain ⟨v25, e_v25, h⟩ := g_bind h
    refine g_calli (g_runV (n := 0) (As := []) (rest := []) C G (mX3_size l X σ (t + 31) v25 ok.2.2.2.2.1 e_v25) ok.2.2.2.2.1.1.2 (gE_3 ok.2.2.2.2.1.1.1) rfl (g_goodV u_ml_RX8_148 u_im_yX3_size u_se_yX3_size u_in_RX3 u_co_yX3_size) rfl rfl rfl (by decide +kernel) ⟨Nat.le_of_ble_eq_true rfl, Nat.le_of_ble_eq_true rfl⟩ rfl hl.1 rfl (Nat.le_of_ble_eq_true rfl) dX8_count_181 ⟨Nat.zero_le _, Nat.zero_le _⟩) G (fun H locs G => ?_)
    exact ret dX8_count_184 rfl G (Prod.mk.inj (Option.some.inj h))
  have h := g_if h c24
  by_cases c26 : a1 = 11
  · have h := g_it h c26
    refine lv_tableIn (off := 184) (tgt := 185) hx hb dX8_count_1 (by rw [c26]; decide) (by rw [c26]; decide) (by rw [c26]; rfl) (by decide) ?_
    refine lv_aload_n hx hb dX8_count_185 rfl (lv_at hl 0 rfl) ?_
    refine gg8_4 C G ok.1 ok.2.1.2.2.2.2.1 u_fl_RX8_36 dX8_count_186 ?_
    obtain ⟨v27, e_v27, h⟩ := g_bind h
    refine g_calli (g_runV (n := 0) (As := []) (rest := []) C G (mX7_length l X σ (t + 111) v27 ok.2.2.2.2.2.2.1 e_v27) ok.2.2.2.2.2.2.1.1.2 (gE_7 ok.2.2.2.2.2.2.1.1.1) rfl (g_goodV u_ml_RX8_171 u_im_yX7_length u_se_yX7_length u_in_RX7 u_co_yX7_length) rfl rfl rfl (by decide +kernel) ⟨Nat.le_of_ble_eq_true rfl, Nat.le_of_ble_eq_true rfl⟩ rfl hl.1 rfl (Nat.le_of_ble_eq_true rfl) dX8_count_189 ⟨Nat.zero_le _, Nat.zero_le _⟩) G (fun H locs G => ?_)
    exact ret dX8_count_192 rfl G (Prod.mk.inj (Option.some.inj h))
  have h := g_if h c26
  refine lv_tableOut (tgt := 193) hx hb dX8_count_1 (by have q0 := lv_neT c1 (a := 0) (by decide); have q1 := lv_neT c3 (a := 1) (by decide); have q2 := lv_neT c5 (a := 2) (by decide); have q3 := lv_neT c7 (a := 3) (by decide); have q4 := lv_neT c9 (a := 4) (by decide); have q5 := lv_neT c13 (a := 5) (by decide); have q6 := lv_neT c15 (a := 6) (by decide); have q7 := lv_neT c17 (a := 7) (by decide); have q8 := lv_neT c19 (a := 8) (by decide); have q9 := lv_neT c21 (a := 9) (by decide); have q10 := lv_neT c24 (a := 10) (by decide); have q11 := lv_neT c26 (a := 11) (by decide); omega) (by decide) ?_
  refine lv_sipush (v := (-1001)) hx hb dX8_count_193 (by decide) ?_
  exact ret dX8_count_196 rfl G (Prod.mk.inj (Option.some.inj h))

def fX8_isPlace (σ : gM) (t : Nat) (a1 : Int32) : Option (Int32) :=
  ((fX4_places σ ((t + 1) + 8)).bind fun v1 =>
  ((fX8_isWithin σ a1 0 (v1 - 1)).bind fun v2 =>
  (if v2 = 0 ∨ v2 = 1 then
  some v2
  else none)))
set_option maxHeartbeats 4000000 in
set_option maxRecDepth 100000 in
theorem mX8_isPlace (l : Launch) (X : gX) (σ : gM) (t : Nat) (a1 : Int32) (r : Int32) (ok : gok8 X t) (h : fX8_isPlace σ t a1 = some r) : Met l yX8_isPlace (Cond.code yX8_isPlace cX8_isPlace 2 (some .boolean) :: gBig) ({ frames := 1, cells := 0, slots := 0, locals := 22 }) (gPc X σ [.ref (xN X + t), .int a1]) (gQi X σ r) 0 0 (xA X) := by
  refine g_meti (cc := cX8_isPlace) (maxL := 2) (own := RX8) (by decide) rfl rfl (Nat.le_of_ble_eq_true rfl) ?_
  intro p ev s m args below meth c Q C G ret ls hl
  obtain ⟨⟨hx, hb, hml, hown, hts⟩, hK⟩ := id C
  have hl : lv_has ls 2 [(0, .ref (xN X + t)), (1, .int a1)] := hl
  unfold fX8_isPlace at h
  refine lv_iload_n hx hb dX8_isPlace_0 rfl (lv_at hl 1 rfl) ?_
  refine lv_iconst (v := 0) hx hb dX8_isPlace_1 (by decide) ?_
  refine lv_aload_n hx hb dX8_isPlace_2 rfl (lv_at hl 0 rfl) ?_
  refine gg8_0 C G ok.1 ok.2.1.1 u_fl_RX8_10 dX8_isPlace_3 ?_
  refine gn0_1 C G ok.2.2.1.1 ok.2.2.1.2.1.2 (List.mem_of_getElem? (i := 3) rfl) dX8_isPlace_6 ?_
  obtain ⟨v1, e_v1, h⟩ := g_bind h
  refine g_calli (g_runV (n := 0) (As := []) (rest := [.int 0, .int a1]) C G (mX4_places l X σ ((t + 1) + 8) v1 ok.2.2.1.2.2.2 e_v1) ok.2.2.1.2.2.2.1.2 (gE_4 ok.2.2.1.2.2.2.1.1) rfl (g_goodV u_ml_RX8_168 u_im_yX4_places u_se_yX4_places u_in_RX4 u_co_yX4_places) rfl rfl rfl (by decide +kernel) ⟨Nat.le_of_ble_eq_true rfl, Nat.le_of_ble_eq_true rfl⟩ rfl hl.1 rfl (Nat.le_of_ble_eq_true rfl) dX8_isPlace_9 ⟨Nat.zero_le _, Nat.zero_le _⟩) G (fun H locs G => ?_)
  refine lv_iconst (v := 1) hx hb dX8_isPlace_12 (by decide) ?_
  refine lv_isub hx hb dX8_isPlace_13 ?_
  obtain ⟨v2, e_v2, h⟩ := g_bind h
  refine g_calli (g_runS (n := 3) (As := [.int a1, .int 0, .int (v1 - 1)]) (rest := []) C G (mX8_isWithin l X σ a1 0 (v1 - 1) v2 e_v2) (g_goodS u_ml_RX8_47 u_st_yX8_isWithin u_in_RX8 u_co_yX8_isWithin) rfl rfl rfl (by decide +kernel) ⟨Nat.le_of_ble_eq_true rfl, Nat.le_of_ble_eq_true rfl⟩ rfl hl.1 rfl (Nat.le_of_ble_eq_true rfl) dX8_isPlace_14 ⟨Nat.zero_le _, Nat.zero_le _⟩) G (fun H locs G => ?_)
  obtain ⟨c3, h⟩ := g_chk h
  exact ret dX8_isPlace_17 (g_z c3) G ⟨Option.some.inj h, rfl⟩

def fX8_isFree (σ : gM) (t : Nat) (a1 : Int32) (a2 : Int32) : Option (Int32) :=
  ((fX4_lies σ ((t + 1) + 8) a1).bind fun v1 =>
  (if v1 = 0 then
    ((fX4_scrapAt σ ((t + 1) + 8) a2).bind fun v3 =>
    (if v3 = (-1) then
      some 1
    else
      some 0))
  else
    some 0))
set_option maxHeartbeats 4000000 in
set_option maxRecDepth 100000 in
theorem mX8_isFree (l : Launch) (X : gX) (σ : gM) (t : Nat) (a1 : Int32) (a2 : Int32) (r : Int32) (ok : gok8 X t) (h : fX8_isFree σ t a1 a2 = some r) : Met l yX8_isFree (Cond.code yX8_isFree cX8_isFree 3 (some .boolean) :: gBig) ({ frames := 2, cells := 0, slots := 0, locals := 42 }) (gPc X σ [.ref (xN X + t), .int a1, .int a2]) (gQi X σ r) 0 0 (xA X) := by
  refine g_meti (cc := cX8_isFree) (maxL := 3) (own := RX8) (by decide) rfl rfl (Nat.le_of_ble_eq_true rfl) ?_
  intro p ev s m args below meth c Q C G ret ls hl
  obtain ⟨⟨hx, hb, hml, hown, hts⟩, hK⟩ := id C
  have hl : lv_has ls 3 [(0, .ref (xN X + t)), (1, .int a1), (2, .int a2)] := hl
  unfold fX8_isFree at h
  refine lv_aload_n hx hb dX8_isFree_0 rfl (lv_at hl 0 rfl) ?_
  refine gg8_0 C G ok.1 ok.2.1.1 u_fl_RX8_10 dX8_isFree_1 ?_
  refine gn0_1 C G ok.2.2.1.1 ok.2.2.1.2.1.2 (List.mem_of_getElem? (i := 3) rfl) dX8_isFree_4 ?_
  refine lv_iload_n hx hb dX8_isFree_7 rfl (lv_at hl 1 rfl) ?_
  obtain ⟨v1, e_v1, h⟩ := g_bind h
  refine g_calli (g_runV (n := 1) (As := [.int a1]) (rest := []) C G (mX4_lies l X σ ((t + 1) + 8) a1 v1 ok.2.2.1.2.2.2 e_v1) ok.2.2.1.2.2.2.1.2 (gE_4 ok.2.2.1.2.2.2.1.1) rfl (g_goodV u_ml_RX8_110 u_im_yX4_lies u_se_yX4_lies u_in_RX4 u_co_yX4_lies) rfl rfl rfl (by decide +kernel) ⟨Nat.le_of_ble_eq_true rfl, Nat.le_of_ble_eq_true rfl⟩ rfl hl.1 rfl (Nat.le_of_ble_eq_true rfl) dX8_isFree_8 ⟨Nat.zero_le _, Nat.zero_le _⟩) G (fun H locs G => ?_)
  refine lv_if_ne (tgt := 33) hx hb dX8_isFree_11 (by decide) (fun c2 => ?_) (fun c2 => ?_)
  · have h := g_if h c2
    refine lv_iconst (v := 0) hx hb dX8_isFree_33 (by decide) ?_
    exact ret dX8_isFree_34 rfl G ⟨Option.some.inj h, rfl⟩
  · have h := g_it h c2
    refine lv_aload_n hx hb dX8_isFree_14 rfl (lv_at hl 0 rfl) ?_
    refine gg8_0 C G ok.1 ok.2.1.1 u_fl_RX8_10 dX8_isFree_15 ?_
    refine gn0_1 C G ok.2.2.1.1 ok.2.2.1.2.1.2 (List.mem_of_getElem? (i := 3) rfl) dX8_isFree_18 ?_
    refine lv_iload_n hx hb dX8_isFree_21 rfl (lv_at hl 2 rfl) ?_
    obtain ⟨v3, e_v3, h⟩ := g_bind h
    refine g_calli (g_runV (n := 1) (As := [.int a2]) (rest := []) C G (mX4_scrapAt l X σ ((t + 1) + 8) a2 v3 ok.2.2.1.2.2.2 e_v3) ok.2.2.1.2.2.2.1.2 (gE_4 ok.2.2.1.2.2.2.1.1) rfl (g_goodV u_ml_RX8_194 u_im_yX4_scrapAt u_se_yX4_scrapAt u_in_RX4 u_co_yX4_scrapAt) rfl rfl rfl (by decide +kernel) ⟨Nat.le_of_ble_eq_true rfl, Nat.le_of_ble_eq_true rfl⟩ rfl hl.1 rfl (Nat.le_of_ble_eq_true rfl) dX8_isFree_22 ⟨Nat.zero_le _, Nat.zero_le _⟩) G (fun H locs G => ?_)
    refine lv_iconst (v := (-1)) hx hb dX8_isFree_25 (by decide) ?_
    refine lv_icmp_ne (tgt := 33) hx hb dX8_isFree_26 (by decide) (fun c4 => ?_) (fun c4 => ?_)
    · have h := g_if h c4
      refine lv_iconst (v := 0) hx hb dX8_isFree_33 (by decide) ?_
      exact ret dX8_isFree_34 rfl G ⟨Option.some.inj h, rfl⟩
    · have h := g_it h c4
      refine lv_iconst (v := 1) hx hb dX8_isFree_29 (by decide) ?_
      refine lv_goto (tgt := 34) hx hb dX8_isFree_30 (by decide) ?_
      exact ret dX8_isFree_34 rfl G ⟨Option.some.inj h, rfl⟩

def fX0_canLie_3 (σ : gM) (t : Nat) (a1 : Int32) (a2 : Int32) (a3 : Int32) : Nat → Int32 → Option (Int32)
  | 0, _ => none
  | n + 1, x4 =>
    (if 4 ≤ x4 then
      some 1
    else
      ((fX0_verdict σ t a1 a2 a3 x4).bind fun v2 =>
      (if v2 ≤ 0 then
        (gl (x4 + 1) fun w4 =>
        fX0_canLie_3 σ t a1 a2 a3 n w4)
      else
        some 0)))

def fX0_canLie (σ : gM) (t : Nat) (a1 : Int32) (a2 : Int32) (a3 : Int32) : Option (Int32) :=
  fX0_canLie_3 σ t a1 a2 a3 gF 0
set_option maxHeartbeats 4000000 in
set_option maxRecDepth 100000 in
theorem mX0_canLie (l : Launch) (X : gX) (σ : gM) (t : Nat) (a1 : Int32) (a2 : Int32) (a3 : Int32) (r : Int32) (ok : gok0 X t) (h : fX0_canLie σ t a1 a2 a3 = some r) : Met l yX0_canLie (Cond.code yX0_canLie cX0_canLie 5 (some .boolean) :: gBig) ({ frames := 3, cells := 0, slots := 0, locals := 75 }) (gPc X σ [.ref (xN X + t), .int a1, .int a2, .int a3]) (gQi X σ r) 0 0 (xA X) := by
  refine g_meti (cc := cX0_canLie) (maxL := 5) (own := RX0) (by decide) rfl rfl (Nat.le_of_ble_eq_true rfl) ?_
  intro p ev s m args below meth c Q C G ret ls hl
  obtain ⟨⟨hx, hb, hml, hown, hts⟩, hK⟩ := id C
  have hl : lv_has ls 5 [(0, .ref (xN X + t)), (1, .int a1), (2, .int a2), (3, .int a3)] := hl
  have L3 : ∀ (n : Nat) (H : Heap) (locs : List Loc) (ls : Array Slot) (x4 : Int32), gG X σ s H locs → lv_has ls 5 [(0, .ref (xN X + t)), (1, .int a1), (2, .int a2), (3, .int a3), (4, .int x4)] → fX0_canLie_3 σ t a1 a2 a3 n x4 = some r → W p l ev ({ frames := 3, cells := 0, slots := 0, locals := 75 }) s m args below meth c H locs 0 0 Q (F0 m 3 ls []) := by
    intro n
    induction n with
    | zero =>
      intro H locs ls x4 G hl h
      rw [fX0_canLie_3] at h
      cases h
    | succ n ih =>
      intro H locs ls x4 G hl h
      rw [fX0_canLie_3] at h
      refine lv_iload hx hb dX0_canLie_3 (lv_at hl 4 rfl) ?_
      refine lv_iconst (v := 4) hx hb dX0_canLie_5 (by decide) ?_
      refine lv_icmp_ge (tgt := 29) hx hb dX0_canLie_6 (by decide) (fun c1 => ?_) (fun c1 => ?_)
      · have h := g_it h c1
        refine lv_iconst (v := 1) hx hb dX0_canLie_29 (by decide) ?_
        exact ret dX0_canLie_30 rfl G ⟨Option.some.inj h, rfl⟩
      · have h := g_if h c1
        refine lv_aload_n hx hb dX0_canLie_9 rfl (lv_at hl 0 rfl) ?_
        refine lv_iload_n hx hb dX0_canLie_10 rfl (lv_at hl 1 rfl) ?_
        refine lv_iload_n hx hb dX0_canLie_11 rfl (lv_at hl 2 rfl) ?_
        refine lv_iload_n hx hb dX0_canLie_12 rfl (lv_at hl 3 rfl) ?_
        refine lv_iload hx hb dX0_canLie_13 (lv_at hl 4 rfl) ?_
        obtain ⟨v2, e_v2, h⟩ := g_bind h
        refine g_calli (g_runV (n := 4) (As := [.int a1, .int a2, .int a3, .int x4]) (rest := []) C G (mX0_verdict l X σ t a1 a2 a3 x4 v2 ok e_v2) ok.1.2 (gE_0 ok.1.1) rfl (g_goodV u_ml_RX0_63 u_im_yX0_verdict u_se_yX0_verdict u_in_RX0 u_co_yX0_verdict) rfl rfl rfl (by decide +kernel) ⟨Nat.le_of_ble_eq_true rfl, Nat.le_of_ble_eq_true rfl⟩ rfl hl.1 rfl (Nat.le_of_ble_eq_true rfl) dX0_canLie_15 ⟨Nat.zero_le _, Nat.zero_le _⟩) G (fun H locs G => ?_)
        refine lv_if_le (tgt := 23) hx hb dX0_canLie_18 (by decide) (fun c3 => ?_) (fun c3 => ?_)
        · have h := g_it h c3
          obtain ⟨w4, e_w4⟩ : ∃ y : Int32, y = x4 + 1 := ⟨_, rfl⟩
          have h := g_let2 e_w4 h
          refine lv_iinc (v := w4) (lv' := [(4, .int w4), (0, .ref (xN X + t)), (1, .int a1), (2, .int a2), (3, .int a3)]) hx hb dX0_canLie_23 hl (k := 4) rfl (by rw [e_w4]; rfl) (by decide) rfl (fun ls hl => ?_)
          refine lv_goto (tgt := 3) hx hb dX0_canLie_26 (by decide) ?_
          exact ih _ _ _ w4 G (lv_sub hl [1, 2, 3, 4, 0] rfl) h
        · have h := g_if h c3
          refine lv_iconst (v := 0) hx hb dX0_canLie_21 (by decide) ?_
          exact ret dX0_canLie_22 rfl G ⟨Option.some.inj h, rfl⟩
  unfold fX0_canLie at h
  refine lv_iconst (v := 0) hx hb dX0_canLie_0 (by decide) ?_
  refine lv_istore (lv' := [(4, .int 0), (0, .ref (xN X + t)), (1, .int a1), (2, .int a2), (3, .int a3)]) hx hb dX0_canLie_1 hl (by decide) rfl (fun ls hl => ?_)
  exact L3  gF _ _ _ 0 G (lv_sub hl [1, 2, 3, 4, 0] rfl) h

def fX4_put (σ : gM) (t : Nat) (a1 : Int32) (a2 : Int32) (a3 : Int32) : Option (gM) :=
  ((fX5_set σ (t + 1) a1 a2).bind fun σ2 =>
  ((fX5_set σ2 (t + 3) a1 a3).bind fun σ4 =>
  ((fX5_set σ4 (t + 5) a2 a1).bind fun σ6 =>
  some σ6)))
set_option maxHeartbeats 4000000 in
set_option maxRecDepth 100000 in
theorem mX4_put (l : Launch) (X : gX) (σ σ' : gM) (t : Nat) (a1 : Int32) (a2 : Int32) (a3 : Int32) (ok : gok4 X t) (h : fX4_put σ t a1 a2 a3 = some σ') : Met l yX4_put (Cond.code yX4_put cX4_put 4 none :: gBig) ({ frames := 1, cells := 0, slots := 0, locals := 22 }) (gPc X σ [.ref (xN X + t), .int a1, .int a2, .int a3]) (gQv X σ') 0 0 (xA X) := by
  refine g_metv (cc := cX4_put) (maxL := 4) (own := RX4) (by decide) rfl rfl (Nat.le_of_ble_eq_true rfl) ?_
  intro p ev s m args below meth c Q C G ret ls hl
  obtain ⟨⟨hx, hb, hml, hown, hts⟩, hK⟩ := id C
  have hl : lv_has ls 4 [(0, .ref (xN X + t)), (1, .int a1), (2, .int a2), (3, .int a3)] := hl
  unfold fX4_put at h
  refine lv_aload_n hx hb dX4_put_0 rfl (lv_at hl 0 rfl) ?_
  refine gg4_0 C G ok.1 ok.2.1.1 u_fl_RX4_14 dX4_put_1 ?_
  refine lv_iload_n hx hb dX4_put_4 rfl (lv_at hl 1 rfl) ?_
  refine lv_iload_n hx hb dX4_put_5 rfl (lv_at hl 2 rfl) ?_
  obtain ⟨σ2, e_σ2, h⟩ := g_bind h
  refine g_callv (g_runV (n := 2) (As := [.int a1, .int a2]) (rest := []) C G (mX5_set l X σ σ2 (t + 1) a1 a2 ok.2.2.1 e_σ2) ok.2.2.1.1.2 (gE_5 ok.2.2.1.1.1) rfl (g_goodV u_ml_RX4_44 u_im_yX5_set u_se_yX5_set u_in_RX5 u_co_yX5_set) rfl rfl rfl (by decide +kernel) ⟨Nat.le_of_ble_eq_true rfl, Nat.le_of_ble_eq_true rfl⟩ rfl hl.1 rfl (Nat.le_of_ble_eq_true rfl) dX4_put_6 ⟨Nat.zero_le _, Nat.zero_le _⟩) G (fun H locs G => ?_)
  refine lv_aload_n hx hb dX4_put_9 rfl (lv_at hl 0 rfl) ?_
  refine gg4_1 C G ok.1 ok.2.1.2.1 u_fl_RX4_20 dX4_put_10 ?_
  refine lv_iload_n hx hb dX4_put_13 rfl (lv_at hl 1 rfl) ?_
  refine lv_iload_n hx hb dX4_put_14 rfl (lv_at hl 3 rfl) ?_
  obtain ⟨σ4, e_σ4, h⟩ := g_bind h
  refine g_callv (g_runV (n := 2) (As := [.int a1, .int a3]) (rest := []) C G (mX5_set l X σ2 σ4 (t + 3) a1 a3 ok.2.2.2.1 e_σ4) ok.2.2.2.1.1.2 (gE_5 ok.2.2.2.1.1.1) rfl (g_goodV u_ml_RX4_44 u_im_yX5_set u_se_yX5_set u_in_RX5 u_co_yX5_set) rfl rfl rfl (by decide +kernel) ⟨Nat.le_of_ble_eq_true rfl, Nat.le_of_ble_eq_true rfl⟩ rfl hl.1 rfl (Nat.le_of_ble_eq_true rfl) dX4_put_15 ⟨Nat.zero_le _, Nat.zero_le _⟩) G (fun H locs G => ?_)
  refine lv_aload_n hx hb dX4_put_18 rfl (lv_at hl 0 rfl) ?_
  refine gg4_2 C G ok.1 ok.2.1.2.2 u_fl_RX4_23 dX4_put_19 ?_
  refine lv_iload_n hx hb dX4_put_22 rfl (lv_at hl 2 rfl) ?_
  refine lv_iload_n hx hb dX4_put_23 rfl (lv_at hl 1 rfl) ?_
  obtain ⟨σ6, e_σ6, h⟩ := g_bind h
  refine g_callv (g_runV (n := 2) (As := [.int a2, .int a1]) (rest := []) C G (mX5_set l X σ4 σ6 (t + 5) a2 a1 ok.2.2.2.2 e_σ6) ok.2.2.2.2.1.2 (gE_5 ok.2.2.2.2.1.1) rfl (g_goodV u_ml_RX4_44 u_im_yX5_set u_se_yX5_set u_in_RX5 u_co_yX5_set) rfl rfl rfl (by decide +kernel) ⟨Nat.le_of_ble_eq_true rfl, Nat.le_of_ble_eq_true rfl⟩ rfl hl.1 rfl (Nat.le_of_ble_eq_true rfl) dX4_put_24 ⟨Nat.zero_le _, Nat.zero_le _⟩) G (fun H locs G => ?_)
  exact ret dX4_put_27 G (Option.some.inj h)

def fX0_seamsAt_5 (σ : gM) (t : Nat) (a1 : Int32) (a2 : Int32) : Nat → Int32 → Int32 → Option (Int32)
  | 0, _, _ => none
  | n + 1, x3, x4 =>
    (if 4 ≤ x4 then
      some x3
    else
      ((fX0_neighbour σ t a1 a2 x4).bind fun v2 =>
      (if v2 = (-1) then
        (gl (x4 + 1) fun w4 =>
        fX0_seamsAt_5 σ t a1 a2 n x3 w4)
      else
        (gl (x3 + 1) fun w5 =>
        (gl (x4 + 1) fun w6 =>
        fX0_seamsAt_5 σ t a1 a2 n w5 w6)))))

def fX0_seamsAt (σ : gM) (t : Nat) (a1 : Int32) (a2 : Int32) : Option (Int32) :=
  fX0_seamsAt_5 σ t a1 a2 gF 0 0
set_option maxHeartbeats 4000000 in
set_option maxRecDepth 100000 in
theorem mX0_seamsAt (l : Launch) (X : gX) (σ : gM) (t : Nat) (a1 : Int32) (a2 : Int32) (r : Int32) (ok : gok0 X t) (h : fX0_seamsAt σ t a1 a2 = some r) : Met l yX0_seamsAt (Cond.code yX0_seamsAt cX0_seamsAt 5 (some .int) :: gBig) ({ frames := 3, cells := 0, slots := 0, locals := 67 }) (gPc X σ [.ref (xN X + t), .int a1, .int a2]) (gQi X σ r) 0 0 (xA X) := by
  refine g_meti (cc := cX0_seamsAt) (maxL := 5) (own := RX0) (by decide) rfl rfl (Nat.le_of_ble_eq_true rfl) ?_
  intro p ev s m args below meth c Q C G ret ls hl
  obtain ⟨⟨hx, hb, hml, hown, hts⟩, hK⟩ := id C
  have hl : lv_has ls 5 [(0, .ref (xN X + t)), (1, .int a1), (2, .int a2)] := hl
  have L5 : ∀ (n : Nat) (H : Heap) (locs : List Loc) (ls : Array Slot) (x3 : Int32) (x4 : Int32), gG X σ s H locs → lv_has ls 5 [(0, .ref (xN X + t)), (1, .int a1), (2, .int a2), (3, .int x3), (4, .int x4)] → fX0_seamsAt_5 σ t a1 a2 n x3 x4 = some r → W p l ev ({ frames := 3, cells := 0, slots := 0, locals := 67 }) s m args below meth c H locs 0 0 Q (F0 m 5 ls []) := by
    intro n
    induction n with
    | zero =>
      intro H locs ls x3 x4 G hl h
      rw [fX0_seamsAt_5] at h
      cases h
    | succ n ih =>
      intro H locs ls x3 x4 G hl h
      rw [fX0_seamsAt_5] at h
      refine lv_iload hx hb dX0_seamsAt_5 (lv_at hl 4 rfl) ?_
      refine lv_iconst (v := 4) hx hb dX0_seamsAt_7 (by decide) ?_
      refine lv_icmp_ge (tgt := 32) hx hb dX0_seamsAt_8 (by decide) (fun c1 => ?_) (fun c1 => ?_)
      · have h := g_it h c1
        refine lv_iload_n hx hb dX0_seamsAt_32 rfl (lv_at hl 3 rfl) ?_
        exact ret dX0_seamsAt_33 rfl G ⟨Option.some.inj h, rfl⟩
      · have h := g_if h c1
        refine lv_aload_n hx hb dX0_seamsAt_11 rfl (lv_at hl 0 rfl) ?_
        refine lv_iload_n hx hb dX0_seamsAt_12 rfl (lv_at hl 1 rfl) ?_
        refine lv_iload_n hx hb dX0_seamsAt_13 rfl (lv_at hl 2 rfl) ?_
        refine lv_iload hx hb dX0_seamsAt_14 (lv_at hl 4 rfl) ?_
        obtain ⟨v2, e_v2, h⟩ := g_bind h
        refine g_calli (g_runV (n := 3) (As := [.int a1, .int a2, .int x4]) (rest := []) C G (mX0_neighbour l X σ t a1 a2 x4 v2 ok e_v2) ok.1.2 (gE_0 ok.1.1) rfl (g_goodV u_ml_RX0_71 u_im_yX0_neighbour u_se_yX0_neighbour u_in_RX0 u_co_yX0_neighbour) rfl rfl rfl (by decide +kernel) ⟨Nat.le_of_ble_eq_true rfl, Nat.le_of_ble_eq_true rfl⟩ rfl hl.1 rfl (Nat.le_of_ble_eq_true rfl) dX0_seamsAt_16 ⟨Nat.zero_le _, Nat.zero_le _⟩) G (fun H locs G => ?_)
        refine lv_iconst (v := (-1)) hx hb dX0_seamsAt_19 (by decide) ?_
        refine lv_icmp_eq (tgt := 26) hx hb dX0_seamsAt_20 (by decide) (fun c3 => ?_) (fun c3 => ?_)
        · have h := g_it h c3
          obtain ⟨w4, e_w4⟩ : ∃ y : Int32, y = x4 + 1 := ⟨_, rfl⟩
          have h := g_let2 e_w4 h
          refine lv_iinc (v := w4) (lv' := [(4, .int w4), (0, .ref (xN X + t)), (1, .int a1), (2, .int a2), (3, .int x3)]) hx hb dX0_seamsAt_26 hl (k := 4) rfl (by rw [e_w4]; rfl) (by decide) rfl (fun ls hl => ?_)
          refine lv_goto (tgt := 5) hx hb dX0_seamsAt_29 (by decide) ?_
          exact ih _ _ _ x3 w4 G (lv_sub hl [1, 2, 3, 4, 0] rfl) h
        · have h := g_if h c3
          obtain ⟨w5, e_w5⟩ : ∃ y : Int32, y = x3 + 1 := ⟨_, rfl⟩
          have h := g_let2 e_w5 h
          refine lv_iinc (v := w5) (lv' := [(3, .int w5), (0, .ref (xN X + t)), (1, .int a1), (2, .int a2), (4, .int x4)]) hx hb dX0_seamsAt_23 hl (k := 3) rfl (by rw [e_w5]; rfl) (by decide) rfl (fun ls hl => ?_)
          obtain ⟨w6, e_w6⟩ : ∃ y : Int32, y = x4 + 1 := ⟨_, rfl⟩
          have h := g_let2 e_w6 h
          refine lv_iinc (v := w6) (lv' := [(4, .int w6), (3, .int w5), (0, .ref (xN X + t)), (1, .int a1), (2, .int a2)]) hx hb dX0_seamsAt_26 hl (k := 4) rfl (by rw [e_w6]; rfl) (by decide) rfl (fun ls hl => ?_)
          refine lv_goto (tgt := 5) hx hb dX0_seamsAt_29 (by decide) ?_
          exact ih _ _ _ w5 w6 G (lv_sub hl [2, 3, 4, 1, 0] rfl) h
  unfold fX0_seamsAt at h
  refine lv_iconst (v := 0) hx hb dX0_seamsAt_0 (by decide) ?_
  refine lv_istore_n (lv' := [(3, .int 0), (0, .ref (xN X + t)), (1, .int a1), (2, .int a2)]) hx hb dX0_seamsAt_1 rfl hl (by decide) rfl (fun ls hl => ?_)
  refine lv_iconst (v := 0) hx hb dX0_seamsAt_2 (by decide) ?_
  refine lv_istore (lv' := [(4, .int 0), (3, .int 0), (0, .ref (xN X + t)), (1, .int a1), (2, .int a2)]) hx hb dX0_seamsAt_3 hl (by decide) rfl (fun ls hl => ?_)
  exact L5  gF _ _ _ 0 0 G (lv_sub hl [2, 3, 4, 1, 0] rfl) h

def fX8_lay (σ : gM) (t : Nat) (a1 : Int32) (a2 : Int32) (a3 : Int32) : Option (Int32 × gM) :=
  ((fX8_isScrap σ t a1).bind fun v1 =>
  (if v1 = 0 then
    some ((-1001), σ)
  else
    ((fX8_isPlace σ t a2).bind fun v3 =>
    (if v3 = 0 then
      some ((-1001), σ)
    else
      ((fX8_isOrientation σ a3).bind fun v5 =>
      (if v5 = 0 then
        some ((-1001), σ)
      else
        ((fX8_isFree σ t a1 a2).bind fun v7 =>
        (if v7 = 0 then
          some ((-1002), σ)
        else
          ((fX0_canLie σ (t + 1) a1 a2 a3).bind fun v9 =>
          (if v9 = 0 then
            some ((-1002), σ)
          else
            ((fX3_keep σ (t + 31) (t + 1)).bind fun σ12 =>
            ((fX4_put σ12 ((t + 1) + 8) a1 a2 a3).bind fun σ14 =>
            ((fX0_seamsAt σ14 (t + 1) a1 a2).bind fun v15 =>
            some (v15, σ14))))))))))))))
set_option maxHeartbeats 4000000 in
set_option maxRecDepth 100000 in
theorem mX8_lay (l : Launch) (X : gX) (σ σ' : gM) (t : Nat) (a1 : Int32) (a2 : Int32) (a3 : Int32) (r : Int32) (ok : gok8 X t) (h : fX8_lay σ t a1 a2 a3 = some (r, σ')) : Met l yX8_lay (Cond.code yX8_lay cX8_lay 4 (some .int) :: gBig) ({ frames := 5, cells := 0, slots := 0, locals := 150 }) (gPc X σ [.ref (xN X + t), .int a1, .int a2, .int a3]) (gQi X σ' r) 0 0 (xA X) := by
  refine g_meti (cc := cX8_lay) (maxL := 4) (own := RX8) (by decide) rfl rfl (Nat.le_of_ble_eq_true rfl) ?_
  intro p ev s m args below meth c Q C G ret ls hl
  obtain ⟨⟨hx, hb, hml, hown, hts⟩, hK⟩ := id C
  have hl : lv_has ls 4 [(0, .ref (xN X + t)), (1, .int a1), (2, .int a2), (3, .int a3)] := hl
  unfold fX8_lay at h
  refine lv_aload_n hx hb dX8_lay_0 rfl (lv_at hl 0 rfl) ?_
  refine lv_iload_n hx hb dX8_lay_1 rfl (lv_at hl 1 rfl) ?_
  obtain ⟨v1, e_v1, h⟩ := g_bind h
  refine g_calli (g_runV (n := 1) (As := [.int a1]) (rest := []) C G (mX8_isScrap l X σ t a1 v1 ok e_v1) ok.1.2 (gE_8 ok.1.1) rfl (g_goodV u_ml_RX8_104 u_im_yX8_isScrap u_se_yX8_isScrap u_in_RX8 u_co_yX8_isScrap) rfl rfl rfl (by decide +kernel) ⟨Nat.le_of_ble_eq_true rfl, Nat.le_of_ble_eq_true rfl⟩ rfl hl.1 rfl (Nat.le_of_ble_eq_true rfl) dX8_lay_2 ⟨Nat.zero_le _, Nat.zero_le _⟩) G (fun H locs G => ?_)
  refine lv_if_eq (tgt := 23) hx hb dX8_lay_5 (by decide) (fun c2 => ?_) (fun c2 => ?_)
  · have h := g_it h c2
    refine lv_sipush (v := (-1001)) hx hb dX8_lay_23 (by decide) ?_
    exact ret dX8_lay_26 rfl G (Prod.mk.inj (Option.some.inj h))
  · have h := g_if h c2
    refine lv_aload_n hx hb dX8_lay_8 rfl (lv_at hl 0 rfl) ?_
    refine lv_iload_n hx hb dX8_lay_9 rfl (lv_at hl 2 rfl) ?_
    obtain ⟨v3, e_v3, h⟩ := g_bind h
    refine g_calli (g_runV (n := 1) (As := [.int a2]) (rest := []) C G (mX8_isPlace l X σ t a2 v3 ok e_v3) ok.1.2 (gE_8 ok.1.1) rfl (g_goodV u_ml_RX8_174 u_im_yX8_isPlace u_se_yX8_isPlace u_in_RX8 u_co_yX8_isPlace) rfl rfl rfl (by decide +kernel) ⟨Nat.le_of_ble_eq_true rfl, Nat.le_of_ble_eq_true rfl⟩ rfl hl.1 rfl (Nat.le_of_ble_eq_true rfl) dX8_lay_10 ⟨Nat.zero_le _, Nat.zero_le _⟩) G (fun H locs G => ?_)
    refine lv_if_eq (tgt := 23) hx hb dX8_lay_13 (by decide) (fun c4 => ?_) (fun c4 => ?_)
    · have h := g_it h c4
      refine lv_sipush (v := (-1001)) hx hb dX8_lay_23 (by decide) ?_
      exact ret dX8_lay_26 rfl G (Prod.mk.inj (Option.some.inj h))
    · have h := g_if h c4
      refine lv_iload_n hx hb dX8_lay_16 rfl (lv_at hl 3 rfl) ?_
      obtain ⟨v5, e_v5, h⟩ := g_bind h
      refine g_calli (g_runS (n := 1) (As := [.int a3]) (rest := []) C G (mX8_isOrientation l X σ a3 v5 e_v5) (g_goodS u_ml_RX8_135 u_st_yX8_isOrientation u_in_RX8 u_co_yX8_isOrientation) rfl rfl rfl (by decide +kernel) ⟨Nat.le_of_ble_eq_true rfl, Nat.le_of_ble_eq_true rfl⟩ rfl hl.1 rfl (Nat.le_of_ble_eq_true rfl) dX8_lay_17 ⟨Nat.zero_le _, Nat.zero_le _⟩) G (fun H locs G => ?_)
      refine lv_if_ne (tgt := 27) hx hb dX8_lay_20 (by decide) (fun c6 => ?_) (fun c6 => ?_)
      · have h := g_if h c6
        refine lv_aload_n hx hb dX8_lay_27 rfl (lv_at hl 0 rfl) ?_
        refine lv_iload_n hx hb dX8_lay_28 rfl (lv_at hl 1 rfl) ?_
        refine lv_iload_n hx hb dX8_lay_29 rfl (lv_at hl 2 rfl) ?_
        obtain ⟨v7, e_v7, h⟩ := g_bind h
        refine g_calli (g_runV (n := 2) (As := [.int a1, .int a2]) (rest := []) C G (mX8_isFree l X σ t a1 a2 v7 ok e_v7) ok.1.2 (gE_8 ok.1.1) rfl (g_goodV u_ml_RX8_177 u_im_yX8_isFree u_se_yX8_isFree u_in_RX8 u_co_yX8_isFree) rfl rfl rfl (by decide +kernel) ⟨Nat.le_of_ble_eq_true rfl, Nat.le_of_ble_eq_true rfl⟩ rfl hl.1 rfl (Nat.le_of_ble_eq_true rfl) dX8_lay_30 ⟨Nat.zero_le _, Nat.zero_le _⟩) G (fun H locs G => ?_)
        refine lv_if_eq (tgt := 49) hx hb dX8_lay_33 (by decide) (fun c8 => ?_) (fun c8 => ?_)
        · have h := g_it h c8
          refine lv_sipush (v := (-1002)) hx hb dX8_lay_49 (by decide) ?_
          exact ret dX8_lay_52 rfl G (Prod.mk.inj (Option.some.inj h))
        · have h := g_if h c8
          refine lv_aload_n hx hb dX8_lay_36 rfl (lv_at hl 0 rfl) ?_
          refine gg8_0 C G ok.1 ok.2.1.1 u_fl_RX8_10 dX8_lay_37 ?_
          refine lv_iload_n hx hb dX8_lay_40 rfl (lv_at hl 1 rfl) ?_
          refine lv_iload_n hx hb dX8_lay_41 rfl (lv_at hl 2 rfl) ?_
          refine lv_iload_n hx hb dX8_lay_42 rfl (lv_at hl 3 rfl) ?_
          obtain ⟨v9, e_v9, h⟩ := g_bind h
          refine g_calli (g_runV (n := 3) (As := [.int a1, .int a2, .int a3]) (rest := []) C G (mX0_canLie l X σ (t + 1) a1 a2 a3 v9 ok.2.2.1 e_v9) ok.2.2.1.1.2 (gE_0 ok.2.2.1.1.1) rfl (g_goodV u_ml_RX8_181 u_im_yX0_canLie u_se_yX0_canLie u_in_RX0 u_co_yX0_canLie) rfl rfl rfl (by decide +kernel) ⟨Nat.le_of_ble_eq_true rfl, Nat.le_of_ble_eq_true rfl⟩ rfl hl.1 rfl (Nat.le_of_ble_eq_true rfl) dX8_lay_43 ⟨Nat.zero_le _, Nat.zero_le _⟩) G (fun H locs G => ?_)
          refine lv_if_ne (tgt := 53) hx hb dX8_lay_46 (by decide) (fun c10 => ?_) (fun c10 => ?_)
          · have h := g_if h c10
            refine lv_aload_n hx hb dX8_lay_53 rfl (lv_at hl 0 rfl) ?_
            refine gg8_2 C G ok.1 ok.2.1.2.2.1 u_fl_RX8_22 dX8_lay_54 ?_
            refine lv_aload_n hx hb dX8_lay_57 rfl (lv_at hl 0 rfl) ?_
            refine gg8_0 C G ok.1 ok.2.1.1 u_fl_RX8_10 dX8_lay_58 ?_
            obtain ⟨σ12, e_σ12, h⟩ := g_bind h
            refine g_callv (g_runV (n := 1) (As := [.ref (xN X + (t + 1))]) (rest := []) C G (mX3_keep l X σ σ12 (t + 31) (t + 1) ok.2.2.2.2.1 ok.2.2.1 e_σ12) ok.2.2.2.2.1.1.2 (gE_3 ok.2.2.2.2.1.1.1) rfl (g_goodV u_ml_RX8_55 u_im_yX3_keep u_se_yX3_keep u_in_RX3 u_co_yX3_keep) rfl rfl rfl (by decide +kernel) ⟨Nat.le_of_ble_eq_true rfl, Nat.le_of_ble_eq_true rfl⟩ rfl hl.1 rfl (Nat.le_of_ble_eq_true rfl) dX8_lay_61 ⟨Nat.zero_le _, Nat.zero_le _⟩) G (fun H locs G => ?_)
            refine lv_aload_n hx hb dX8_lay_64 rfl (lv_at hl 0 rfl) ?_
            refine gg8_0 C G ok.1 ok.2.1.1 u_fl_RX8_10 dX8_lay_65 ?_
            refine gn0_1 C G ok.2.2.1.1 ok.2.2.1.2.1.2 (List.mem_of_getElem? (i := 3) rfl) dX8_lay_68 ?_
            refine lv_iload_n hx hb dX8_lay_71 rfl (lv_at hl 1 rfl) ?_
            refine lv_iload_n hx hb dX8_lay_72 rfl (lv_at hl 2 rfl) ?_
            refine lv_iload_n hx hb dX8_lay_73 rfl (lv_at hl 3 rfl) ?_
            obtain ⟨σ14, e_σ14, h⟩ := g_bind h
            refine g_callv (g_runV (n := 3) (As := [.int a1, .int a2, .int a3]) (rest := []) C G (mX4_put l X σ12 σ14 ((t + 1) + 8) a1 a2 a3 ok.2.2.1.2.2.2 e_σ14) ok.2.2.1.2.2.2.1.2 (gE_4 ok.2.2.1.2.2.2.1.1) rfl (g_goodV u_ml_RX8_184 u_im_yX4_put u_se_yX4_put u_in_RX4 u_co_yX4_put) rfl rfl rfl (by decide +kernel) ⟨Nat.le_of_ble_eq_true rfl, Nat.le_of_ble_eq_true rfl⟩ rfl hl.1 rfl (Nat.le_of_ble_eq_true rfl) dX8_lay_74 ⟨Nat.zero_le _, Nat.zero_le _⟩) G (fun H locs G => ?_)
            refine lv_aload_n hx hb dX8_lay_77 rfl (lv_at hl 0 rfl) ?_
            refine gg8_0 C G ok.1 ok.2.1.1 u_fl_RX8_10 dX8_lay_78 ?_
            refine lv_iload_n hx hb dX8_lay_81 rfl (lv_at hl 1 rfl) ?_
            refine lv_iload_n hx hb dX8_lay_82 rfl (lv_at hl 2 rfl) ?_
            obtain ⟨v15, e_v15, h⟩ := g_bind h
            refine g_calli (g_runV (n := 2) (As := [.int a1, .int a2]) (rest := []) C G (mX0_seamsAt l X σ14 (t + 1) a1 a2 v15 ok.2.2.1 e_v15) ok.2.2.1.1.2 (gE_0 ok.2.2.1.1.1) rfl (g_goodV u_ml_RX8_187 u_im_yX0_seamsAt u_se_yX0_seamsAt u_in_RX0 u_co_yX0_seamsAt) rfl rfl rfl (by decide +kernel) ⟨Nat.le_of_ble_eq_true rfl, Nat.le_of_ble_eq_true rfl⟩ rfl hl.1 rfl (Nat.le_of_ble_eq_true rfl) dX8_lay_83 ⟨Nat.zero_le _, Nat.zero_le _⟩) G (fun H locs G => ?_)
            exact ret dX8_lay_86 rfl G (Prod.mk.inj (Option.some.inj h))
          · have h := g_it h c10
            refine lv_sipush (v := (-1002)) hx hb dX8_lay_49 (by decide) ?_
            exact ret dX8_lay_52 rfl G (Prod.mk.inj (Option.some.inj h))
      · have h := g_it h c6
        refine lv_sipush (v := (-1001)) hx hb dX8_lay_23 (by decide) ?_
        exact ret dX8_lay_26 rfl G (Prod.mk.inj (Option.some.inj h))

def fX8_force (σ : gM) (t : Nat) (a1 : Int32) (a2 : Int32) (a3 : Int32) : Option (Int32 × gM) :=
  ((fX8_isScrap σ t a1).bind fun v1 =>
  (if v1 = 0 then
    some ((-1001), σ)
  else
    ((fX8_isPlace σ t a2).bind fun v3 =>
    (if v3 = 0 then
      some ((-1001), σ)
    else
      ((fX8_isOrientation σ a3).bind fun v5 =>
      (if v5 = 0 then
        some ((-1001), σ)
      else
        ((fX8_isFree σ t a1 a2).bind fun v7 =>
        (if v7 = 0 then
          some ((-1002), σ)
        else
          ((fX3_keep σ (t + 31) (t + 1)).bind fun σ10 =>
          ((fX4_put σ10 ((t + 1) + 8) a1 a2 a3).bind fun σ12 =>
          ((fX0_countFaults σ12 (t + 1) a1).bind fun v13 =>
          some (v13, σ12))))))))))))
set_option maxHeartbeats 4000000 in
set_option maxRecDepth 100000 in
theorem mX8_force (l : Launch) (X : gX) (σ σ' : gM) (t : Nat) (a1 : Int32) (a2 : Int32) (a3 : Int32) (r : Int32) (ok : gok8 X t) (h : fX8_force σ t a1 a2 a3 = some (r, σ')) : Met l yX8_force (Cond.code yX8_force cX8_force 4 (some .int) :: gBig) ({ frames := 5, cells := 0, slots := 0, locals := 150 }) (gPc X σ [.ref (xN X + t), .int a1, .int a2, .int a3]) (gQi X σ' r) 0 0 (xA X) := by
  refine g_meti (cc := cX8_force) (maxL := 4) (own := RX8) (by decide) rfl rfl (Nat.le_of_ble_eq_true rfl) ?_
  intro p ev s m args below meth c Q C G ret ls hl
  obtain ⟨⟨hx, hb, hml, hown, hts⟩, hK⟩ := id C
  have hl : lv_has ls 4 [(0, .ref (xN X + t)), (1, .int a1), (2, .int a2), (3, .int a3)] := hl
  unfold fX8_force at h
  refine lv_aload_n hx hb dX8_force_0 rfl (lv_at hl 0 rfl) ?_
  refine lv_iload_n hx hb dX8_force_1 rfl (lv_at hl 1 rfl) ?_
  obtain ⟨v1, e_v1, h⟩ := g_bind h
  refine g_calli (g_runV (n := 1) (As := [.int a1]) (rest := []) C G (mX8_isScrap l X σ t a1 v1 ok e_v1) ok.1.2 (gE_8 ok.1.1) rfl (g_goodV u_ml_RX8_104 u_im_yX8_isScrap u_se_yX8_isScrap u_in_RX8 u_co_yX8_isScrap) rfl rfl rfl (by decide +kernel) ⟨Nat.le_of_ble_eq_true rfl, Nat.le_of_ble_eq_true rfl⟩ rfl hl.1 rfl (Nat.le_of_ble_eq_true rfl) dX8_force_2 ⟨Nat.zero_le _, Nat.zero_le _⟩) G (fun H locs G => ?_)
  refine lv_if_eq (tgt := 23) hx hb dX8_force_5 (by decide) (fun c2 => ?_) (fun c2 => ?_)
  · have h := g_it h c2
    refine lv_sipush (v := (-1001)) hx hb dX8_force_23 (by decide) ?_
    exact ret dX8_force_26 rfl G (Prod.mk.inj (Option.some.inj h))
  · have h := g_if h c2
    refine lv_aload_n hx hb dX8_force_8 rfl (lv_at hl 0 rfl) ?_
    refine lv_iload_n hx hb dX8_force_9 rfl (lv_at hl 2 rfl) ?_
    obtain ⟨v3, e_v3, h⟩ := g_bind h
    refine g_calli (g_runV (n := 1) (As := [.int a2]) (rest := []) C G (mX8_isPlace l X σ t a2 v3 ok e_v3) ok.1.2 (gE_8 ok.1.1) rfl (g_goodV u_ml_RX8_174 u_im_yX8_isPlace u_se_yX8_isPlace u_in_RX8 u_co_yX8_isPlace) rfl rfl rfl (by decide +kernel) ⟨Nat.le_of_ble_eq_true rfl, Nat.le_of_ble_eq_true rfl⟩ rfl hl.1 rfl (Nat.le_of_ble_eq_true rfl) dX8_force_10 ⟨Nat.zero_le _, Nat.zero_le _⟩) G (fun H locs G => ?_)
    refine lv_if_eq (tgt := 23) hx hb dX8_force_13 (by decide) (fun c4 => ?_) (fun c4 => ?_)
    · have h := g_it h c4
      refine lv_sipush (v := (-1001)) hx hb dX8_force_23 (by decide) ?_
      exact ret dX8_force_26 rfl G (Prod.mk.inj (Option.some.inj h))
    · have h := g_if h c4
      refine lv_iload_n hx hb dX8_force_16 rfl (lv_at hl 3 rfl) ?_
      obtain ⟨v5, e_v5, h⟩ := g_bind h
      refine g_calli (g_runS (n := 1) (As := [.int a3]) (rest := []) C G (mX8_isOrientation l X σ a3 v5 e_v5) (g_goodS u_ml_RX8_135 u_st_yX8_isOrientation u_in_RX8 u_co_yX8_isOrientation) rfl rfl rfl (by decide +kernel) ⟨Nat.le_of_ble_eq_true rfl, Nat.le_of_ble_eq_true rfl⟩ rfl hl.1 rfl (Nat.le_of_ble_eq_true rfl) dX8_force_17 ⟨Nat.zero_le _, Nat.zero_le _⟩) G (fun H locs G => ?_)
      refine lv_if_ne (tgt := 27) hx hb dX8_force_20 (by decide) (fun c6 => ?_) (fun c6 => ?_)
      · have h := g_if h c6
        refine lv_aload_n hx hb dX8_force_27 rfl (lv_at hl 0 rfl) ?_
        refine lv_iload_n hx hb dX8_force_28 rfl (lv_at hl 1 rfl) ?_
        refine lv_iload_n hx hb dX8_force_29 rfl (lv_at hl 2 rfl) ?_
        obtain ⟨v7, e_v7, h⟩ := g_bind h
        refine g_calli (g_runV (n := 2) (As := [.int a1, .int a2]) (rest := []) C G (mX8_isFree l X σ t a1 a2 v7 ok e_v7) ok.1.2 (gE_8 ok.1.1) rfl (g_goodV u_ml_RX8_177 u_im_yX8_isFree u_se_yX8_isFree u_in_RX8 u_co_yX8_isFree) rfl rfl rfl (by decide +kernel) ⟨Nat.le_of_ble_eq_true rfl, Nat.le_of_ble_eq_true rfl⟩ rfl hl.1 rfl (Nat.le_of_ble_eq_true rfl) dX8_force_30 ⟨Nat.zero_le _, Nat.zero_le _⟩) G (fun H locs G => ?_)
        refine lv_if_ne (tgt := 40) hx hb dX8_force_33 (by decide) (fun c8 => ?_) (fun c8 => ?_)
        · have h := g_if h c8
          refine lv_aload_n hx hb dX8_force_40 rfl (lv_at hl 0 rfl) ?_
          refine gg8_2 C G ok.1 ok.2.1.2.2.1 u_fl_RX8_22 dX8_force_41 ?_
          refine lv_aload_n hx hb dX8_force_44 rfl (lv_at hl 0 rfl) ?_
          refine gg8_0 C G ok.1 ok.2.1.1 u_fl_RX8_10 dX8_force_45 ?_
          obtain ⟨σ10, e_σ10, h⟩ := g_bind h
          refine g_callv (g_runV (n := 1) (As := [.ref (xN X + (t + 1))]) (rest := []) C G (mX3_keep l X σ σ10 (t + 31) (t + 1) ok.2.2.2.2.1 ok.2.2.1 e_σ10) ok.2.2.2.2.1.1.2 (gE_3 ok.2.2.2.2.1.1.1) rfl (g_goodV u_ml_RX8_55 u_im_yX3_keep u_se_yX3_keep u_in_RX3 u_co_yX3_keep) rfl rfl rfl (by decide +kernel) ⟨Nat.le_of_ble_eq_true rfl, Nat.le_of_ble_eq_true rfl⟩ rfl hl.1 rfl (Nat.le_of_ble_eq_true rfl) dX8_force_48 ⟨Nat.zero_le _, Nat.zero_le _⟩) G (fun H locs G => ?_)
          refine lv_aload_n hx hb dX8_force_51 rfl (lv_at hl 0 rfl) ?_
          refine gg8_0 C G ok.1 ok.2.1.1 u_fl_RX8_10 dX8_force_52 ?_
          refine gn0_1 C G ok.2.2.1.1 ok.2.2.1.2.1.2 (List.mem_of_getElem? (i := 3) rfl) dX8_force_55 ?_
          refine lv_iload_n hx hb dX8_force_58 rfl (lv_at hl 1 rfl) ?_
          refine lv_iload_n hx hb dX8_force_59 rfl (lv_at hl 2 rfl) ?_
          refine lv_iload_n hx hb dX8_force_60 rfl (lv_at hl 3 rfl) ?_
          obtain ⟨σ12, e_σ12, h⟩ := g_bind h
          refine g_callv (g_runV (n := 3) (As := [.int a1, .int a2, .int a3]) (rest := []) C G (mX4_put l X σ10 σ12 ((t + 1) + 8) a1 a2 a3 ok.2.2.1.2.2.2 e_σ12) ok.2.2.1.2.2.2.1.2 (gE_4 ok.2.2.1.2.2.2.1.1) rfl (g_goodV u_ml_RX8_184 u_im_yX4_put u_se_yX4_put u_in_RX4 u_co_yX4_put) rfl rfl rfl (by decide +kernel) ⟨Nat.le_of_ble_eq_true rfl, Nat.le_of_ble_eq_true rfl⟩ rfl hl.1 rfl (Nat.le_of_ble_eq_true rfl) dX8_force_61 ⟨Nat.zero_le _, Nat.zero_le _⟩) G (fun H locs G => ?_)
          refine lv_aload_n hx hb dX8_force_64 rfl (lv_at hl 0 rfl) ?_
          refine gg8_0 C G ok.1 ok.2.1.1 u_fl_RX8_10 dX8_force_65 ?_
          refine lv_iload_n hx hb dX8_force_68 rfl (lv_at hl 1 rfl) ?_
          obtain ⟨v13, e_v13, h⟩ := g_bind h
          refine g_calli (g_runV (n := 1) (As := [.int a1]) (rest := []) C G (mX0_countFaults l X σ12 (t + 1) a1 v13 ok.2.2.1 e_v13) ok.2.2.1.1.2 (gE_0 ok.2.2.1.1.1) rfl (g_goodV u_ml_RX8_132 u_im_yX0_countFaults u_se_yX0_countFaults u_in_RX0 u_co_yX0_countFaults) rfl rfl rfl (by decide +kernel) ⟨Nat.le_of_ble_eq_true rfl, Nat.le_of_ble_eq_true rfl⟩ rfl hl.1 rfl (Nat.le_of_ble_eq_true rfl) dX8_force_69 ⟨Nat.zero_le _, Nat.zero_le _⟩) G (fun H locs G => ?_)
          exact ret dX8_force_72 rfl G (Prod.mk.inj (Option.some.inj h))
        · have h := g_it h c8
          refine lv_sipush (v := (-1002)) hx hb dX8_force_36 (by decide) ?_
          exact ret dX8_force_39 rfl G (Prod.mk.inj (Option.some.inj h))
      · have h := g_it h c6
        refine lv_sipush (v := (-1001)) hx hb dX8_force_23 (by decide) ?_
        exact ret dX8_force_26 rfl G (Prod.mk.inj (Option.some.inj h))

def fX4_take (σ : gM) (t : Nat) (a1 : Int32) : Option (gM) :=
  ((fX5_get σ (t + 1) a1).bind fun v1 =>
  ((fX5_set σ (t + 5) v1 (-1)).bind fun σ3 =>
  ((fX5_set σ3 (t + 1) a1 (-1)).bind fun σ5 =>
  ((fX5_set σ5 (t + 3) a1 0).bind fun σ7 =>
  some σ7))))
set_option maxHeartbeats 4000000 in
set_option maxRecDepth 100000 in
theorem mX4_take (l : Launch) (X : gX) (σ σ' : gM) (t : Nat) (a1 : Int32) (ok : gok4 X t) (h : fX4_take σ t a1 = some σ') : Met l yX4_take (Cond.code yX4_take cX4_take 2 none :: gBig) ({ frames := 1, cells := 0, slots := 0, locals := 22 }) (gPc X σ [.ref (xN X + t), .int a1]) (gQv X σ') 0 0 (xA X) := by
  refine g_metv (cc := cX4_take) (maxL := 2) (own := RX4) (by decide) rfl rfl (Nat.le_of_ble_eq_true rfl) ?_
  intro p ev s m args below meth c Q C G ret ls hl
  obtain ⟨⟨hx, hb, hml, hown, hts⟩, hK⟩ := id C
  have hl : lv_has ls 2 [(0, .ref (xN X + t)), (1, .int a1)] := hl
  unfold fX4_take at h
  refine lv_aload_n hx hb dX4_take_0 rfl (lv_at hl 0 rfl) ?_
  refine gg4_2 C G ok.1 ok.2.1.2.2 u_fl_RX4_23 dX4_take_1 ?_
  refine lv_aload_n hx hb dX4_take_4 rfl (lv_at hl 0 rfl) ?_
  refine gg4_0 C G ok.1 ok.2.1.1 u_fl_RX4_14 dX4_take_5 ?_
  refine lv_iload_n hx hb dX4_take_8 rfl (lv_at hl 1 rfl) ?_
  obtain ⟨v1, e_v1, h⟩ := g_bind h
  refine g_calli (g_runV (n := 1) (As := [.int a1]) (rest := [.ref (xN X + (t + 5))]) C G (mX5_get l X σ (t + 1) a1 v1 ok.2.2.1 e_v1) ok.2.2.1.1.2 (gE_5 ok.2.2.1.1.1) rfl (g_goodV u_ml_RX4_37 u_im_yX5_get u_se_yX5_get u_in_RX5 u_co_yX5_get) rfl rfl rfl (by decide +kernel) ⟨Nat.le_of_ble_eq_true rfl, Nat.le_of_ble_eq_true rfl⟩ rfl hl.1 rfl (Nat.le_of_ble_eq_true rfl) dX4_take_9 ⟨Nat.zero_le _, Nat.zero_le _⟩) G (fun H locs G => ?_)
  refine lv_iconst (v := (-1)) hx hb dX4_take_12 (by decide) ?_
  obtain ⟨σ3, e_σ3, h⟩ := g_bind h
  refine g_callv (g_runV (n := 2) (As := [.int v1, .int (-1)]) (rest := []) C G (mX5_set l X σ σ3 (t + 5) v1 (-1) ok.2.2.2.2 e_σ3) ok.2.2.2.2.1.2 (gE_5 ok.2.2.2.2.1.1) rfl (g_goodV u_ml_RX4_44 u_im_yX5_set u_se_yX5_set u_in_RX5 u_co_yX5_set) rfl rfl rfl (by decide +kernel) ⟨Nat.le_of_ble_eq_true rfl, Nat.le_of_ble_eq_true rfl⟩ rfl hl.1 rfl (Nat.le_of_ble_eq_true rfl) dX4_take_13 ⟨Nat.zero_le _, Nat.zero_le _⟩) G (fun H locs G => ?_)
  refine lv_aload_n hx hb dX4_take_16 rfl (lv_at hl 0 rfl) ?_
  refine gg4_0 C G ok.1 ok.2.1.1 u_fl_RX4_14 dX4_take_17 ?_
  refine lv_iload_n hx hb dX4_take_20 rfl (lv_at hl 1 rfl) ?_
  refine lv_iconst (v := (-1)) hx hb dX4_take_21 (by decide) ?_
  obtain ⟨σ5, e_σ5, h⟩ := g_bind h
  refine g_callv (g_runV (n := 2) (As := [.int a1, .int (-1)]) (rest := []) C G (mX5_set l X σ3 σ5 (t + 1) a1 (-1) ok.2.2.1 e_σ5) ok.2.2.1.1.2 (gE_5 ok.2.2.1.1.1) rfl (g_goodV u_ml_RX4_44 u_im_yX5_set u_se_yX5_set u_in_RX5 u_co_yX5_set) rfl rfl rfl (by decide +kernel) ⟨Nat.le_of_ble_eq_true rfl, Nat.le_of_ble_eq_true rfl⟩ rfl hl.1 rfl (Nat.le_of_ble_eq_true rfl) dX4_take_22 ⟨Nat.zero_le _, Nat.zero_le _⟩) G (fun H locs G => ?_)
  refine lv_aload_n hx hb dX4_take_25 rfl (lv_at hl 0 rfl) ?_
  refine gg4_1 C G ok.1 ok.2.1.2.1 u_fl_RX4_20 dX4_take_26 ?_
  refine lv_iload_n hx hb dX4_take_29 rfl (lv_at hl 1 rfl) ?_
  refine lv_iconst (v := 0) hx hb dX4_take_30 (by decide) ?_
  obtain ⟨σ7, e_σ7, h⟩ := g_bind h
  refine g_callv (g_runV (n := 2) (As := [.int a1, .int 0]) (rest := []) C G (mX5_set l X σ5 σ7 (t + 3) a1 0 ok.2.2.2.1 e_σ7) ok.2.2.2.1.1.2 (gE_5 ok.2.2.2.1.1.1) rfl (g_goodV u_ml_RX4_44 u_im_yX5_set u_se_yX5_set u_in_RX5 u_co_yX5_set) rfl rfl rfl (by decide +kernel) ⟨Nat.le_of_ble_eq_true rfl, Nat.le_of_ble_eq_true rfl⟩ rfl hl.1 rfl (Nat.le_of_ble_eq_true rfl) dX4_take_31 ⟨Nat.zero_le _, Nat.zero_le _⟩) G (fun H locs G => ?_)
  exact ret dX4_take_34 G (Option.some.inj h)

def fX8_lift (σ : gM) (t : Nat) (a1 : Int32) : Option (Int32 × gM) :=
  ((fX8_isScrap σ t a1).bind fun v1 =>
  (if v1 = 0 then
    some ((-1001), σ)
  else
    ((fX4_lies σ ((t + 1) + 8) a1).bind fun v3 =>
    (if v3 = 0 then
      some ((-1002), σ)
    else
      ((fX3_keep σ (t + 31) (t + 1)).bind fun σ6 =>
      ((fX4_placeOf σ6 ((t + 1) + 8) a1).bind fun v7 =>
      ((fX4_take σ6 ((t + 1) + 8) a1).bind fun σ9 =>
      some (v7, σ9))))))))
set_option maxHeartbeats 4000000 in
set_option maxRecDepth 100000 in
theorem mX8_lift (l : Launch) (X : gX) (σ σ' : gM) (t : Nat) (a1 : Int32) (r : Int32) (ok : gok8 X t) (h : fX8_lift σ t a1 = some (r, σ')) : Met l yX8_lift (Cond.code yX8_lift cX8_lift 3 (some .int) :: gBig) ({ frames := 5, cells := 0, slots := 0, locals := 150 }) (gPc X σ [.ref (xN X + t), .int a1]) (gQi X σ' r) 0 0 (xA X) := by
  refine g_meti (cc := cX8_lift) (maxL := 3) (own := RX8) (by decide) rfl rfl (Nat.le_of_ble_eq_true rfl) ?_
  intro p ev s m args below meth c Q C G ret ls hl
  obtain ⟨⟨hx, hb, hml, hown, hts⟩, hK⟩ := id C
  have hl : lv_has ls 3 [(0, .ref (xN X + t)), (1, .int a1)] := hl
  unfold fX8_lift at h
  refine lv_aload_n hx hb dX8_lift_0 rfl (lv_at hl 0 rfl) ?_
  refine lv_iload_n hx hb dX8_lift_1 rfl (lv_at hl 1 rfl) ?_
  obtain ⟨v1, e_v1, h⟩ := g_bind h
  refine g_calli (g_runV (n := 1) (As := [.int a1]) (rest := []) C G (mX8_isScrap l X σ t a1 v1 ok e_v1) ok.1.2 (gE_8 ok.1.1) rfl (g_goodV u_ml_RX8_104 u_im_yX8_isScrap u_se_yX8_isScrap u_in_RX8 u_co_yX8_isScrap) rfl rfl rfl (by decide +kernel) ⟨Nat.le_of_ble_eq_true rfl, Nat.le_of_ble_eq_true rfl⟩ rfl hl.1 rfl (Nat.le_of_ble_eq_true rfl) dX8_lift_2 ⟨Nat.zero_le _, Nat.zero_le _⟩) G (fun H locs G => ?_)
  refine lv_if_ne (tgt := 12) hx hb dX8_lift_5 (by decide) (fun c2 => ?_) (fun c2 => ?_)
  · have h := g_if h c2
    refine lv_aload_n hx hb dX8_lift_12 rfl (lv_at hl 0 rfl) ?_
    refine gg8_0 C G ok.1 ok.2.1.1 u_fl_RX8_10 dX8_lift_13 ?_
    refine gn0_1 C G ok.2.2.1.1 ok.2.2.1.2.1.2 (List.mem_of_getElem? (i := 3) rfl) dX8_lift_16 ?_
    refine lv_iload_n hx hb dX8_lift_19 rfl (lv_at hl 1 rfl) ?_
    obtain ⟨v3, e_v3, h⟩ := g_bind h
    refine g_calli (g_runV (n := 1) (As := [.int a1]) (rest := []) C G (mX4_lies l X σ ((t + 1) + 8) a1 v3 ok.2.2.1.2.2.2 e_v3) ok.2.2.1.2.2.2.1.2 (gE_4 ok.2.2.1.2.2.2.1.1) rfl (g_goodV u_ml_RX8_110 u_im_yX4_lies u_se_yX4_lies u_in_RX4 u_co_yX4_lies) rfl rfl rfl (by decide +kernel) ⟨Nat.le_of_ble_eq_true rfl, Nat.le_of_ble_eq_true rfl⟩ rfl hl.1 rfl (Nat.le_of_ble_eq_true rfl) dX8_lift_20 ⟨Nat.zero_le _, Nat.zero_le _⟩) G (fun H locs G => ?_)
    refine lv_if_ne (tgt := 30) hx hb dX8_lift_23 (by decide) (fun c4 => ?_) (fun c4 => ?_)
    · have h := g_if h c4
      refine lv_aload_n hx hb dX8_lift_30 rfl (lv_at hl 0 rfl) ?_
      refine gg8_2 C G ok.1 ok.2.1.2.2.1 u_fl_RX8_22 dX8_lift_31 ?_
      refine lv_aload_n hx hb dX8_lift_34 rfl (lv_at hl 0 rfl) ?_
      refine gg8_0 C G ok.1 ok.2.1.1 u_fl_RX8_10 dX8_lift_35 ?_
      obtain ⟨σ6, e_σ6, h⟩ := g_bind h
      refine g_callv (g_runV (n := 1) (As := [.ref (xN X + (t + 1))]) (rest := []) C G (mX3_keep l X σ σ6 (t + 31) (t + 1) ok.2.2.2.2.1 ok.2.2.1 e_σ6) ok.2.2.2.2.1.1.2 (gE_3 ok.2.2.2.2.1.1.1) rfl (g_goodV u_ml_RX8_55 u_im_yX3_keep u_se_yX3_keep u_in_RX3 u_co_yX3_keep) rfl rfl rfl (by decide +kernel) ⟨Nat.le_of_ble_eq_true rfl, Nat.le_of_ble_eq_true rfl⟩ rfl hl.1 rfl (Nat.le_of_ble_eq_true rfl) dX8_lift_38 ⟨Nat.zero_le _, Nat.zero_le _⟩) G (fun H locs G => ?_)
      refine lv_aload_n hx hb dX8_lift_41 rfl (lv_at hl 0 rfl) ?_
      refine gg8_0 C G ok.1 ok.2.1.1 u_fl_RX8_10 dX8_lift_42 ?_
      refine gn0_1 C G ok.2.2.1.1 ok.2.2.1.2.1.2 (List.mem_of_getElem? (i := 3) rfl) dX8_lift_45 ?_
      refine lv_iload_n hx hb dX8_lift_48 rfl (lv_at hl 1 rfl) ?_
      obtain ⟨v7, e_v7, h⟩ := g_bind h
      refine g_calli (g_runV (n := 1) (As := [.int a1]) (rest := []) C G (mX4_placeOf l X σ6 ((t + 1) + 8) a1 v7 ok.2.2.1.2.2.2 e_v7) ok.2.2.1.2.2.2.1.2 (gE_4 ok.2.2.1.2.2.2.1.1) rfl (g_goodV u_ml_RX8_120 u_im_yX4_placeOf u_se_yX4_placeOf u_in_RX4 u_co_yX4_placeOf) rfl rfl rfl (by decide +kernel) ⟨Nat.le_of_ble_eq_true rfl, Nat.le_of_ble_eq_true rfl⟩ rfl hl.1 rfl (Nat.le_of_ble_eq_true rfl) dX8_lift_49 ⟨Nat.zero_le _, Nat.zero_le _⟩) G (fun H locs G => ?_)
      refine lv_istore_n (lv' := [(2, .int v7), (0, .ref (xN X + t)), (1, .int a1)]) hx hb dX8_lift_52 rfl hl (by decide) rfl (fun ls hl => ?_)
      refine lv_aload_n hx hb dX8_lift_53 rfl (lv_at hl 1 rfl) ?_
      refine gg8_0 C G ok.1 ok.2.1.1 u_fl_RX8_10 dX8_lift_54 ?_
      refine gn0_1 C G ok.2.2.1.1 ok.2.2.1.2.1.2 (List.mem_of_getElem? (i := 3) rfl) dX8_lift_57 ?_
      refine lv_iload_n hx hb dX8_lift_60 rfl (lv_at hl 2 rfl) ?_
      obtain ⟨σ9, e_σ9, h⟩ := g_bind h
      refine g_callv (g_runV (n := 1) (As := [.int a1]) (rest := []) C G (mX4_take l X σ6 σ9 ((t + 1) + 8) a1 ok.2.2.1.2.2.2 e_σ9) ok.2.2.1.2.2.2.1.2 (gE_4 ok.2.2.1.2.2.2.1.1) rfl (g_goodV u_ml_RX8_191 u_im_yX4_take u_se_yX4_take u_in_RX4 u_co_yX4_take) rfl rfl rfl (by decide +kernel) ⟨Nat.le_of_ble_eq_true rfl, Nat.le_of_ble_eq_true rfl⟩ rfl hl.1 rfl (Nat.le_of_ble_eq_true rfl) dX8_lift_61 ⟨Nat.zero_le _, Nat.zero_le _⟩) G (fun H locs G => ?_)
      refine lv_iload_n hx hb dX8_lift_64 rfl (lv_at hl 0 rfl) ?_
      exact ret dX8_lift_65 rfl G (Prod.mk.inj (Option.some.inj h))
    · have h := g_it h c4
      refine lv_sipush (v := (-1002)) hx hb dX8_lift_26 (by decide) ?_
      exact ret dX8_lift_29 rfl G (Prod.mk.inj (Option.some.inj h))
  · have h := g_it h c2
    refine lv_sipush (v := (-1001)) hx hb dX8_lift_8 (by decide) ?_
    exact ret dX8_lift_11 rfl G (Prod.mk.inj (Option.some.inj h))

def fX8_turn (σ : gM) (t : Nat) (a1 : Int32) (a2 : Int32) : Option (Int32 × gM) :=
  ((fX8_isScrap σ t a1).bind fun v1 =>
  (if v1 = 0 then
    some ((-1001), σ)
  else
    ((fX8_isOrientation σ a2).bind fun v3 =>
    (if v3 = 0 then
      some ((-1001), σ)
    else
      ((fX4_lies σ ((t + 1) + 8) a1).bind fun v5 =>
      (if v5 = 0 then
        some ((-1002), σ)
      else
        ((fX3_keep σ (t + 31) (t + 1)).bind fun σ8 =>
        ((fX4_placeOf σ8 ((t + 1) + 8) a1).bind fun v9 =>
        ((fX4_put σ8 ((t + 1) + 8) a1 v9 a2).bind fun σ11 =>
        ((fX0_countFaults σ11 (t + 1) a1).bind fun v12 =>
        some (v12, σ11)))))))))))
set_option maxHeartbeats 4000000 in
set_option maxRecDepth 100000 in
theorem mX8_turn (l : Launch) (X : gX) (σ σ' : gM) (t : Nat) (a1 : Int32) (a2 : Int32) (r : Int32) (ok : gok8 X t) (h : fX8_turn σ t a1 a2 = some (r, σ')) : Met l yX8_turn (Cond.code yX8_turn cX8_turn 3 (some .int) :: gBig) ({ frames := 5, cells := 0, slots := 0, locals := 150 }) (gPc X σ [.ref (xN X + t), .int a1, .int a2]) (gQi X σ' r) 0 0 (xA X) := by
  refine g_meti (cc := cX8_turn) (maxL := 3) (own := RX8) (by decide) rfl rfl (Nat.le_of_ble_eq_true rfl) ?_
  intro p ev s m args below meth c Q C G ret ls hl
  obtain ⟨⟨hx, hb, hml, hown, hts⟩, hK⟩ := id C
  have hl : lv_has ls 3 [(0, .ref (xN X + t)), (1, .int a1), (2, .int a2)] := hl
  unfold fX8_turn at h
  refine lv_aload_n hx hb dX8_turn_0 rfl (lv_at hl 0 rfl) ?_
  refine lv_iload_n hx hb dX8_turn_1 rfl (lv_at hl 1 rfl) ?_
  obtain ⟨v1, e_v1, h⟩ := g_bind h
  refine g_calli (g_runV (n := 1) (As := [.int a1]) (rest := []) C G (mX8_isScrap l X σ t a1 v1 ok e_v1) ok.1.2 (gE_8 ok.1.1) rfl (g_goodV u_ml_RX8_104 u_im_yX8_isScrap u_se_yX8_isScrap u_in_RX8 u_co_yX8_isScrap) rfl rfl rfl (by decide +kernel) ⟨Nat.le_of_ble_eq_true rfl, Nat.le_of_ble_eq_true rfl⟩ rfl hl.1 rfl (Nat.le_of_ble_eq_true rfl) dX8_turn_2 ⟨Nat.zero_le _, Nat.zero_le _⟩) G (fun H locs G => ?_)
  refine lv_if_eq (tgt := 15) hx hb dX8_turn_5 (by decide) (fun c2 => ?_) (fun c2 => ?_)
  · have h := g_it h c2
    refine lv_sipush (v := (-1001)) hx hb dX8_turn_15 (by decide) ?_
    exact ret dX8_turn_18 rfl G (Prod.mk.inj (Option.some.inj h))
  · have h := g_if h c2
    refine lv_iload_n hx hb dX8_turn_8 rfl (lv_at hl 2 rfl) ?_
    obtain ⟨v3, e_v3, h⟩ := g_bind h
    refine g_calli (g_runS (n := 1) (As := [.int a2]) (rest := []) C G (mX8_isOrientation l X σ a2 v3 e_v3) (g_goodS u_ml_RX8_135 u_st_yX8_isOrientation u_in_RX8 u_co_yX8_isOrientation) rfl rfl rfl (by decide +kernel) ⟨Nat.le_of_ble_eq_true rfl, Nat.le_of_ble_eq_true rfl⟩ rfl hl.1 rfl (Nat.le_of_ble_eq_true rfl) dX8_turn_9 ⟨Nat.zero_le _, Nat.zero_le _⟩) G (fun H locs G => ?_)
    refine lv_if_ne (tgt := 19) hx hb dX8_turn_12 (by decide) (fun c4 => ?_) (fun c4 => ?_)
    · have h := g_if h c4
      refine lv_aload_n hx hb dX8_turn_19 rfl (lv_at hl 0 rfl) ?_
      refine gg8_0 C G ok.1 ok.2.1.1 u_fl_RX8_10 dX8_turn_20 ?_
      refine gn0_1 C G ok.2.2.1.1 ok.2.2.1.2.1.2 (List.mem_of_getElem? (i := 3) rfl) dX8_turn_23 ?_
      refine lv_iload_n hx hb dX8_turn_26 rfl (lv_at hl 1 rfl) ?_
      obtain ⟨v5, e_v5, h⟩ := g_bind h
      refine g_calli (g_runV (n := 1) (As := [.int a1]) (rest := []) C G (mX4_lies l X σ ((t + 1) + 8) a1 v5 ok.2.2.1.2.2.2 e_v5) ok.2.2.1.2.2.2.1.2 (gE_4 ok.2.2.1.2.2.2.1.1) rfl (g_goodV u_ml_RX8_110 u_im_yX4_lies u_se_yX4_lies u_in_RX4 u_co_yX4_lies) rfl rfl rfl (by decide +kernel) ⟨Nat.le_of_ble_eq_true rfl, Nat.le_of_ble_eq_true rfl⟩ rfl hl.1 rfl (Nat.le_of_ble_eq_true rfl) dX8_turn_27 ⟨Nat.zero_le _, Nat.zero_le _⟩) G (fun H locs G => ?_)
      refine lv_if_ne (tgt := 37) hx hb dX8_turn_30 (by decide) (fun c6 => ?_) (fun c6 => ?_)
      · have h := g_if h c6
        refine lv_aload_n hx hb dX8_turn_37 rfl (lv_at hl 0 rfl) ?_
        refine gg8_2 C G ok.1 ok.2.1.2.2.1 u_fl_RX8_22 dX8_turn_38 ?_
        refine lv_aload_n hx hb dX8_turn_41 rfl (lv_at hl 0 rfl) ?_
        refine gg8_0 C G ok.1 ok.2.1.1 u_fl_RX8_10 dX8_turn_42 ?_
        obtain ⟨σ8, e_σ8, h⟩ := g_bind h
        refine g_callv (g_runV (n := 1) (As := [.ref (xN X + (t + 1))]) (rest := []) C G (mX3_keep l X σ σ8 (t + 31) (t + 1) ok.2.2.2.2.1 ok.2.2.1 e_σ8) ok.2.2.2.2.1.1.2 (gE_3 ok.2.2.2.2.1.1.1) rfl (g_goodV u_ml_RX8_55 u_im_yX3_keep u_se_yX3_keep u_in_RX3 u_co_yX3_keep) rfl rfl rfl (by decide +kernel) ⟨Nat.le_of_ble_eq_true rfl, Nat.le_of_ble_eq_true rfl⟩ rfl hl.1 rfl (Nat.le_of_ble_eq_true rfl) dX8_turn_45 ⟨Nat.zero_le _, Nat.zero_le _⟩) G (fun H locs G => ?_)
        refine lv_aload_n hx hb dX8_turn_48 rfl (lv_at hl 0 rfl) ?_
        refine gg8_0 C G ok.1 ok.2.1.1 u_fl_RX8_10 dX8_turn_49 ?_
        refine gn0_1 C G ok.2.2.1.1 ok.2.2.1.2.1.2 (List.mem_of_getElem? (i := 3) rfl) dX8_turn_52 ?_
        refine lv_iload_n hx hb dX8_turn_55 rfl (lv_at hl 1 rfl) ?_
        refine lv_aload_n hx hb dX8_turn_56 rfl (lv_at hl 0 rfl) ?_
        refine gg8_0 C G ok.1 ok.2.1.1 u_fl_RX8_10 dX8_turn_57 ?_
        refine gn0_1 C G ok.2.2.1.1 ok.2.2.1.2.1.2 (List.mem_of_getElem? (i := 3) rfl) dX8_turn_60 ?_
        refine lv_iload_n hx hb dX8_turn_63 rfl (lv_at hl 1 rfl) ?_
        obtain ⟨v9, e_v9, h⟩ := g_bind h
        refine g_calli (g_runV (n := 1) (As := [.int a1]) (rest := [.int a1, .ref (xN X + ((t + 1) + 8))]) C G (mX4_placeOf l X σ8 ((t + 1) + 8) a1 v9 ok.2.2.1.2.2.2 e_v9) ok.2.2.1.2.2.2.1.2 (gE_4 ok.2.2.1.2.2.2.1.1) rfl (g_goodV u_ml_RX8_120 u_im_yX4_placeOf u_se_yX4_placeOf u_in_RX4 u_co_yX4_placeOf) rfl rfl rfl (by decide +kernel) ⟨Nat.le_of_ble_eq_true rfl, Nat.le_of_ble_eq_true rfl⟩ rfl hl.1 rfl (Nat.le_of_ble_eq_true rfl) dX8_turn_64 ⟨Nat.zero_le _, Nat.zero_le _⟩) G (fun H locs G => ?_)
        refine lv_iload_n hx hb dX8_turn_67 rfl (lv_at hl 2 rfl) ?_
        obtain ⟨σ11, e_σ11, h⟩ := g_bind h
        refine g_callv (g_runV (n := 3) (As := [.int a1, .int v9, .int a2]) (rest := []) C G (mX4_put l X σ8 σ11 ((t + 1) + 8) a1 v9 a2 ok.2.2.1.2.2.2 e_σ11) ok.2.2.1.2.2.2.1.2 (gE_4 ok.2.2.1.2.2.2.1.1) rfl (g_goodV u_ml_RX8_184 u_im_yX4_put u_se_yX4_put u_in_RX4 u_co_yX4_put) rfl rfl rfl (by decide +kernel) ⟨Nat.le_of_ble_eq_true rfl, Nat.le_of_ble_eq_true rfl⟩ rfl hl.1 rfl (Nat.le_of_ble_eq_true rfl) dX8_turn_68 ⟨Nat.zero_le _, Nat.zero_le _⟩) G (fun H locs G => ?_)
        refine lv_aload_n hx hb dX8_turn_71 rfl (lv_at hl 0 rfl) ?_
        refine gg8_0 C G ok.1 ok.2.1.1 u_fl_RX8_10 dX8_turn_72 ?_
        refine lv_iload_n hx hb dX8_turn_75 rfl (lv_at hl 1 rfl) ?_
        obtain ⟨v12, e_v12, h⟩ := g_bind h
        refine g_calli (g_runV (n := 1) (As := [.int a1]) (rest := []) C G (mX0_countFaults l X σ11 (t + 1) a1 v12 ok.2.2.1 e_v12) ok.2.2.1.1.2 (gE_0 ok.2.2.1.1.1) rfl (g_goodV u_ml_RX8_132 u_im_yX0_countFaults u_se_yX0_countFaults u_in_RX0 u_co_yX0_countFaults) rfl rfl rfl (by decide +kernel) ⟨Nat.le_of_ble_eq_true rfl, Nat.le_of_ble_eq_true rfl⟩ rfl hl.1 rfl (Nat.le_of_ble_eq_true rfl) dX8_turn_76 ⟨Nat.zero_le _, Nat.zero_le _⟩) G (fun H locs G => ?_)
        exact ret dX8_turn_79 rfl G (Prod.mk.inj (Option.some.inj h))
      · have h := g_it h c6
        refine lv_sipush (v := (-1002)) hx hb dX8_turn_33 (by decide) ?_
        exact ret dX8_turn_36 rfl G (Prod.mk.inj (Option.some.inj h))
    · have h := g_it h c4
      refine lv_sipush (v := (-1001)) hx hb dX8_turn_15 (by decide) ?_
      exact ret dX8_turn_18 rfl G (Prod.mk.inj (Option.some.inj h))

def fX8_at (σ : gM) (t : Nat) (a1 : Int32) : Option (Int32) :=
  ((fX8_isPlace σ t a1).bind fun v1 =>
  (if v1 = 0 then
    some (-1001)
  else
    ((fX4_scrapAt σ ((t + 1) + 8) a1).bind fun v3 =>
    (if v3 = (-1) then
      some (-1004)
    else
      some v3))))
set_option maxHeartbeats 4000000 in
set_option maxRecDepth 100000 in
theorem mX8_at (l : Launch) (X : gX) (σ : gM) (t : Nat) (a1 : Int32) (r : Int32) (ok : gok8 X t) (h : fX8_at σ t a1 = some r) : Met l yX8_at (Cond.code yX8_at cX8_at 3 (some .int) :: gBig) ({ frames := 2, cells := 0, slots := 0, locals := 43 }) (gPc X σ [.ref (xN X + t), .int a1]) (gQi X σ r) 0 0 (xA X) := by
  refine g_meti (cc := cX8_at) (maxL := 3) (own := RX8) (by decide) rfl rfl (Nat.le_of_ble_eq_true rfl) ?_
  intro p ev s m args below meth c Q C G ret ls hl
  obtain ⟨⟨hx, hb, hml, hown, hts⟩, hK⟩ := id C
  have hl : lv_has ls 3 [(0, .ref (xN X + t)), (1, .int a1)] := hl
  unfold fX8_at at h
  refine lv_aload_n hx hb dX8_at_0 rfl (lv_at hl 0 rfl) ?_
  refine lv_iload_n hx hb dX8_at_1 rfl (lv_at hl 1 rfl) ?_
  obtain ⟨v1, e_v1, h⟩ := g_bind h
  refine g_calli (g_runV (n := 1) (As := [.int a1]) (rest := []) C G (mX8_isPlace l X σ t a1 v1 ok e_v1) ok.1.2 (gE_8 ok.1.1) rfl (g_goodV u_ml_RX8_174 u_im_yX8_isPlace u_se_yX8_isPlace u_in_RX8 u_co_yX8_isPlace) rfl rfl rfl (by decide +kernel) ⟨Nat.le_of_ble_eq_true rfl, Nat.le_of_ble_eq_true rfl⟩ rfl hl.1 rfl (Nat.le_of_ble_eq_true rfl) dX8_at_2 ⟨Nat.zero_le _, Nat.zero_le _⟩) G (fun H locs G => ?_)
  refine lv_if_ne (tgt := 12) hx hb dX8_at_5 (by decide) (fun c2 => ?_) (fun c2 => ?_)
  · have h := g_if h c2
    refine lv_aload_n hx hb dX8_at_12 rfl (lv_at hl 0 rfl) ?_
    refine gg8_0 C G ok.1 ok.2.1.1 u_fl_RX8_10 dX8_at_13 ?_
    refine gn0_1 C G ok.2.2.1.1 ok.2.2.1.2.1.2 (List.mem_of_getElem? (i := 3) rfl) dX8_at_16 ?_
    refine lv_iload_n hx hb dX8_at_19 rfl (lv_at hl 1 rfl) ?_
    obtain ⟨v3, e_v3, h⟩ := g_bind h
    refine g_calli (g_runV (n := 1) (As := [.int a1]) (rest := []) C G (mX4_scrapAt l X σ ((t + 1) + 8) a1 v3 ok.2.2.1.2.2.2 e_v3) ok.2.2.1.2.2.2.1.2 (gE_4 ok.2.2.1.2.2.2.1.1) rfl (g_goodV u_ml_RX8_194 u_im_yX4_scrapAt u_se_yX4_scrapAt u_in_RX4 u_co_yX4_scrapAt) rfl rfl rfl (by decide +kernel) ⟨Nat.le_of_ble_eq_true rfl, Nat.le_of_ble_eq_true rfl⟩ rfl hl.1 rfl (Nat.le_of_ble_eq_true rfl) dX8_at_20 ⟨Nat.zero_le _, Nat.zero_le _⟩) G (fun H locs G => ?_)
    refine lv_istore_n (lv' := [(2, .int v3), (0, .ref (xN X + t)), (1, .int a1)]) hx hb dX8_at_23 rfl hl (by decide) rfl (fun ls hl => ?_)
    refine lv_iload_n hx hb dX8_at_24 rfl (lv_at hl 0 rfl) ?_
    refine lv_iconst (v := (-1)) hx hb dX8_at_25 (by decide) ?_
    refine lv_icmp_ne (tgt := 35) hx hb dX8_at_26 (by decide) (fun c4 => ?_) (fun c4 => ?_)
    · have h := g_if h c4
      refine lv_iload_n hx hb dX8_at_35 rfl (lv_at hl 0 rfl) ?_
      exact ret dX8_at_36 rfl G ⟨Option.some.inj h, rfl⟩
    · have h := g_it h c4
      refine lv_sipush (v := (-1004)) hx hb dX8_at_29 (by decide) ?_
      refine lv_goto (tgt := 36) hx hb dX8_at_32 (by decide) ?_
      exact ret dX8_at_36 rfl G ⟨Option.some.inj h, rfl⟩
  · have h := g_it h c2
    refine lv_sipush (v := (-1001)) hx hb dX8_at_8 (by decide) ?_
    exact ret dX8_at_11 rfl G ⟨Option.some.inj h, rfl⟩

def fX8_reason (σ : gM) (t : Nat) (a1 : Int32) (a2 : Int32) : Option (Int32) :=
  ((fX8_isPlace σ t a1).bind fun v1 =>
  (if v1 = 0 then
    some (-1001)
  else
    ((fX8_isEdge σ a2).bind fun v3 =>
    (if v3 = 0 then
      some (-1001)
    else
      ((fX4_scrapAt σ ((t + 1) + 8) a1).bind fun v5 =>
      (if v5 = (-1) then
        some (-1004)
      else
        ((fX4_orientationOf σ ((t + 1) + 8) v5).bind fun v7 =>
        ((fX0_verdict σ (t + 1) v5 a1 v7 a2).bind fun v8 =>
        (if v8 = (-1) then
          some (-1004)
        else
          some v8)))))))))
set_option maxHeartbeats 4000000 in
set_option maxRecDepth 100000 in
theorem mX8_reason (l : Launch) (X : gX) (σ : gM) (t : Nat) (a1 : Int32) (a2 : Int32) (r : Int32) (ok : gok8 X t) (h : fX8_reason σ t a1 a2 = some r) : Met l yX8_reason (Cond.code yX8_reason cX8_reason 5 (some .int) :: gBig) ({ frames := 3, cells := 0, slots := 0, locals := 75 }) (gPc X σ [.ref (xN X + t), .int a1, .int a2]) (gQi X σ r) 0 0 (xA X) := by
  refine g_meti (cc := cX8_reason) (maxL := 5) (own := RX8) (by decide) rfl rfl (Nat.le_of_ble_eq_true rfl) ?_
  intro p ev s m args below meth c Q C G ret ls hl
  obtain ⟨⟨hx, hb, hml, hown, hts⟩, hK⟩ := id C
  have hl : lv_has ls 5 [(0, .ref (xN X + t)), (1, .int a1), (2, .int a2)] := hl
  unfold fX8_reason at h
  refine lv_aload_n hx hb dX8_reason_0 rfl (lv_at hl 0 rfl) ?_
  refine lv_iload_n hx hb dX8_reason_1 rfl (lv_at hl 1 rfl) ?_
  obtain ⟨v1, e_v1, h⟩ := g_bind h
  refine g_calli (g_runV (n := 1) (As := [.int a1]) (rest := []) C G (mX8_isPlace l X σ t a1 v1 ok e_v1) ok.1.2 (gE_8 ok.1.1) rfl (g_goodV u_ml_RX8_174 u_im_yX8_isPlace u_se_yX8_isPlace u_in_RX8 u_co_yX8_isPlace) rfl rfl rfl (by decide +kernel) ⟨Nat.le_of_ble_eq_true rfl, Nat.le_of_ble_eq_true rfl⟩ rfl hl.1 rfl (Nat.le_of_ble_eq_true rfl) dX8_reason_2 ⟨Nat.zero_le _, Nat.zero_le _⟩) G (fun H locs G => ?_)
  refine lv_if_eq (tgt := 15) hx hb dX8_reason_5 (by decide) (fun c2 => ?_) (fun c2 => ?_)
  · have h := g_it h c2
    refine lv_sipush (v := (-1001)) hx hb dX8_reason_15 (by decide) ?_
    exact ret dX8_reason_18 rfl G ⟨Option.some.inj h, rfl⟩
  · have h := g_if h c2
    refine lv_iload_n hx hb dX8_reason_8 rfl (lv_at hl 2 rfl) ?_
    obtain ⟨v3, e_v3, h⟩ := g_bind h
    refine g_calli (g_runS (n := 1) (As := [.int a2]) (rest := []) C G (mX8_isEdge l X σ a2 v3 e_v3) (g_goodS u_ml_RX8_138 u_st_yX8_isEdge u_in_RX8 u_co_yX8_isEdge) rfl rfl rfl (by decide +kernel) ⟨Nat.le_of_ble_eq_true rfl, Nat.le_of_ble_eq_true rfl⟩ rfl hl.1 rfl (Nat.le_of_ble_eq_true rfl) dX8_reason_9 ⟨Nat.zero_le _, Nat.zero_le _⟩) G (fun H locs G => ?_)
    refine lv_if_ne (tgt := 19) hx hb dX8_reason_12 (by decide) (fun c4 => ?_) (fun c4 => ?_)
    · have h := g_if h c4
      refine lv_aload_n hx hb dX8_reason_19 rfl (lv_at hl 0 rfl) ?_
      refine gg8_0 C G ok.1 ok.2.1.1 u_fl_RX8_10 dX8_reason_20 ?_
      refine gn0_1 C G ok.2.2.1.1 ok.2.2.1.2.1.2 (List.mem_of_getElem? (i := 3) rfl) dX8_reason_23 ?_
      refine lv_iload_n hx hb dX8_reason_26 rfl (lv_at hl 1 rfl) ?_
      obtain ⟨v5, e_v5, h⟩ := g_bind h
      refine g_calli (g_runV (n := 1) (As := [.int a1]) (rest := []) C G (mX4_scrapAt l X σ ((t + 1) + 8) a1 v5 ok.2.2.1.2.2.2 e_v5) ok.2.2.1.2.2.2.1.2 (gE_4 ok.2.2.1.2.2.2.1.1) rfl (g_goodV u_ml_RX8_194 u_im_yX4_scrapAt u_se_yX4_scrapAt u_in_RX4 u_co_yX4_scrapAt) rfl rfl rfl (by decide +kernel) ⟨Nat.le_of_ble_eq_true rfl, Nat.le_of_ble_eq_true rfl⟩ rfl hl.1 rfl (Nat.le_of_ble_eq_true rfl) dX8_reason_27 ⟨Nat.zero_le _, Nat.zero_le _⟩) G (fun H locs G => ?_)
      refine lv_istore_n (lv' := [(3, .int v5), (0, .ref (xN X + t)), (1, .int a1), (2, .int a2)]) hx hb dX8_reason_30 rfl hl (by decide) rfl (fun ls hl => ?_)
      refine lv_iload_n hx hb dX8_reason_31 rfl (lv_at hl 0 rfl) ?_
      refine lv_iconst (v := (-1)) hx hb dX8_reason_32 (by decide) ?_
      refine lv_icmp_ne (tgt := 40) hx hb dX8_reason_33 (by decide) (fun c6 => ?_) (fun c6 => ?_)
      · have h := g_if h c6
        refine lv_aload_n hx hb dX8_reason_40 rfl (lv_at hl 1 rfl) ?_
        refine gg8_0 C G ok.1 ok.2.1.1 u_fl_RX8_10 dX8_reason_41 ?_
        refine lv_iload_n hx hb dX8_reason_44 rfl (lv_at hl 0 rfl) ?_
        refine lv_iload_n hx hb dX8_reason_45 rfl (lv_at hl 2 rfl) ?_
        refine lv_aload_n hx hb dX8_reason_46 rfl (lv_at hl 1 rfl) ?_
        refine gg8_0 C G ok.1 ok.2.1.1 u_fl_RX8_10 dX8_reason_47 ?_
        refine gn0_1 C G ok.2.2.1.1 ok.2.2.1.2.1.2 (List.mem_of_getElem? (i := 3) rfl) dX8_reason_50 ?_
        refine lv_iload_n hx hb dX8_reason_53 rfl (lv_at hl 0 rfl) ?_
        obtain ⟨v7, e_v7, h⟩ := g_bind h
        refine g_calli (g_runV (n := 1) (As := [.int v5]) (rest := [.int a1, .int v5, .ref (xN X + (t + 1))]) C G (mX4_orientationOf l X σ ((t + 1) + 8) v5 v7 ok.2.2.1.2.2.2 e_v7) ok.2.2.1.2.2.2.1.2 (gE_4 ok.2.2.1.2.2.2.1.1) rfl (g_goodV u_ml_RX8_117 u_im_yX4_orientationOf u_se_yX4_orientationOf u_in_RX4 u_co_yX4_orientationOf) rfl rfl rfl (by decide +kernel) ⟨Nat.le_of_ble_eq_true rfl, Nat.le_of_ble_eq_true rfl⟩ rfl hl.1 rfl (Nat.le_of_ble_eq_true rfl) dX8_reason_54 ⟨Nat.zero_le _, Nat.zero_le _⟩) G (fun H locs G => ?_)
        refine lv_iload_n hx hb dX8_reason_57 rfl (lv_at hl 3 rfl) ?_
        obtain ⟨v8, e_v8, h⟩ := g_bind h
        refine g_calli (g_runV (n := 4) (As := [.int v5, .int a1, .int v7, .int a2]) (rest := []) C G (mX0_verdict l X σ (t + 1) v5 a1 v7 a2 v8 ok.2.2.1 e_v8) ok.2.2.1.1.2 (gE_0 ok.2.2.1.1.1) rfl (g_goodV u_ml_RX8_197 u_im_yX0_verdict u_se_yX0_verdict u_in_RX0 u_co_yX0_verdict) rfl rfl rfl (by decide +kernel) ⟨Nat.le_of_ble_eq_true rfl, Nat.le_of_ble_eq_true rfl⟩ rfl hl.1 rfl (Nat.le_of_ble_eq_true rfl) dX8_reason_58 ⟨Nat.zero_le _, Nat.zero_le _⟩) G (fun H locs G => ?_)
        refine lv_istore (lv' := [(4, .int v8), (3, .int v5), (0, .ref (xN X + t)), (1, .int a1), (2, .int a2)]) hx hb dX8_reason_61 hl (by decide) rfl (fun ls hl => ?_)
        refine lv_iload hx hb dX8_reason_63 (lv_at hl 0 rfl) ?_
        refine lv_iconst (v := (-1)) hx hb dX8_reason_65 (by decide) ?_
        refine lv_icmp_ne (tgt := 75) hx hb dX8_reason_66 (by decide) (fun c9 => ?_) (fun c9 => ?_)
        · have h := g_if h c9
          refine lv_iload hx hb dX8_reason_75 (lv_at hl 0 rfl) ?_
          exact ret dX8_reason_77 rfl G ⟨Option.some.inj h, rfl⟩
        · have h := g_it h c9
          refine lv_sipush (v := (-1004)) hx hb dX8_reason_69 (by decide) ?_
          refine lv_goto (tgt := 77) hx hb dX8_reason_72 (by decide) ?_
          exact ret dX8_reason_77 rfl G ⟨Option.some.inj h, rfl⟩
      · have h := g_it h c6
        refine lv_sipush (v := (-1004)) hx hb dX8_reason_36 (by decide) ?_
        exact ret dX8_reason_39 rfl G ⟨Option.some.inj h, rfl⟩
    · have h := g_it h c4
      refine lv_sipush (v := (-1001)) hx hb dX8_reason_15 (by decide) ?_
      exact ret dX8_reason_18 rfl G ⟨Option.some.inj h, rfl⟩
