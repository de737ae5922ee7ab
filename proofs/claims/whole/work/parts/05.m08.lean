def fX9_fault_43 (K4 : gM → Int32 → Int32 → Option (Int32 × gM)) (t : Nat) : Nat → gM → Int32 → Int32 → Int32 → Int32 → Option (Int32 × gM)
  | 0, _, _, _, _, _ => none
  | n + 1, σ, x1, x2, x3, x4 =>
    (if 3 ≤ x4 then
      (if x3 = 0 then
        (gl (x1 + 0) fun w17 =>
        ((fX9_signAt σ t w17).bind fun v18 =>
        (if v18 = 47 then
          (gl (w17 + 1) fun w20 =>
          ((fX9_isDigit σ t w20).bind fun v21 =>
          (if v21 = 0 then
            some (w20, σ)
          else
            (if ¬ (w20 < 0 ∨ gln (t + 3) ≤ w20.toNatClampNeg) then
            (if ¬ ((4 + x2) < 0 ∨ gln (t + 6) ≤ (4 + x2).toNatClampNeg) then
            (gl (gset σ (t + 6) (upd (σ (t + 6)) (4 + x2).toNatClampNeg ((σ (t + 3) w20.toNatClampNeg) - 48))) fun σ26 =>
            (gl (w20 + 1) fun w27 =>
            ((fX9_signAt σ26 t w27).bind fun v28 =>
            (if 3 ≤ x2 then
              (if v28 = 59 then
                (gl (w27 + 1) fun w31 =>
                (gl (x2 + 1) fun w32 =>
                K4 σ26 w31 w32))
              else
                some (w27, σ26))
            else
              (if v28 = 44 then
                (gl (w27 + 1) fun w34 =>
                (gl (x2 + 1) fun w35 =>
                K4 σ26 w34 w35))
              else
                some (w27, σ26))))))
            else none)
            else none))))
        else
          some (w17, σ))))
      else
        (gl (x1 + 1) fun w36 =>
        ((fX9_signAt σ t w36).bind fun v37 =>
        (if v37 = 47 then
          (gl (w36 + 1) fun w39 =>
          ((fX9_isDigit σ t w39).bind fun v40 =>
          (if v40 = 0 then
            some (w39, σ)
          else
            (if ¬ (w39 < 0 ∨ gln (t + 3) ≤ w39.toNatClampNeg) then
            (if (σ (t + 3) w39.toNatClampNeg) = 48 then
              (if ¬ (w39 < 0 ∨ gln (t + 3) ≤ w39.toNatClampNeg) then
              (if ¬ ((4 + x2) < 0 ∨ gln (t + 6) ≤ (4 + x2).toNatClampNeg) then
              (gl (gset σ (t + 6) (upd (σ (t + 6)) (4 + x2).toNatClampNeg ((σ (t + 3) w39.toNatClampNeg) - 48))) fun σ47 =>
              (gl (w39 + 1) fun w48 =>
              ((fX9_signAt σ47 t w48).bind fun v49 =>
              (if 3 ≤ x2 then
                (if v49 = 59 then
                  (gl (w48 + 1) fun w52 =>
                  (gl (x2 + 1) fun w53 =>
                  K4 σ47 w52 w53))
                else
                  some (w48, σ47))
              else
                (if v49 = 44 then
                  (gl (w48 + 1) fun w55 =>
                  (gl (x2 + 1) fun w56 =>
                  K4 σ47 w55 w56))
                else
                  some (w48, σ47))))))
              else none)
              else none)
            else
              some (w39, σ))
            else none))))
        else
          some (w36, σ)))))
    else
      (if x3 = 0 then
        ((fX9_isDigit σ t x1).bind fun v58 =>
        (if v58 = 0 then
          some (x1, σ)
        else
          (if ¬ (x2 < 0 ∨ gln (t + 6) ≤ x2.toNatClampNeg) then
          (if ¬ (x1 < 0 ∨ gln (t + 3) ≤ x1.toNatClampNeg) then
          (if ¬ (x2 < 0 ∨ gln (t + 6) ≤ x2.toNatClampNeg) then
          (gl (gset σ (t + 6) (upd (σ (t + 6)) x2.toNatClampNeg (((10 * (σ (t + 6) x2.toNatClampNeg)) + (σ (t + 3) x1.toNatClampNeg)) - 48))) fun σ63 =>
          (gl (x1 + 1) fun w64 =>
          (gl (x4 + 1) fun w65 =>
          fX9_fault_43 K4 t n σ63 w64 x2 x3 w65)))
          else none)
          else none)
          else none)))
      else
        (gl (x1 + 1) fun w67 =>
        ((fX9_signAt σ t w67).bind fun v68 =>
        (if v68 = 47 then
          (gl (w67 + 1) fun w70 =>
          ((fX9_isDigit σ t w70).bind fun v71 =>
          (if v71 = 0 then
            some (w70, σ)
          else
            (if ¬ (w70 < 0 ∨ gln (t + 3) ≤ w70.toNatClampNeg) then
            (if (σ (t + 3) w70.toNatClampNeg) = 48 then
              (if ¬ (w70 < 0 ∨ gln (t + 3) ≤ w70.toNatClampNeg) then
              (if ¬ ((4 + x2) < 0 ∨ gln (t + 6) ≤ (4 + x2).toNatClampNeg) then
              (gl (gset σ (t + 6) (upd (σ (t + 6)) (4 + x2).toNatClampNeg ((σ (t + 3) w70.toNatClampNeg) - 48))) fun σ78 =>
              (gl (w70 + 1) fun w79 =>
              ((fX9_signAt σ78 t w79).bind fun v80 =>
              (if 3 ≤ x2 then
                (if v80 = 59 then
                  (gl (w79 + 1) fun w83 =>
                  (gl (x2 + 1) fun w84 =>
                  K4 σ78 w83 w84))
                else
                  some (w79, σ78))
              else
                (if v80 = 44 then
                  (gl (w79 + 1) fun w86 =>
                  (gl (x2 + 1) fun w87 =>
                  K4 σ78 w86 w87))
                else
                  some (w79, σ78))))))
              else none)
              else none)
            else
              some (w70, σ))
            else none))))
        else
          some (w67, σ))))))

def fX9_fault_4 (t : Nat) : Nat → gM → Int32 → Int32 → Option (Int32 × gM)
  | 0, _, _, _ => none
  | n + 1, σ, x1, x2 =>
    (if 4 ≤ x2 then
      ((fX9_signAt σ t x1).bind fun v2 =>
      ((fX9_in σ v2 48 49).bind fun v3 =>
      (if v3 = 0 then
        some (x1, σ)
      else
        (if ¬ (x1 < 0 ∨ gln (t + 3) ≤ x1.toNatClampNeg) then
        (if ¬ ((8 : Int32) < 0 ∨ gln (t + 6) ≤ (8 : Int32).toNatClampNeg) then
        (gl (gset σ (t + 6) (upd (σ (t + 6)) (8 : Int32).toNatClampNeg ((σ (t + 3) x1.toNatClampNeg) - 48))) fun σ7 =>
        (gl (x1 + 1) fun w8 =>
        (if w8 = (σ7 t 4) then
          some ((-1004), σ7)
        else
          some (w8, σ7))))
        else none)
        else none))))
    else
      ((fX9_signAt σ t x1).bind fun v10 =>
      (if v10 = 45 then
        (if ¬ (x2 < 0 ∨ gln (t + 6) ≤ x2.toNatClampNeg) then
        (gl (gset σ (t + 6) (upd (σ (t + 6)) x2.toNatClampNeg (-1))) fun σ14 =>
        fX9_fault_43 (fun σ2 y1 y2 => fX9_fault_4 t n σ2 y1 y2) t gF σ14 x1 x2 1 0)
        else none)
      else
        (if ¬ (x2 < 0 ∨ gln (t + 6) ≤ x2.toNatClampNeg) then
        (gl (gset σ (t + 6) (upd (σ (t + 6)) x2.toNatClampNeg 0)) fun σ90 =>
        fX9_fault_43 (fun σ2 y1 y2 => fX9_fault_4 t n σ2 y1 y2) t gF σ90 x1 x2 0 0)
        else none))))

def fX9_fault (σ : gM) (t : Nat) : Option (Int32 × gM) :=
  fX9_fault_4 t gF σ 0 0
set_option maxHeartbeats 4000000 in
set_option maxRecDepth 100000 in
theorem mX9_fault (l : Launch) (X : gX) (σ σ' : gM) (t : Nat) (r : Int32) (ok : gok9 X t) (h : fX9_fault σ t = some (r, σ')) : Met l yX9_fault (Cond.code yX9_fault cX9_fault 5 (some .int) :: gBig) ({ frames := 2, cells := 0, slots := 0, locals := 43 }) (gPc X σ [.ref (xN X + t)]) (gQi X σ' r) 0 0 (xA X) := by
  refine g_meti (cc := cX9_fault) (maxL := 5) (own := RX9) (by decide) rfl rfl (Nat.le_of_ble_eq_true rfl) ?_
  intro p ev s m args below meth c Q C G ret ls hl
  obtain ⟨⟨hx, hb, hml, hown, hts⟩, hK⟩ := id C
  have hl : lv_has ls 5 [(0, .ref (xN X + t))] := hl
  have L43 : ∀ (K4 : gM → Int32 → Int32 → Option (Int32 × gM)), (∀ (H : Heap) (locs : List Loc) (ls : Array Slot) (σ : gM) (x1 : Int32) (x2 : Int32), gG X σ s H locs → lv_has ls 5 [(0, .ref (xN X + t)), (1, .int x1), (2, .int x2)] → K4 σ x1 x2 = some (r, σ') → W p l ev ({ frames := 2, cells := 0, slots := 0, locals := 43 }) s m args below meth c H locs 0 0 Q (F0 m 4 ls [])) → ∀ (n : Nat) (H : Heap) (locs : List Loc) (ls : Array Slot) (σ : gM) (x1 : Int32) (x2 : Int32) (x3 : Int32) (x4 : Int32), gG X σ s H locs → lv_has ls 5 [(0, .ref (xN X + t)), (1, .int x1), (2, .int x2), (3, .int x3), (4, .int x4)] → fX9_fault_43 K4 t n σ x1 x2 x3 x4 = some (r, σ') → W p l ev ({ frames := 2, cells := 0, slots := 0, locals := 43 }) s m args below meth c H locs 0 0 Q (F0 m 43 ls []) := by
    intro K4 hK4 n
    induction n with
    | zero =>
      intro H locs ls σ x1 x2 x3 x4 G hl h
      rw [fX9_fault_43] at h
      cases h
    | succ n ih =>
      intro H locs ls σ x1 x2 x3 x4 G hl h
      rw [fX9_fault_43] at h
      refine lv_iload hx hb dX9_fault_43 (lv_at hl 4 rfl) ?_
      refine lv_iconst (v := 3) hx hb dX9_fault_45 (by decide) ?_
      refine lv_icmp_ge (tgt := 97) hx hb dX9_fault_46 (by decide) (fun c15 => ?_) (fun c15 => ?_)
      · have h := g_it h c15
        refine lv_iload_n hx hb dX9_fault_97 rfl (lv_at hl 1 rfl) ?_
        refine lv_iload_n hx hb dX9_fault_98 rfl (lv_at hl 3 rfl) ?_
        refine lv_if_eq (tgt := 106) hx hb dX9_fault_99 (by decide) (fun c16 => ?_) (fun c16 => ?_)
        · have h := g_it h c16
          refine lv_iconst (v := 0) hx hb dX9_fault_106 (by decide) ?_
          refine lv_iadd hx hb dX9_fault_107 ?_
          refine lv_topi (fun w17 e_w17 => ?_)
          have h := g_let2 e_w17 h
          refine lv_istore_n (lv' := [(1, .int w17), (0, .ref (xN X + t)), (2, .int x2), (3, .int x3), (4, .int x4)]) hx hb dX9_fault_108 rfl hl (by decide) rfl (fun ls hl => ?_)
          refine lv_aload_n hx hb dX9_fault_109 rfl (lv_at hl 1 rfl) ?_
          refine lv_iload_n hx hb dX9_fault_110 rfl (lv_at hl 0 rfl) ?_
          obtain ⟨v18, e_v18, h⟩ := g_bind h
          refine g_calli (g_runV (n := 1) (As := [.int w17]) (rest := []) C G (mX9_signAt l X σ t w17 v18 ok e_v18) ok.1.2 (gE_9 ok.1.1) rfl (g_goodV u_ml_RX9_131 u_im_yX9_signAt u_se_yX9_signAt u_in_RX9 u_co_yX9_signAt) rfl rfl rfl (by decide +kernel) ⟨Nat.le_of_ble_eq_true rfl, Nat.le_of_ble_eq_true rfl⟩ rfl hl.1 rfl (Nat.le_of_ble_eq_true rfl) dX9_fault_111 ⟨Nat.zero_le _, Nat.zero_le _⟩) G (fun H locs G => ?_)
          refine lv_bipush (v := 47) hx hb dX9_fault_114 (by decide) ?_
          refine lv_icmp_eq (tgt := 121) hx hb dX9_fault_116 (by decide) (fun c19 => ?_) (fun c19 => ?_)
          · have h := g_it h c19
            obtain ⟨w20, e_w20⟩ : ∃ y : Int32, y = w17 + 1 := ⟨_, rfl⟩
            have h := g_let2 e_w20 h
            refine lv_iinc (v := w20) (lv' := [(1, .int w20), (0, .ref (xN X + t)), (2, .int x2), (3, .int x3), (4, .int x4)]) hx hb dX9_fault_121 hl (k := 0) rfl (by rw [e_w20]; rfl) (by decide) rfl (fun ls hl => ?_)
            refine lv_aload_n hx hb dX9_fault_124 rfl (lv_at hl 1 rfl) ?_
            refine lv_iload_n hx hb dX9_fault_125 rfl (lv_at hl 0 rfl) ?_
            obtain ⟨v21, e_v21, h⟩ := g_bind h
            refine g_calli (g_runV (n := 1) (As := [.int w20]) (rest := []) C G (mX9_isDigit l X σ t w20 v21 ok e_v21) ok.1.2 (gE_9 ok.1.1) rfl (g_goodV u_ml_RX9_134 u_im_yX9_isDigit u_se_yX9_isDigit u_in_RX9 u_co_yX9_isDigit) rfl rfl rfl (by decide +kernel) ⟨Nat.le_of_ble_eq_true rfl, Nat.le_of_ble_eq_true rfl⟩ rfl hl.1 rfl (Nat.le_of_ble_eq_true rfl) dX9_fault_126 ⟨Nat.zero_le _, Nat.zero_le _⟩) G (fun H locs G => ?_)
            refine lv_if_eq (tgt := 147) hx hb dX9_fault_129 (by decide) (fun c22 => ?_) (fun c22 => ?_)
            · have h := g_it h c22
              refine lv_iload_n hx hb dX9_fault_147 rfl (lv_at hl 0 rfl) ?_
              exact ret dX9_fault_148 rfl G (Prod.mk.inj (Option.some.inj h))
            · have h := g_if h c22
              refine lv_iload_n hx hb dX9_fault_132 rfl (lv_at hl 3 rfl) ?_
              refine lv_if_eq (tgt := 149) hx hb dX9_fault_133 (by decide) (fun _ => ?_) (fun c23 => absurd c16 c23)
              refine lv_aload_n hx hb dX9_fault_149 rfl (lv_at hl 1 rfl) ?_
              refine gg9_7 C G ok.1 ok.2.1.2.2.2.2.2.1 u_fl_RX9_26 dX9_fault_150 ?_
              refine lv_iconst (v := 4) hx hb dX9_fault_153 (by decide) ?_
              refine lv_iload_n hx hb dX9_fault_154 rfl (lv_at hl 2 rfl) ?_
              refine lv_iadd hx hb dX9_fault_155 ?_
              refine lv_aload_n hx hb dX9_fault_156 rfl (lv_at hl 1 rfl) ?_
              refine gg9_3 C G ok.1 ok.2.1.2.2.1 u_fl_RX9_16 dX9_fault_157 ?_
              refine lv_iload_n hx hb dX9_fault_160 rfl (lv_at hl 0 rfl) ?_
              obtain ⟨c24, h⟩ := g_chk h
              refine g_cald C G ok.2.2.2.2.1 c24 dX9_fault_161 ?_
              refine lv_bipush (v := 48) hx hb dX9_fault_162 (by decide) ?_
              refine lv_isub hx hb dX9_fault_164 ?_
              obtain ⟨c25, h⟩ := g_chk h
              obtain ⟨σ26, e_σ26, h⟩ := g_let h
              refine g_iast C G ok.2.2.2.2.2.2.2.1 c25 dX9_fault_165 (fun H locs G => ?_)
              rw [e_σ26] at G
              obtain ⟨w27, e_w27⟩ : ∃ y : Int32, y = w20 + 1 := ⟨_, rfl⟩
              have h := g_let2 e_w27 h
              refine lv_iinc (v := w27) (lv' := [(1, .int w27), (0, .ref (xN X + t)), (2, .int x2), (3, .int x3), (4, .int x4)]) hx hb dX9_fault_166 hl (k := 0) rfl (by rw [e_w27]; rfl) (by decide) rfl (fun ls hl => ?_)
              refine lv_aload_n hx hb dX9_fault_169 rfl (lv_at hl 1 rfl) ?_
              refine lv_iload_n hx hb dX9_fault_170 rfl (lv_at hl 0 rfl) ?_
              obtain ⟨v28, e_v28, h⟩ := g_bind h
              refine g_calli (g_runV (n := 1) (As := [.int w27]) (rest := []) C G (mX9_signAt l X σ26 t w27 v28 ok e_v28) ok.1.2 (gE_9 ok.1.1) rfl (g_goodV u_ml_RX9_131 u_im_yX9_signAt u_se_yX9_signAt u_in_RX9 u_co_yX9_signAt) rfl rfl rfl (by decide +kernel) ⟨Nat.le_of_ble_eq_true rfl, Nat.le_of_ble_eq_true rfl⟩ rfl hl.1 rfl (Nat.le_of_ble_eq_true rfl) dX9_fault_171 ⟨Nat.zero_le _, Nat.zero_le _⟩) G (fun H locs G => ?_)
              refine lv_iload_n hx hb dX9_fault_174 rfl (lv_at hl 2 rfl) ?_
              refine lv_iconst (v := 3) hx hb dX9_fault_175 (by decide) ?_
              refine lv_icmp_ge (tgt := 184) hx hb dX9_fault_176 (by decide) (fun c29 => ?_) (fun c29 => ?_)
              · have h := g_it h c29
                refine lv_bipush (v := 59) hx hb dX9_fault_184 (by decide) ?_
                refine lv_icmp_eq (tgt := 191) hx hb dX9_fault_186 (by decide) (fun c30 => ?_) (fun c30 => ?_)
                · have h := g_it h c30
                  obtain ⟨w31, e_w31⟩ : ∃ y : Int32, y = w27 + 1 := ⟨_, rfl⟩
                  have h := g_let2 e_w31 h
                  refine lv_iinc (v := w31) (lv' := [(1, .int w31), (0, .ref (xN X + t)), (2, .int x2), (3, .int x3), (4, .int x4)]) hx hb dX9_fault_191 hl (k := 0) rfl (by rw [e_w31]; rfl) (by decide) rfl (fun ls hl => ?_)
                  obtain ⟨w32, e_w32⟩ : ∃ y : Int32, y = x2 + 1 := ⟨_, rfl⟩
                  have h := g_let2 e_w32 h
                  refine lv_iinc (v := w32) (lv' := [(2, .int w32), (1, .int w31), (0, .ref (xN X + t)), (3, .int x3), (4, .int x4)]) hx hb dX9_fault_194 hl (k := 2) rfl (by rw [e_w32]; rfl) (by decide) rfl (fun ls hl => ?_)
                  refine lv_goto (tgt := 4) hx hb dX9_fault_197 (by decide) ?_
                  exact hK4 _ _ _ σ26 w31 w32 G (lv_sub hl [2, 1, 0] rfl) h
                · have h := g_if h c30
                  refine lv_iload_n hx hb dX9_fault_189 rfl (lv_at hl 0 rfl) ?_
                  exact ret dX9_fault_190 rfl G (Prod.mk.inj (Option.some.inj h))
              · have h := g_if h c29
                refine lv_bipush (v := 44) hx hb dX9_fault_179 (by decide) ?_
                refine lv_goto (tgt := 186) hx hb dX9_fault_181 (by decide) ?_
                refine lv_icmp_eq (tgt := 191) hx hb dX9_fault_186 (by decide) (fun c33 => ?_) (fun c33 => ?_)
                · have h := g_it h c33
                  obtain ⟨w34, e_w34⟩ : ∃ y : Int32, y = w27 + 1 := ⟨_, rfl⟩
                  have h := g_let2 e_w34 h
                  refine lv_iinc (v := w34) (lv' := [(1, .int w34), (0, .ref (xN X + t)), (2, .int x2), (3, .int x3), (4, .int x4)]) hx hb dX9_fault_191 hl (k := 0) rfl (by rw [e_w34]; rfl) (by decide) rfl (fun ls hl => ?_)
                  obtain ⟨w35, e_w35⟩ : ∃ y : Int32, y = x2 + 1 := ⟨_, rfl⟩
                  have h := g_let2 e_w35 h
                  refine lv_iinc (v := w35) (lv' := [(2, .int w35), (1, .int w34), (0, .ref (xN X + t)), (3, .int x3), (4, .int x4)]) hx hb dX9_fault_194 hl (k := 2) rfl (by rw [e_w35]; rfl) (by decide) rfl (fun ls hl => ?_)
                  refine lv_goto (tgt := 4) hx hb dX9_fault_197 (by decide) ?_
                  exact hK4 _ _ _ σ26 w34 w35 G (lv_sub hl [2, 1, 0] rfl) h
                · have h := g_if h c33
                  refine lv_iload_n hx hb dX9_fault_189 rfl (lv_at hl 0 rfl) ?_
                  exact ret dX9_fault_190 rfl G (Prod.mk.inj (Option.some.inj h))
          · have h := g_if h c19
            refine lv_iload_n hx hb dX9_fault_119 rfl (lv_at hl 0 rfl) ?_
            exact ret dX9_fault_120 rfl G (Prod.mk.inj (Option.some.inj h))
        · have h := g_if h c16
          refine lv_iconst (v := 1) hx hb dX9_fault_102 (by decide) ?_
          refine lv_goto (tgt := 107) hx hb dX9_fault_103 (by decide) ?_
          refine lv_iadd hx hb dX9_fault_107 ?_
          refine lv_topi (fun w36 e_w36 => ?_)
          have h := g_let2 e_w36 h
          refine lv_istore_n (lv' := [(1, .int w36), (0, .ref (xN X + t)), (2, .int x2), (3, .int x3), (4, .int x4)]) hx hb dX9_fault_108 rfl hl (by decide) rfl (fun ls hl => ?_)
          refine lv_aload_n hx hb dX9_fault_109 rfl (lv_at hl 1 rfl) ?_
          refine lv_iload_n hx hb dX9_fault_110 rfl (lv_at hl 0 rfl) ?_
          obtain ⟨v37, e_v37, h⟩ := g_bind h
          refine g_calli (g_runV (n := 1) (As := [.int w36]) (rest := []) C G (mX9_signAt l X σ t w36 v37 ok e_v37) ok.1.2 (gE_9 ok.1.1) rfl (g_goodV u_ml_RX9_131 u_im_yX9_signAt u_se_yX9_signAt u_in_RX9 u_co_yX9_signAt) rfl rfl rfl (by decide +kernel) ⟨Nat.le_of_ble_eq_true rfl, Nat.le_of_ble_eq_true rfl⟩ rfl hl.1 rfl (Nat.le_of_ble_eq_true rfl) dX9_fault_111 ⟨Nat.zero_le _, Nat.zero_le _⟩) G (fun H locs G => ?_)
          refine lv_bipush (v := 47) hx hb dX9_fault_114 (by decide) ?_
          refine lv_icmp_eq (tgt := 121) hx hb dX9_fault_116 (by decide) (fun c38 => ?_) (fun c38 => ?_)
          · have h := g_it h c38
            obtain ⟨w39, e_w39⟩ : ∃ y : Int32, y = w36 + 1 := ⟨_, rfl⟩
            have h := g_let2 e_w39 h
            refine lv_iinc (v := w39) (lv' := [(1, .int w39), (0, .ref (xN X + t)), (2, .int x2), (3, .int x3), (4, .int x4)]) hx hb dX9_fault_121 hl (k := 0) rfl (by rw [e_w39]; rfl) (by decide) rfl (fun ls hl => ?_)
            refine lv_aload_n hx hb dX9_fault_124 rfl (lv_at hl 1 rfl) ?_
            refine lv_iload_n hx hb dX9_fault_125 rfl (lv_at hl 0 rfl) ?_
            obtain ⟨v40, e_v40, h⟩ := g_bind h
            refine g_calli (g_runV (n := 1) (As := [.int w39]) (rest := []) C G (mX9_isDigit l X σ t w39 v40 ok e_v40) ok.1.2 (gE_9 ok.1.1) rfl (g_goodV u_ml_RX9_134 u_im_yX9_isDigit u_se_yX9_isDigit u_in_RX9 u_co_yX9_isDigit) rfl rfl rfl (by decide +kernel) ⟨Nat.le_of_ble_eq_true rfl, Nat.le_of_ble_eq_true rfl⟩ rfl hl.1 rfl (Nat.le_of_ble_eq_true rfl) dX9_fault_126 ⟨Nat.zero_le _, Nat.zero_le _⟩) G (fun H locs G => ?_)
            refine lv_if_eq (tgt := 147) hx hb dX9_fault_129 (by decide) (fun c41 => ?_) (fun c41 => ?_)
            · have h := g_it h c41
              refine lv_iload_n hx hb dX9_fault_147 rfl (lv_at hl 0 rfl) ?_
              exact ret dX9_fault_148 rfl G (Prod.mk.inj (Option.some.inj h))
            · have h := g_if h c41
              refine lv_iload_n hx hb dX9_fault_132 rfl (lv_at hl 3 rfl) ?_
              refine lv_if_eq (tgt := 149) hx hb dX9_fault_133 (by decide) (fun c42 => absurd c42 c16) (fun _ => ?_)
              refine lv_aload_n hx hb dX9_fault_136 rfl (lv_at hl 1 rfl) ?_
              refine gg9_3 C G ok.1 ok.2.1.2.2.1 u_fl_RX9_16 dX9_fault_137 ?_
              refine lv_iload_n hx hb dX9_fault_140 rfl (lv_at hl 0 rfl) ?_
              obtain ⟨c43, h⟩ := g_chk h
              refine g_cald C G ok.2.2.2.2.1 c43 dX9_fault_141 ?_
              refine lv_bipush (v := 48) hx hb dX9_fault_142 (by decide) ?_
              refine lv_icmp_eq (tgt := 149) hx hb dX9_fault_144 (by decide) (fun c44 => ?_) (fun c44 => ?_)
              · have h := g_it h c44
                refine lv_aload_n hx hb dX9_fault_149 rfl (lv_at hl 1 rfl) ?_
                refine gg9_7 C G ok.1 ok.2.1.2.2.2.2.2.1 u_fl_RX9_26 dX9_fault_150 ?_
                refine lv_iconst (v := 4) hx hb dX9_fault_153 (by decide) ?_
                refine lv_iload_n hx hb dX9_fault_154 rfl (lv_at hl 2 rfl) ?_
                refine lv_iadd hx hb dX9_fault_155 ?_
                refine lv_aload_n hx hb dX9_fault_156 rfl (lv_at hl 1 rfl) ?_
                refine gg9_3 C G ok.1 ok.2.1.2.2.1 u_fl_RX9_16 dX9_fault_157 ?_
                refine lv_iload_n hx hb dX9_fault_160 rfl (lv_at hl 0 rfl) ?_
                obtain ⟨c45, h⟩ := g_chk h
                refine g_cald C G ok.2.2.2.2.1 c45 dX9_fault_161 ?_
                refine lv_bipush (v := 48) hx hb dX9_fault_162 (by decide) ?_
                refine lv_isub hx hb dX9_fault_164 ?_
                obtain ⟨c46, h⟩ := g_chk h
                obtain ⟨σ47, e_σ47, h⟩ := g_let h
                refine g_iast C G ok.2.2.2.2.2.2.2.1 c46 dX9_fault_165 (fun H locs G => ?_)
                rw [e_σ47] at G
                obtain ⟨w48, e_w48⟩ : ∃ y : Int32, y = w39 + 1 := ⟨_, rfl⟩
                have h := g_let2 e_w48 h
                refine lv_iinc (v := w48) (lv' := [(1, .int w48), (0, .ref (xN X + t)), (2, .int x2), (3, .int x3), (4, .int x4)]) hx hb dX9_fault_166 hl (k := 0) rfl (by rw [e_w48]; rfl) (by decide) rfl (fun ls hl => ?_)
                refine lv_aload_n hx hb dX9_fault_169 rfl (lv_at hl 1 rfl) ?_
                refine lv_iload_n hx hb dX9_fault_170 rfl (lv_at hl 0 rfl) ?_
                obtain ⟨v49, e_v49, h⟩ := g_bind h
                refine g_calli (g_runV (n := 1) (As := [.int w48]) (rest := []) C G (mX9_signAt l X σ47 t w48 v49 ok e_v49) ok.1.2 (gE_9 ok.1.1) rfl (g_goodV u_ml_RX9_131 u_im_yX9_signAt u_se_yX9_signAt u_in_RX9 u_co_yX9_signAt) rfl rfl rfl (by decide +kernel) ⟨Nat.le_of_ble_eq_true rfl, Nat.le_of_ble_eq_true rfl⟩ rfl hl.1 rfl (Nat.le_of_ble_eq_true rfl) dX9_fault_171 ⟨Nat.zero_le _, Nat.zero_le _⟩) G (fun H locs G => ?_)
                refine lv_iload_n hx hb dX9_fault_174 rfl (lv_at hl 2 rfl) ?_
                refine lv_iconst (v := 3) hx hb dX9_fault_175 (by decide) ?_
                refine lv_icmp_ge (tgt := 184) hx hb dX9_fault_176 (by decide) (fun c50 => ?_) (fun c50 => ?_)
                · have h := g_it h c50
                  refine lv_bipush (v := 59) hx hb dX9_fault_184 (by decide) ?_
                  refine lv_icmp_eq (tgt := 191) hx hb dX9_fault_186 (by decide) (fun c51 => ?_) (fun c51 => ?_)
                  · have h := g_it h c51
                    obtain ⟨w52, e_w52⟩ : ∃ y : Int32, y = w48 + 1 := ⟨_, rfl⟩
                    have h := g_let2 e_w52 h
                    refine lv_iinc (v := w52) (lv' := [(1, .int w52), (0, .ref (xN X + t)), (2, .int x2), (3, .int x3), (4, .int x4)]) hx hb dX9_fault_191 hl (k := 0) rfl (by rw [e_w52]; rfl) (by decide) rfl (fun ls hl => ?_)
                    obtain ⟨w53, e_w53⟩ : ∃ y : Int32, y = x2 + 1 := ⟨_, rfl⟩
                    have h := g_let2 e_w53 h
                    refine lv_iinc (v := w53) (lv' := [(2, .int w53), (1, .int w52), (0, .ref (xN X + t)), (3, .int x3), (4, .int x4)]) hx hb dX9_fault_194 hl (k := 2) rfl (by rw [e_w53]; rfl) (by decide) rfl (fun ls hl => ?_)
                    refine lv_goto (tgt := 4) hx hb dX9_fault_197 (by decide) ?_
                    exact hK4 _ _ _ σ47 w52 w53 G (lv_sub hl [2, 1, 0] rfl) h
                  · have h := g_if h c51
                    refine lv_iload_n hx hb dX9_fault_189 rfl (lv_at hl 0 rfl) ?_
                    exact ret dX9_fault_190 rfl G (Prod.mk.inj (Option.some.inj h))
                · have h := g_if h c50
                  refine lv_bipush (v := 44) hx hb dX9_fault_179 (by decide) ?_
                  refine lv_goto (tgt := 186) hx hb dX9_fault_181 (by decide) ?_
                  refine lv_icmp_eq (tgt := 191) hx hb dX9_fault_186 (by decide) (fun c54 => ?_) (fun c54 => ?_)
                  · have h := g_it h c54
                    obtain ⟨w55, e_w55⟩ : ∃ y : Int32, y = w48 + 1 := ⟨_, rfl⟩
                    have h := g_let2 e_w55 h
                    refine lv_iinc (v := w55) (lv' := [(1, .int w55), (0, .ref (xN X + t)), (2, .int x2), (3, .int x3), (4, .int x4)]) hx hb dX9_fault_191 hl (k := 0) rfl (by rw [e_w55]; rfl) (by decide) rfl (fun ls hl => ?_)
                    obtain ⟨w56, e_w56⟩ : ∃ y : Int32, y = x2 + 1 := ⟨_, rfl⟩
                    have h := g_let2 e_w56 h
                    refine lv_iinc (v := w56) (lv' := [(2, .int w56), (1, .int w55), (0, .ref (xN X + t)), (3, .int x3), (4, .int x4)]) hx hb dX9_fault_194 hl (k := 2) rfl (by rw [e_w56]; rfl) (by decide) rfl (fun ls hl => ?_)
                    refine lv_goto (tgt := 4) hx hb dX9_fault_197 (by decide) ?_
                    exact hK4 _ _ _ σ47 w55 w56 G (lv_sub hl [2, 1, 0] rfl) h
                  · have h := g_if h c54
                    refine lv_iload_n hx hb dX9_fault_189 rfl (lv_at hl 0 rfl) ?_
                    exact ret dX9_fault_190 rfl G (Prod.mk.inj (Option.some.inj h))
              · have h := g_if h c44
                refine lv_iload_n hx hb dX9_fault_147 rfl (lv_at hl 0 rfl) ?_
                exact ret dX9_fault_148 rfl G (Prod.mk.inj (Option.some.inj h))
          · have h := g_if h c38
            refine lv_iload_n hx hb dX9_fault_119 rfl (lv_at hl 0 rfl) ?_
            exact ret dX9_fault_120 rfl G (Prod.mk.inj (Option.some.inj h))
      · have h := g_if h c15
        refine lv_iload_n hx hb dX9_fault_49 rfl (lv_at hl 3 rfl) ?_
        refine lv_if_ne (tgt := 97) hx hb dX9_fault_50 (by decide) (fun c57 => ?_) (fun c57 => ?_)
        · have h := g_if h c57
          refine lv_iload_n hx hb dX9_fault_97 rfl (lv_at hl 1 rfl) ?_
          refine lv_iload_n hx hb dX9_fault_98 rfl (lv_at hl 3 rfl) ?_
          refine lv_if_eq (tgt := 106) hx hb dX9_fault_99 (by decide) (fun c66 => absurd c66 c57) (fun _ => ?_)
          refine lv_iconst (v := 1) hx hb dX9_fault_102 (by decide) ?_
          refine lv_goto (tgt := 107) hx hb dX9_fault_103 (by decide) ?_
          refine lv_iadd hx hb dX9_fault_107 ?_
          refine lv_topi (fun w67 e_w67 => ?_)
          have h := g_let2 e_w67 h
          refine lv_istore_n (lv' := [(1, .int w67), (0, .ref (xN X + t)), (2, .int x2), (3, .int x3), (4, .int x4)]) hx hb dX9_fault_108 rfl hl (by decide) rfl (fun ls hl => ?_)
          refine lv_aload_n hx hb dX9_fault_109 rfl (lv_at hl 1 rfl) ?_
          refine lv_iload_n hx hb dX9_fault_110 rfl (lv_at hl 0 rfl) ?_
          obtain ⟨v68, e_v68, h⟩ := g_bind h
          refine g_calli (g_runV (n := 1) (As := [.int w67]) (rest := []) C G (mX9_signAt l X σ t w67 v68 ok e_v68) ok.1.2 (gE_9 ok.1.1) rfl (g_goodV u_ml_RX9_131 u_im_yX9_signAt u_se_yX9_signAt u_in_RX9 u_co_yX9_signAt) rfl rfl rfl (by decide +kernel) ⟨Nat.le_of_ble_eq_true rfl, Nat.le_of_ble_eq_true rfl⟩ rfl hl.1 rfl (Nat.le_of_ble_eq_true rfl) dX9_fault_111 ⟨Nat.zero_le _, Nat.zero_le _⟩) G (fun H locs G => ?_)
          refine lv_bipush (v := 47) hx hb dX9_fault_114 (by decide) ?_
          refine lv_icmp_eq (tgt := 121) hx hb dX9_fault_116 (by decide) (fun c69 => ?_) (fun c69 => ?_)
          · have h := g_it h c69
            obtain ⟨w70, e_w70⟩ : ∃ y : Int32, y = w67 + 1 := ⟨_, rfl⟩
            have h := g_let2 e_w70 h
            refine lv_iinc (v := w70) (lv' := [(1, .int w70), (0, .ref (xN X + t)), (2, .int x2), (3, .int x3), (4, .int x4)]) hx hb dX9_fault_121 hl (k := 0) rfl (by rw [e_w70]; rfl) (by decide) rfl (fun ls hl => ?_)
            refine lv_aload_n hx hb dX9_fault_124 rfl (lv_at hl 1 rfl) ?_
            refine lv_iload_n hx hb dX9_fault_125 rfl (lv_at hl 0 rfl) ?_
            obtain ⟨v71, e_v71, h⟩ := g_bind h
            refine g_calli (g_runV (n := 1) (As := [.int w70]) (rest := []) C G (mX9_isDigit l X σ t w70 v71 ok e_v71) ok.1.2 (gE_9 ok.1.1) rfl (g_goodV u_ml_RX9_134 u_im_yX9_isDigit u_se_yX9_isDigit u_in_RX9 u_co_yX9_isDigit) rfl rfl rfl (by decide +kernel) ⟨Nat.le_of_ble_eq_true rfl, Nat.le_of_ble_eq_true rfl⟩ rfl hl.1 rfl (Nat.le_of_ble_eq_true rfl) dX9_fault_126 ⟨Nat.zero_le _, Nat.zero_le _⟩) G (fun H locs G => ?_)
            refine lv_if_eq (tgt := 147) hx hb dX9_fault_129 (by decide) (fun c72 => ?_) (fun c72 => ?_)
            · have h := g_it h c72
              refine lv_iload_n hx hb dX9_fault_147 rfl (lv_at hl 0 rfl) ?_
              exact ret dX9_fault_148 rfl G (Prod.mk.inj (Option.some.inj h))
            · have h := g_if h c72
              refine lv_iload_n hx hb dX9_fault_132 rfl (lv_at hl 3 rfl) ?_
              refine lv_if_eq (tgt := 149) hx hb dX9_fault_133 (by decide) (fun c73 => absurd c73 c57) (fun _ => ?_)
              refine lv_aload_n hx hb dX9_fault_136 rfl (lv_at hl 1 rfl) ?_
              refine gg9_3 C G ok.1 ok.2.1.2.2.1 u_fl_RX9_16 dX9_fault_137 ?_
              refine lv_iload_n hx hb dX9_fault_140 rfl (lv_at hl 0 rfl) ?_
              obtain ⟨c74, h⟩ := g_chk h
              refine g_cald C G ok.2.2.2.2.1 c74 dX9_fault_141 ?_
              refine lv_bipush (v := 48) hx hb dX9_fault_142 (by decide) ?_
              refine lv_icmp_eq (tgt := 149) hx hb dX9_fault_144 (by decide) (fun c75 => ?_) (fun c75 => ?_)
              · have h := g_it h c75
                refine lv_aload_n hx hb dX9_fault_149 rfl (lv_at hl 1 rfl) ?_
                refine gg9_7 C G ok.1 ok.2.1.2.2.2.2.2.1 u_fl_RX9_26 dX9_fault_150 ?_
                refine lv_iconst (v := 4) hx hb dX9_fault_153 (by decide) ?_
                refine lv_iload_n hx hb dX9_fault_154 rfl (lv_at hl 2 rfl) ?_
                refine lv_iadd hx hb dX9_fault_155 ?_
                refine lv_aload_n hx hb dX9_fault_156 rfl (lv_at hl 1 rfl) ?_
                refine gg9_3 C G ok.1 ok.2.1.2.2.1 u_fl_RX9_16 dX9_fault_157 ?_
                refine lv_iload_n hx hb dX9_fault_160 rfl (lv_at hl 0 rfl) ?_
                obtain ⟨c76, h⟩ := g_chk h
                refine g_cald C G ok.2.2.2.2.1 c76 dX9_fault_161 ?_
                refine lv_bipush (v := 48) hx hb dX9_fault_162 (by decide) ?_
                refine lv_isub hx hb dX9_fault_164 ?_
                obtain ⟨c77, h⟩ := g_chk h
                obtain ⟨σ78, e_σ78, h⟩ := g_let h
                refine g_iast C G ok.2.2.2.2.2.2.2.1 c77 dX9_fault_165 (fun H locs G => ?_)
                rw [e_σ78] at G
                obtain ⟨w79, e_w79⟩ : ∃ y : Int32, y = w70 + 1 := ⟨_, rfl⟩
                have h := g_let2 e_w79 h
                refine lv_iinc (v := w79) (lv' := [(1, .int w79), (0, .ref (xN X + t)), (2, .int x2), (3, .int x3), (4, .int x4)]) hx hb dX9_fault_166 hl (k := 0) rfl (by rw [e_w79]; rfl) (by decide) rfl (fun ls hl => ?_)
                refine lv_aload_n hx hb dX9_fault_169 rfl (lv_at hl 1 rfl) ?_
                refine lv_iload_n hx hb dX9_fault_170 rfl (lv_at hl 0 rfl) ?_
                obtain ⟨v80, e_v80, h⟩ := g_bind h
                refine g_calli (g_runV (n := 1) (As := [.int w79]) (rest := []) C G (mX9_signAt l X σ78 t w79 v80 ok e_v80) ok.1.2 (gE_9 ok.1.1) rfl (g_goodV u_ml_RX9_131 u_im_yX9_signAt u_se_yX9_signAt u_in_RX9 u_co_yX9_signAt) rfl rfl rfl (by decide +kernel) ⟨Nat.le_of_ble_eq_true rfl, Nat.le_of_ble_eq_true rfl⟩ rfl hl.1 rfl (Nat.le_of_ble_eq_true rfl) dX9_fault_171 ⟨Nat.zero_le _, Nat.zero_le _⟩) G (fun H locs G => ?_)
                refine lv_iload_n hx hb dX9_fault_174 rfl (lv_at hl 2 rfl) ?_
                refine lv_iconst (v := 3) hx hb dX9_fault_175 (by decide) ?_
                refine lv_icmp_ge (tgt := 184) hx hb dX9_fault_176 (by decide) (fun c81 => ?_) (fun c81 => ?_)
                · have h := g_it h c81
                  refine lv_bipush (v := 59) hx hb dX9_fault_184 (by decide) ?_
                  refine lv_icmp_eq (tgt := 191) hx hb dX9_fault_186 (by decide) (fun c82 => ?_) (fun c82 => ?_)
                  · have h := g_it h c82
                    obtain ⟨w83, e_w83⟩ : ∃ y : Int32, y = w79 + 1 := ⟨_, rfl⟩
                    have h := g_let2 e_w83 h
                    refine lv_iinc (v := w83) (lv' := [(1, .int w83), (0, .ref (xN X + t)), (2, .int x2), (3, .int x3), (4, .int x4)]) hx hb dX9_fault_191 hl (k := 0) rfl (by rw [e_w83]; rfl) (by decide) rfl (fun ls hl => ?_)
                    obtain ⟨w84, e_w84⟩ : ∃ y : Int32, y = x2 + 1 := ⟨_, rfl⟩
                    have h := g_let2 e_w84 h
                    refine lv_iinc (v := w84) (lv' := [(2, .int w84), (1, .int w83), (0, .ref (xN X + t)), (3, .int x3), (4, .int x4)]) hx hb dX9_fault_194 hl (k := 2) rfl (by rw [e_w84]; rfl) (by decide) rfl (fun ls hl => ?_)
                    refine lv_goto (tgt := 4) hx hb dX9_fault_197 (by decide) ?_
                    exact hK4 _ _ _ σ78 w83 w84 G (lv_sub hl [2, 1, 0] rfl) h
                  · have h := g_if h c82
                    refine lv_iload_n hx hb dX9_fault_189 rfl (lv_at hl 0 rfl) ?_
                    exact ret dX9_fault_190 rfl G (Prod.mk.inj (Option.some.inj h))
                · have h := g_if h c81
                  refine lv_bipush (v := 44) hx hb dX9_fault_179 (by decide) ?_
                  refine lv_goto (tgt := 186) hx hb dX9_fault_181 (by decide) ?_
                  refine lv_icmp_eq (tgt := 191) hx hb dX9_fault_186 (by decide) (fun c85 => ?_) (fun c85 => ?_)
                  · have h := g_it h c85
                    obtain ⟨w86, e_w86⟩ : ∃ y : Int32, y = w79 + 1 := ⟨_, rfl⟩
                    have h := g_let2 e_w86 h
                    refine lv_iinc (v := w86) (lv' := [(1, .int w86), (0, .ref (xN X + t)), (2, .int x2), (3, .int x3), (4, .int x4)]) hx hb dX9_fault_191 hl (k := 0) rfl (by rw [e_w86]; rfl) (by decide) rfl (fun ls hl => ?_)
                    obtain ⟨w87, e_w87⟩ : ∃ y : Int32, y = x2 + 1 := ⟨_, rfl⟩
                    have h := g_let2 e_w87 h
                    refine lv_iinc (v := w87) (lv' := [(2, .int w87), (1, .int w86), (0, .ref (xN X + t)), (3, .int x3), (4, .int x4)]) hx hb dX9_fault_194 hl (k := 2) rfl (by rw [e_w87]; rfl) (by decide) rfl (fun ls hl => ?_)
                    refine lv_goto (tgt := 4) hx hb dX9_fault_197 (by decide) ?_
                    exact hK4 _ _ _ σ78 w86 w87 G (lv_sub hl [2, 1, 0] rfl) h
                  · have h := g_if h c85
                    refine lv_iload_n hx hb dX9_fault_189 rfl (lv_at hl 0 rfl) ?_
                    exact ret dX9_fault_190 rfl G (Prod.mk.inj (Option.some.inj h))
              · have h := g_if h c75
                refine lv_iload_n hx hb dX9_fault_147 rfl (lv_at hl 0 rfl) ?_
                exact ret dX9_fault_148 rfl G (Prod.mk.inj (Option.some.inj h))
          · have h := g_if h c69
            refine lv_iload_n hx hb dX9_fault_119 rfl (lv_at hl 0 rfl) ?_
            exact ret dX9_fault_120 rfl G (Prod.mk.inj (Option.some.inj h))
        · have h := g_it h c57
          refine lv_aload_n hx hb dX9_fault_53 rfl (lv_at hl 0 rfl) ?_
          refine lv_iload_n hx hb dX9_fault_54 rfl (lv_at hl 1 rfl) ?_
          obtain ⟨v58, e_v58, h⟩ := g_bind h
          refine g_calli (g_runV (n := 1) (As := [.int x1]) (rest := []) C G (mX9_isDigit l X σ t x1 v58 ok e_v58) ok.1.2 (gE_9 ok.1.1) rfl (g_goodV u_ml_RX9_134 u_im_yX9_isDigit u_se_yX9_isDigit u_in_RX9 u_co_yX9_isDigit) rfl rfl rfl (by decide +kernel) ⟨Nat.le_of_ble_eq_true rfl, Nat.le_of_ble_eq_true rfl⟩ rfl hl.1 rfl (Nat.le_of_ble_eq_true rfl) dX9_fault_55 ⟨Nat.zero_le _, Nat.zero_le _⟩) G (fun H locs G => ?_)
          refine lv_if_ne (tgt := 63) hx hb dX9_fault_58 (by decide) (fun c59 => ?_) (fun c59 => ?_)
          · have h := g_if h c59
            refine lv_aload_n hx hb dX9_fault_63 rfl (lv_at hl 0 rfl) ?_
            refine gg9_7 C G ok.1 ok.2.1.2.2.2.2.2.1 u_fl_RX9_26 dX9_fault_64 ?_
            refine lv_iload_n hx hb dX9_fault_67 rfl (lv_at hl 2 rfl) ?_
            refine lv_bipush (v := 10) hx hb dX9_fault_68 (by decide) ?_
            refine lv_aload_n hx hb dX9_fault_70 rfl (lv_at hl 0 rfl) ?_
            refine gg9_7 C G ok.1 ok.2.1.2.2.2.2.2.1 u_fl_RX9_26 dX9_fault_71 ?_
            refine lv_iload_n hx hb dX9_fault_74 rfl (lv_at hl 2 rfl) ?_
            obtain ⟨c60, h⟩ := g_chk h
            refine g_iald C G ok.2.2.2.2.2.2.2.1 c60 dX9_fault_75 ?_
            refine lv_imul hx hb dX9_fault_76 ?_
            refine lv_aload_n hx hb dX9_fault_77 rfl (lv_at hl 0 rfl) ?_
            refine gg9_3 C G ok.1 ok.2.1.2.2.1 u_fl_RX9_16 dX9_fault_78 ?_
            refine lv_iload_n hx hb dX9_fault_81 rfl (lv_at hl 1 rfl) ?_
            obtain ⟨c61, h⟩ := g_chk h
            refine g_cald C G ok.2.2.2.2.1 c61 dX9_fault_82 ?_
            refine lv_iadd hx hb dX9_fault_83 ?_
            refine lv_bipush (v := 48) hx hb dX9_fault_84 (by decide) ?_
            refine lv_isub hx hb dX9_fault_86 ?_
            obtain ⟨c62, h⟩ := g_chk h
            obtain ⟨σ63, e_σ63, h⟩ := g_let h
            refine g_iast C G ok.2.2.2.2.2.2.2.1 c62 dX9_fault_87 (fun H locs G => ?_)
            rw [e_σ63] at G
            obtain ⟨w64, e_w64⟩ : ∃ y : Int32, y = x1 + 1 := ⟨_, rfl⟩
            have h := g_let2 e_w64 h
            refine lv_iinc (v := w64) (lv' := [(1, .int w64), (0, .ref (xN X + t)), (2, .int x2), (3, .int x3), (4, .int x4)]) hx hb dX9_fault_88 hl (k := 1) rfl (by rw [e_w64]; rfl) (by decide) rfl (fun ls hl => ?_)
            obtain ⟨w65, e_w65⟩ : ∃ y : Int32, y = x4 + 1 := ⟨_, rfl⟩
            have h := g_let2 e_w65 h
            refine lv_iinc (v := w65) (lv' := [(4, .int w65), (1, .int w64), (0, .ref (xN X + t)), (2, .int x2), (3, .int x3)]) hx hb dX9_fault_91 hl (k := 4) rfl (by rw [e_w65]; rfl) (by decide) rfl (fun ls hl => ?_)
            refine lv_goto (tgt := 43) hx hb dX9_fault_94 (by decide) ?_
            exact ih _ _ _ σ63 w64 x2 x3 w65 G (lv_sub hl [2, 1, 3, 4, 0] rfl) h
          · have h := g_it h c59
            refine lv_iload_n hx hb dX9_fault_61 rfl (lv_at hl 1 rfl) ?_
            exact ret dX9_fault_62 rfl G (Prod.mk.inj (Option.some.inj h))
  have L4 : ∀ (n : Nat) (H : Heap) (locs : List Loc) (ls : Array Slot) (σ : gM) (x1 : Int32) (x2 : Int32), gG X σ s H locs → lv_has ls 5 [(0, .ref (xN X + t)), (1, .int x1), (2, .int x2)] → fX9_fault_4 t n σ x1 x2 = some (r, σ') → W p l ev ({ frames := 2, cells := 0, slots := 0, locals := 43 }) s m args below meth c H locs 0 0 Q (F0 m 4 ls []) := by
    intro n
    induction n with
    | zero =>
      intro H locs ls σ x1 x2 G hl h
      rw [fX9_fault_4] at h
      cases h
    | succ n ih =>
      intro H locs ls σ x1 x2 G hl h
      rw [fX9_fault_4] at h
      refine lv_iload_n hx hb dX9_fault_4 rfl (lv_at hl 2 rfl) ?_
      refine lv_iconst (v := 4) hx hb dX9_fault_5 (by decide) ?_
      refine lv_icmp_ge (tgt := 200) hx hb dX9_fault_6 (by decide) (fun c1 => ?_) (fun c1 => ?_)
      · have h := g_it h c1
        refine lv_aload_n hx hb dX9_fault_200 rfl (lv_at hl 0 rfl) ?_
        refine lv_iload_n hx hb dX9_fault_201 rfl (lv_at hl 1 rfl) ?_
        obtain ⟨v2, e_v2, h⟩ := g_bind h
        refine g_calli (g_runV (n := 1) (As := [.int x1]) (rest := []) C G (mX9_signAt l X σ t x1 v2 ok e_v2) ok.1.2 (gE_9 ok.1.1) rfl (g_goodV u_ml_RX9_131 u_im_yX9_signAt u_se_yX9_signAt u_in_RX9 u_co_yX9_signAt) rfl rfl rfl (by decide +kernel) ⟨Nat.le_of_ble_eq_true rfl, Nat.le_of_ble_eq_true rfl⟩ rfl hl.1 rfl (Nat.le_of_ble_eq_true rfl) dX9_fault_202 ⟨Nat.zero_le _, Nat.zero_le _⟩) G (fun H locs G => ?_)
        refine lv_bipush (v := 48) hx hb dX9_fault_205 (by decide) ?_
        refine lv_bipush (v := 49) hx hb dX9_fault_207 (by decide) ?_
        obtain ⟨v3, e_v3, h⟩ := g_bind h
        refine g_calli (g_runS (n := 3) (As := [.int v2, .int 48, .int 49]) (rest := []) C G (mX9_in l X σ v2 48 49 v3 e_v3) (g_goodS u_ml_RX9_38 u_st_yX9_in u_in_RX9 u_co_yX9_in) rfl rfl rfl (by decide +kernel) ⟨Nat.le_of_ble_eq_true rfl, Nat.le_of_ble_eq_true rfl⟩ rfl hl.1 rfl (Nat.le_of_ble_eq_true rfl) dX9_fault_209 ⟨Nat.zero_le _, Nat.zero_le _⟩) G (fun H locs G => ?_)
        refine lv_if_ne (tgt := 217) hx hb dX9_fault_212 (by decide) (fun c4 => ?_) (fun c4 => ?_)
        · have h := g_if h c4
          refine lv_aload_n hx hb dX9_fault_217 rfl (lv_at hl 0 rfl) ?_
          refine gg9_7 C G ok.1 ok.2.1.2.2.2.2.2.1 u_fl_RX9_26 dX9_fault_218 ?_
          refine lv_bipush (v := 8) hx hb dX9_fault_221 (by decide) ?_
          refine lv_aload_n hx hb dX9_fault_223 rfl (lv_at hl 0 rfl) ?_
          refine gg9_3 C G ok.1 ok.2.1.2.2.1 u_fl_RX9_16 dX9_fault_224 ?_
          refine lv_iload_n hx hb dX9_fault_227 rfl (lv_at hl 1 rfl) ?_
          obtain ⟨c5, h⟩ := g_chk h
          refine g_cald C G ok.2.2.2.2.1 c5 dX9_fault_228 ?_
          refine lv_bipush (v := 48) hx hb dX9_fault_229 (by decide) ?_
          refine lv_isub hx hb dX9_fault_231 ?_
          obtain ⟨c6, h⟩ := g_chk h
          obtain ⟨σ7, e_σ7, h⟩ := g_let h
          refine g_iast C G ok.2.2.2.2.2.2.2.1 c6 dX9_fault_232 (fun H locs G => ?_)
          rw [e_σ7] at G
          obtain ⟨w8, e_w8⟩ : ∃ y : Int32, y = x1 + 1 := ⟨_, rfl⟩
          have h := g_let2 e_w8 h
          refine lv_iinc (v := w8) (lv' := [(1, .int w8), (0, .ref (xN X + t)), (2, .int x2)]) hx hb dX9_fault_233 hl (k := 1) rfl (by rw [e_w8]; rfl) (by decide) rfl (fun ls hl => ?_)
          refine lv_iload_n hx hb dX9_fault_236 rfl (lv_at hl 0 rfl) ?_
          refine lv_aload_n hx hb dX9_fault_237 rfl (lv_at hl 1 rfl) ?_
          refine gg9_4 C G ok.1 u_fl_RX9_105 dX9_fault_238 ?_
          refine lv_icmp_ne (tgt := 250) hx hb dX9_fault_241 (by decide) (fun c9 => ?_) (fun c9 => ?_)
          · have h := g_if h c9
            refine lv_iload_n hx hb dX9_fault_250 rfl (lv_at hl 0 rfl) ?_
            exact ret dX9_fault_251 rfl G (Prod.mk.inj (Option.some.inj h))
          · have h := g_it h c9
            refine lv_sipush (v := (-1004)) hx hb dX9_fault_244 (by decide) ?_
            refine lv_goto (tgt := 251) hx hb dX9_fault_247 (by decide) ?_
            exact ret dX9_fault_251 rfl G (Prod.mk.inj (Option.some.inj h))
        · have h := g_it h c4
          refine lv_iload_n hx hb dX9_fault_215 rfl (lv_at hl 1 rfl) ?_
          exact ret dX9_fault_216 rfl G (Prod.mk.inj (Option.some.inj h))
      · have h := g_if h c1
        refine lv_aload_n hx hb dX9_fault_9 rfl (lv_at hl 0 rfl) ?_
        refine lv_iload_n hx hb dX9_fault_10 rfl (lv_at hl 1 rfl) ?_
        obtain ⟨v10, e_v10, h⟩ := g_bind h
        refine g_calli (g_runV (n := 1) (As := [.int x1]) (rest := []) C G (mX9_signAt l X σ t x1 v10 ok e_v10) ok.1.2 (gE_9 ok.1.1) rfl (g_goodV u_ml_RX9_131 u_im_yX9_signAt u_se_yX9_signAt u_in_RX9 u_co_yX9_signAt) rfl rfl rfl (by decide +kernel) ⟨Nat.le_of_ble_eq_true rfl, Nat.le_of_ble_eq_true rfl⟩ rfl hl.1 rfl (Nat.le_of_ble_eq_true rfl) dX9_fault_11 ⟨Nat.zero_le _, Nat.zero_le _⟩) G (fun H locs G => ?_)
        refine lv_bipush (v := 45) hx hb dX9_fault_14 (by decide) ?_
        refine lv_icmp_ne (tgt := 23) hx hb dX9_fault_16 (by decide) (fun c11 => ?_) (fun c11 => ?_)
        · have h := g_if h c11
          refine lv_iconst (v := 0) hx hb dX9_fault_23 (by decide) ?_
          refine lv_istore_n (lv' := [(3, .int 0), (0, .ref (xN X + t)), (1, .int x1), (2, .int x2)]) hx hb dX9_fault_24 rfl hl (by decide) rfl (fun ls hl => ?_)
          refine lv_aload_n hx hb dX9_fault_25 rfl (lv_at hl 1 rfl) ?_
          refine gg9_7 C G ok.1 ok.2.1.2.2.2.2.2.1 u_fl_RX9_26 dX9_fault_26 ?_
          refine lv_iload_n hx hb dX9_fault_29 rfl (lv_at hl 3 rfl) ?_
          refine lv_iload_n hx hb dX9_fault_30 rfl (lv_at hl 0 rfl) ?_
          refine lv_if_eq (tgt := 38) hx hb dX9_fault_31 (by decide) (fun _ => ?_) (fun c88 => absurd c88 (by decide))
          refine lv_iconst (v := 0) hx hb dX9_fault_38 (by decide) ?_
          obtain ⟨c89, h⟩ := g_chk h
          obtain ⟨σ90, e_σ90, h⟩ := g_let h
          refine g_iast C G ok.2.2.2.2.2.2.2.1 c89 dX9_fault_39 (fun H locs G => ?_)
          rw [e_σ90] at G
          refine lv_iconst (v := 0) hx hb dX9_fault_40 (by decide) ?_
          refine lv_istore (lv' := [(4, .int 0), (3, .int 0), (0, .ref (xN X + t)), (1, .int x1), (2, .int x2)]) hx hb dX9_fault_41 hl (by decide) rfl (fun ls hl => ?_)
          exact L43 (fun σ2 y1 y2 => fX9_fault_4 t n σ2 y1 y2) (fun H locs ls σ2 y1 y2 G hl h => ih H locs ls σ2 y1 y2 G hl h) gF _ _ _ σ90 x1 x2 0 0 G (lv_sub hl [2, 3, 4, 1, 0] rfl) h
        · have h := g_it h c11
          refine lv_iconst (v := 1) hx hb dX9_fault_19 (by decide) ?_
          refine lv_goto (tgt := 24) hx hb dX9_fault_20 (by decide) ?_
          refine lv_istore_n (lv' := [(3, .int 1), (0, .ref (xN X + t)), (1, .int x1), (2, .int x2)]) hx hb dX9_fault_24 rfl hl (by decide) rfl (fun ls hl => ?_)
          refine lv_aload_n hx hb dX9_fault_25 rfl (lv_at hl 1 rfl) ?_
          refine gg9_7 C G ok.1 ok.2.1.2.2.2.2.2.1 u_fl_RX9_26 dX9_fault_26 ?_
          refine lv_iload_n hx hb dX9_fault_29 rfl (lv_at hl 3 rfl) ?_
          refine lv_iload_n hx hb dX9_fault_30 rfl (lv_at hl 0 rfl) ?_
          refine lv_if_eq (tgt := 38) hx hb dX9_fault_31 (by decide) (fun c12 => absurd c12 (by decide)) (fun _ => ?_)
          refine lv_iconst (v := (-1)) hx hb dX9_fault_34 (by decide) ?_
          refine lv_goto (tgt := 39) hx hb dX9_fault_35 (by decide) ?_
          obtain ⟨c13, h⟩ := g_chk h
          obtain ⟨σ14, e_σ14, h⟩ := g_let h
          refine g_iast C G ok.2.2.2.2.2.2.2.1 c13 dX9_fault_39 (fun H locs G => ?_)
          rw [e_σ14] at G
          refine lv_iconst (v := 0) hx hb dX9_fault_40 (by decide) ?_
          refine lv_istore (lv' := [(4, .int 0), (3, .int 1), (0, .ref (xN X + t)), (1, .int x1), (2, .int x2)]) hx hb dX9_fault_41 hl (by decide) rfl (fun ls hl => ?_)
          exact L43 (fun σ2 y1 y2 => fX9_fault_4 t n σ2 y1 y2) (fun H locs ls σ2 y1 y2 G hl h => ih H locs ls σ2 y1 y2 G hl h) gF _ _ _ σ14 x1 x2 1 0 G (lv_sub hl [2, 3, 4, 1, 0] rfl) h
  unfold fX9_fault at h
  refine lv_iconst (v := 0) hx hb dX9_fault_0 (by decide) ?_
  refine lv_istore_n (lv' := [(1, .int 0), (0, .ref (xN X + t))]) hx hb dX9_fault_1 rfl hl (by decide) rfl (fun ls hl => ?_)
  refine lv_iconst (v := 0) hx hb dX9_fault_2 (by decide) ?_
  refine lv_istore_n (lv' := [(2, .int 0), (1, .int 0), (0, .ref (xN X + t))]) hx hb dX9_fault_3 rfl hl (by decide) rfl (fun ls hl => ?_)
  exact L4  gF _ _ _ σ 0 0 G (lv_sub hl [2, 1, 0] rfl) h

def fX9_add (σ : gM) (t : Nat) : Option (Int32 × gM) :=
  ((fX9_fault σ t).bind fun pv1 => gl pv1.1 fun v1 => gl pv1.2 fun σ2 =>
  (if v1 = (-1004) then
    ((fX9_adds σ2 t).bind fun pv4 => gl pv4.1 fun v4 => gl pv4.2 fun σ5 =>
    some (v4, σ5))
  else
    some ((-1002), σ2)))
set_option maxHeartbeats 4000000 in
set_option maxRecDepth 100000 in
theorem mX9_add (l : Launch) (X : gX) (σ σ' : gM) (t : Nat) (r : Int32) (ok : gok9 X t) (h : fX9_add σ t = some (r, σ')) : Met l yX9_add (Cond.code yX9_add cX9_add 1 (some .int) :: gBig) ({ frames := 3, cells := 0, slots := 0, locals := 67 }) (gPc X σ [.ref (xN X + t)]) (gQi X σ' r) 0 0 (xA X) := by
  refine g_meti (cc := cX9_add) (maxL := 1) (own := RX9) (by decide) rfl rfl (Nat.le_of_ble_eq_true rfl) ?_
  intro p ev s m args below meth c Q C G ret ls hl
  obtain ⟨⟨hx, hb, hml, hown, hts⟩, hK⟩ := id C
  have hl : lv_has ls 1 [(0, .ref (xN X + t))] := hl
  unfold fX9_add at h
  refine lv_aload_n hx hb dX9_add_0 rfl (lv_at hl 0 rfl) ?_
  obtain ⟨⟨v1, σ2⟩, e_v1, h⟩ := g_bind h
  have h := g_let2 (v := v1) rfl h
  have h := g_let2 (v := σ2) rfl h
  refine g_calli (g_runV (n := 0) (As := []) (rest := []) C G (mX9_fault l X σ σ2 t v1 ok e_v1) ok.1.2 (gE_9 ok.1.1) rfl (g_goodV u_ml_RX9_83 u_im_yX9_fault u_se_yX9_fault u_in_RX9 u_co_yX9_fault) rfl rfl rfl (by decide +kernel) ⟨Nat.le_of_ble_eq_true rfl, Nat.le_of_ble_eq_true rfl⟩ rfl hl.1 rfl (Nat.le_of_ble_eq_true rfl) dX9_add_1 ⟨Nat.zero_le _, Nat.zero_le _⟩) G (fun H locs G => ?_)
  refine lv_sipush (v := (-1004)) hx hb dX9_add_4 (by decide) ?_
  refine lv_icmp_eq (tgt := 16) hx hb dX9_add_7 (by decide) (fun c3 => ?_) (fun c3 => ?_)
  · have h := g_it h c3
    refine lv_aload_n hx hb dX9_add_16 rfl (lv_at hl 0 rfl) ?_
    obtain ⟨⟨v4, σ5⟩, e_v4, h⟩ := g_bind h
    have h := g_let2 (v := v4) rfl h
    have h := g_let2 (v := σ5) rfl h
    refine g_calli (g_runV (n := 0) (As := []) (rest := []) C G (mX9_adds l X σ2 σ5 t v4 ok e_v4) ok.1.2 (gE_9 ok.1.1) rfl (g_goodV u_ml_RX9_80 u_im_yX9_adds u_se_yX9_adds u_in_RX9 u_co_yX9_adds) rfl rfl rfl (by decide +kernel) ⟨Nat.le_of_ble_eq_true rfl, Nat.le_of_ble_eq_true rfl⟩ rfl hl.1 rfl (Nat.le_of_ble_eq_true rfl) dX9_add_17 ⟨Nat.zero_le _, Nat.zero_le _⟩) G (fun H locs G => ?_)
    exact ret dX9_add_20 rfl G (Prod.mk.inj (Option.some.inj h))
  · have h := g_if h c3
    refine lv_sipush (v := (-1002)) hx hb dX9_add_10 (by decide) ?_
    refine lv_goto (tgt := 20) hx hb dX9_add_13 (by decide) ?_
    exact ret dX9_add_20 rfl G (Prod.mk.inj (Option.some.inj h))

def fX9_removeScrap_108 (K28 : gM → Int32 → Option (Int32 × gM)) (t : Nat) (a1 : Int32) : Nat → gM → Int32 → Int32 → Option (Int32 × gM)
  | 0, _, _, _ => none
  | n + 1, σ, x2, x3 =>
    (if 123 < x3 then
      (gl (x2 + 1) fun w13 =>
      K28 σ w13)
    else
      (if ¬ (((x3 + x2) + 1) < 0 ∨ gln (t + 1) ≤ ((x3 + x2) + 1).toNatClampNeg) then
      (if ¬ ((x3 + x2) < 0 ∨ gln (t + 1) ≤ (x3 + x2).toNatClampNeg) then
      (gl (gset σ (t + 1) (upd (σ (t + 1)) (x3 + x2).toNatClampNeg (σ (t + 1) ((x3 + x2) + 1).toNatClampNeg))) fun σ16 =>
      (gl (x3 + 12) fun w17 =>
      fX9_removeScrap_108 K28 t a1 n σ16 x2 w17))
      else none)
      else none))

def fX9_removeScrap_40 (K28 : gM → Int32 → Option (Int32 × gM)) (t : Nat) (a1 : Int32) : Nat → gM → Int32 → Int32 → Option (Int32 × gM)
  | 0, _, _, _ => none
  | n + 1, σ, x2, x3 =>
    (if 4 ≤ x3 then
      fX9_removeScrap_108 K28 t a1 gF σ x2 99
    else
      (if ¬ ((((3 + (4 * x2)) + 4) + x3) < 0 ∨ gln (t + 1) ≤ (((3 + (4 * x2)) + 4) + x3).toNatClampNeg) then
      (if ¬ (((3 + (4 * x2)) + x3) < 0 ∨ gln (t + 1) ≤ ((3 + (4 * x2)) + x3).toNatClampNeg) then
      (gl (gset σ (t + 1) (upd (σ (t + 1)) ((3 + (4 * x2)) + x3).toNatClampNeg (σ (t + 1) (((3 + (4 * x2)) + 4) + x3).toNatClampNeg))) fun σ20 =>
      (if ¬ ((((51 + (4 * x2)) + 4) + x3) < 0 ∨ gln (t + 1) ≤ (((51 + (4 * x2)) + 4) + x3).toNatClampNeg) then
      (if ¬ (((51 + (4 * x2)) + x3) < 0 ∨ gln (t + 1) ≤ ((51 + (4 * x2)) + x3).toNatClampNeg) then
      (gl (gset σ20 (t + 1) (upd (σ20 (t + 1)) ((51 + (4 * x2)) + x3).toNatClampNeg (σ20 (t + 1) (((51 + (4 * x2)) + 4) + x3).toNatClampNeg))) fun σ23 =>
      (gl (x3 + 1) fun w24 =>
      fX9_removeScrap_40 K28 t a1 n σ23 x2 w24))
      else none)
      else none))
      else none)
      else none))

def fX9_removeScrap_28 (t : Nat) (a1 : Int32) : Nat → gM → Int32 → Option (Int32 × gM)
  | 0, _, _ => none
  | n + 1, σ, x2 =>
    (if ¬ ((2 : Int32) < 0 ∨ gln (t + 1) ≤ (2 : Int32).toNatClampNeg) then
    (if (σ (t + 1) (2 : Int32).toNatClampNeg) ≤ x2 then
      (if ¬ ((2 : Int32) < 0 ∨ gln (t + 1) ≤ (2 : Int32).toNatClampNeg) then
      some ((σ (t + 1) (2 : Int32).toNatClampNeg), σ)
      else none)
    else
      fX9_removeScrap_40 (fun σ2 y2 => fX9_removeScrap_28 t a1 n σ2 y2) t a1 gF σ x2 0)
    else none)

def fX9_removeScrap (σ : gM) (t : Nat) (a1 : Int32) : Option (Int32 × gM) :=
  ((fX9_isScrap σ t a1).bind fun v1 =>
  (if v1 = 0 then
    some ((-1001), σ)
  else
    ((fX9_records σ t).bind fun σ4 =>
    (if ¬ ((2 : Int32) < 0 ∨ gln (t + 1) ≤ (2 : Int32).toNatClampNeg) then
    (if ¬ ((2 : Int32) < 0 ∨ gln (t + 1) ≤ (2 : Int32).toNatClampNeg) then
    (gl (gset σ4 (t + 1) (upd (σ4 (t + 1)) (2 : Int32).toNatClampNeg ((σ4 (t + 1) (2 : Int32).toNatClampNeg) - 1))) fun σ7 =>
    fX9_removeScrap_28 t a1 gF σ7 a1)
    else none)
    else none))))
set_option maxHeartbeats 4000000 in
set_option maxRecDepth 100000 in
theorem mX9_removeScrap (l : Launch) (X : gX) (σ σ' : gM) (t : Nat) (a1 : Int32) (r : Int32) (ok : gok9 X t) (h : fX9_removeScrap σ t a1 = some (r, σ')) : Met l yX9_removeScrap (Cond.code yX9_removeScrap cX9_removeScrap 4 (some .int) :: gBig) ({ frames := 2, cells := 0, slots := 0, locals := 43 }) (gPc X σ [.ref (xN X + t), .int a1]) (gQi X σ' r) 0 0 (xA X) := by
  refine g_meti (cc := cX9_removeScrap) (maxL := 4) (own := RX9) (by decide) rfl rfl (Nat.le_of_ble_eq_true rfl) ?_
  intro p ev s m args below meth c Q C G ret ls hl
  obtain ⟨⟨hx, hb, hml, hown, hts⟩, hK⟩ := id C
  have hl : lv_has ls 4 [(0, .ref (xN X + t)), (1, .int a1)] := hl
  have L108 : ∀ (K28 : gM → Int32 → Option (Int32 × gM)), (∀ (H : Heap) (locs : List Loc) (ls : Array Slot) (σ : gM) (x2 : Int32), gG X σ s H locs → lv_has ls 4 [(0, .ref (xN X + t)), (2, .int x2)] → K28 σ x2 = some (r, σ') → W p l ev ({ frames := 2, cells := 0, slots := 0, locals := 43 }) s m args below meth c H locs 0 0 Q (F0 m 28 ls [])) → ∀ (n : Nat) (H : Heap) (locs : List Loc) (ls : Array Slot) (σ : gM) (x2 : Int32) (x3 : Int32), gG X σ s H locs → lv_has ls 4 [(0, .ref (xN X + t)), (2, .int x2), (3, .int x3)] → fX9_removeScrap_108 K28 t a1 n σ x2 x3 = some (r, σ') → W p l ev ({ frames := 2, cells := 0, slots := 0, locals := 43 }) s m args below meth c H locs 0 0 Q (F0 m 108 ls []) := by
    intro K28 hK28 n
    induction n with
    | zero =>
      intro H locs ls σ x2 x3 G hl h
      rw [fX9_removeScrap_108] at h
      cases h
    | succ n ih =>
      intro H locs ls σ x2 x3 G hl h
      rw [fX9_removeScrap_108] at h
      refine lv_iload_n hx hb dX9_removeScrap_108 rfl (lv_at hl 2 rfl) ?_
      refine lv_bipush (v := 123) hx hb dX9_removeScrap_109 (by decide) ?_
      refine lv_icmp_gt (tgt := 138) hx hb dX9_removeScrap_111 (by decide) (fun c12 => ?_) (fun c12 => ?_)
      · have h := g_it h c12
        obtain ⟨w13, e_w13⟩ : ∃ y : Int32, y = x2 + 1 := ⟨_, rfl⟩
        have h := g_let2 e_w13 h
        refine lv_iinc (v := w13) (lv' := [(2, .int w13), (0, .ref (xN X + t)), (3, .int x3)]) hx hb dX9_removeScrap_138 hl (k := 1) rfl (by rw [e_w13]; rfl) (by decide) rfl (fun ls hl => ?_)
        refine lv_goto (tgt := 28) hx hb dX9_removeScrap_141 (by decide) ?_
        exact hK28 _ _ _ σ w13 G (lv_sub hl [1, 0] rfl) h
      · have h := g_if h c12
        refine lv_aload_n hx hb dX9_removeScrap_114 rfl (lv_at hl 0 rfl) ?_
        refine gg9_0 C G ok.1 ok.2.1.1 u_fl_RX9_7 dX9_removeScrap_115 ?_
        refine lv_iload_n hx hb dX9_removeScrap_118 rfl (lv_at hl 2 rfl) ?_
        refine lv_iload_n hx hb dX9_removeScrap_119 rfl (lv_at hl 1 rfl) ?_
        refine lv_iadd hx hb dX9_removeScrap_120 ?_
        refine lv_aload_n hx hb dX9_removeScrap_121 rfl (lv_at hl 0 rfl) ?_
        refine gg9_0 C G ok.1 ok.2.1.1 u_fl_RX9_7 dX9_removeScrap_122 ?_
        refine lv_iload_n hx hb dX9_removeScrap_125 rfl (lv_at hl 2 rfl) ?_
        refine lv_iload_n hx hb dX9_removeScrap_126 rfl (lv_at hl 1 rfl) ?_
        refine lv_iadd hx hb dX9_removeScrap_127 ?_
        refine lv_iconst (v := 1) hx hb dX9_removeScrap_128 (by decide) ?_
        refine lv_iadd hx hb dX9_removeScrap_129 ?_
        obtain ⟨c14, h⟩ := g_chk h
        refine g_iald C G ok.2.2.1 c14 dX9_removeScrap_130 ?_
        obtain ⟨c15, h⟩ := g_chk h
        obtain ⟨σ16, e_σ16, h⟩ := g_let h
        refine g_iast C G ok.2.2.1 c15 dX9_removeScrap_131 (fun H locs G => ?_)
        rw [e_σ16] at G
        obtain ⟨w17, e_w17⟩ : ∃ y : Int32, y = x3 + 12 := ⟨_, rfl⟩
        have h := g_let2 e_w17 h
        refine lv_iinc (v := w17) (lv' := [(3, .int w17), (0, .ref (xN X + t)), (2, .int x2)]) hx hb dX9_removeScrap_132 hl (k := 2) rfl (by rw [e_w17]; rfl) (by decide) rfl (fun ls hl => ?_)
        refine lv_goto (tgt := 108) hx hb dX9_removeScrap_135 (by decide) ?_
        exact ih _ _ _ σ16 x2 w17 G (lv_sub hl [1, 2, 0] rfl) h
  have L40 : ∀ (K28 : gM → Int32 → Option (Int32 × gM)), (∀ (H : Heap) (locs : List Loc) (ls : Array Slot) (σ : gM) (x2 : Int32), gG X σ s H locs → lv_has ls 4 [(0, .ref (xN X + t)), (2, .int x2)] → K28 σ x2 = some (r, σ') → W p l ev ({ frames := 2, cells := 0, slots := 0, locals := 43 }) s m args below meth c H locs 0 0 Q (F0 m 28 ls [])) → ∀ (n : Nat) (H : Heap) (locs : List Loc) (ls : Array Slot) (σ : gM) (x2 : Int32) (x3 : Int32), gG X σ s H locs → lv_has ls 4 [(0, .ref (xN X + t)), (2, .int x2), (3, .int x3)] → fX9_removeScrap_40 K28 t a1 n σ x2 x3 = some (r, σ') → W p l ev ({ frames := 2, cells := 0, slots := 0, locals := 43 }) s m args below meth c H locs 0 0 Q (F0 m 40 ls []) := by
    intro K28 hK28 n
    induction n with
    | zero =>
      intro H locs ls σ x2 x3 G hl h
      rw [fX9_removeScrap_40] at h
      cases h
    | succ n ih =>
      intro H locs ls σ x2 x3 G hl h
      rw [fX9_removeScrap_40] at h
      refine lv_iload_n hx hb dX9_removeScrap_40 rfl (lv_at hl 2 rfl) ?_
      refine lv_iconst (v := 4) hx hb dX9_removeScrap_41 (by decide) ?_
      refine lv_icmp_ge (tgt := 105) hx hb dX9_removeScrap_42 (by decide) (fun c11 => ?_) (fun c11 => ?_)
      · have h := g_it h c11
        refine lv_bipush (v := 99) hx hb dX9_removeScrap_105 (by decide) ?_
        refine lv_istore_n (lv' := [(3, .int 99), (0, .ref (xN X + t)), (2, .int x2)]) hx hb dX9_removeScrap_107 rfl hl (by decide) rfl (fun ls hl => ?_)
        exact L108 K28 hK28 gF _ _ _ σ x2 99 G (lv_sub hl [1, 2, 0] rfl) h
      · have h := g_if h c11
        refine lv_aload_n hx hb dX9_removeScrap_45 rfl (lv_at hl 0 rfl) ?_
        refine gg9_0 C G ok.1 ok.2.1.1 u_fl_RX9_7 dX9_removeScrap_46 ?_
        refine lv_iconst (v := 3) hx hb dX9_removeScrap_49 (by decide) ?_
        refine lv_iconst (v := 4) hx hb dX9_removeScrap_50 (by decide) ?_
        refine lv_iload_n hx hb dX9_removeScrap_51 rfl (lv_at hl 1 rfl) ?_
        refine lv_imul hx hb dX9_removeScrap_52 ?_
        refine lv_iadd hx hb dX9_removeScrap_53 ?_
        refine lv_iload_n hx hb dX9_removeScrap_54 rfl (lv_at hl 2 rfl) ?_
        refine lv_iadd hx hb dX9_removeScrap_55 ?_
        refine lv_aload_n hx hb dX9_removeScrap_56 rfl (lv_at hl 0 rfl) ?_
        refine gg9_0 C G ok.1 ok.2.1.1 u_fl_RX9_7 dX9_removeScrap_57 ?_
        refine lv_iconst (v := 3) hx hb dX9_removeScrap_60 (by decide) ?_
        refine lv_iconst (v := 4) hx hb dX9_removeScrap_61 (by decide) ?_
        refine lv_iload_n hx hb dX9_removeScrap_62 rfl (lv_at hl 1 rfl) ?_
        refine lv_imul hx hb dX9_removeScrap_63 ?_
        refine lv_iadd hx hb dX9_removeScrap_64 ?_
        refine lv_iconst (v := 4) hx hb dX9_removeScrap_65 (by decide) ?_
        refine lv_iadd hx hb dX9_removeScrap_66 ?_
        refine lv_iload_n hx hb dX9_removeScrap_67 rfl (lv_at hl 2 rfl) ?_
        refine lv_iadd hx hb dX9_removeScrap_68 ?_
        obtain ⟨c18, h⟩ := g_chk h
        refine g_iald C G ok.2.2.1 c18 dX9_removeScrap_69 ?_
        obtain ⟨c19, h⟩ := g_chk h
        obtain ⟨σ20, e_σ20, h⟩ := g_let h
        refine g_iast C G ok.2.2.1 c19 dX9_removeScrap_70 (fun H locs G => ?_)
        rw [e_σ20] at G
        refine lv_aload_n hx hb dX9_removeScrap_71 rfl (lv_at hl 0 rfl) ?_
        refine gg9_0 C G ok.1 ok.2.1.1 u_fl_RX9_7 dX9_removeScrap_72 ?_
        refine lv_bipush (v := 51) hx hb dX9_removeScrap_75 (by decide) ?_
        refine lv_iconst (v := 4) hx hb dX9_removeScrap_77 (by decide) ?_
        refine lv_iload_n hx hb dX9_removeScrap_78 rfl (lv_at hl 1 rfl) ?_
        refine lv_imul hx hb dX9_removeScrap_79 ?_
        refine lv_iadd hx hb dX9_removeScrap_80 ?_
        refine lv_iload_n hx hb dX9_removeScrap_81 rfl (lv_at hl 2 rfl) ?_
        refine lv_iadd hx hb dX9_removeScrap_82 ?_
        refine lv_aload_n hx hb dX9_removeScrap_83 rfl (lv_at hl 0 rfl) ?_
        refine gg9_0 C G ok.1 ok.2.1.1 u_fl_RX9_7 dX9_removeScrap_84 ?_
        refine lv_bipush (v := 51) hx hb dX9_removeScrap_87 (by decide) ?_
        refine lv_iconst (v := 4) hx hb dX9_removeScrap_89 (by decide) ?_
        refine lv_iload_n hx hb dX9_removeScrap_90 rfl (lv_at hl 1 rfl) ?_
        refine lv_imul hx hb dX9_removeScrap_91 ?_
        refine lv_iadd hx hb dX9_removeScrap_92 ?_
        refine lv_iconst (v := 4) hx hb dX9_removeScrap_93 (by decide) ?_
        refine lv_iadd hx hb dX9_removeScrap_94 ?_
        refine lv_iload_n hx hb dX9_removeScrap_95 rfl (lv_at hl 2 rfl) ?_
        refine lv_iadd hx hb dX9_removeScrap_96 ?_
        obtain ⟨c21, h⟩ := g_chk h
        refine g_iald C G ok.2.2.1 c21 dX9_removeScrap_97 ?_
        obtain ⟨c22, h⟩ := g_chk h
        obtain ⟨σ23, e_σ23, h⟩ := g_let h
        refine g_iast C G ok.2.2.1 c22 dX9_removeScrap_98 (fun H locs G => ?_)
        rw [e_σ23] at G
        obtain ⟨w24, e_w24⟩ : ∃ y : Int32, y = x3 + 1 := ⟨_, rfl⟩
        have h := g_let2 e_w24 h
        refine lv_iinc (v := w24) (lv' := [(3, .int w24), (0, .ref (xN X + t)), (2, .int x2)]) hx hb dX9_removeScrap_99 hl (k := 2) rfl (by rw [e_w24]; rfl) (by decide) rfl (fun ls hl => ?_)
        refine lv_goto (tgt := 40) hx hb dX9_removeScrap_102 (by decide) ?_
        exact ih _ _ _ σ23 x2 w24 G (lv_sub hl [1, 2, 0] rfl) h
  have L28 : ∀ (n : Nat) (H : Heap) (locs : List Loc) (ls : Array Slot) (σ : gM) (x2 : Int32), gG X σ s H locs → lv_has ls 4 [(0, .ref (xN X + t)), (2, .int x2)] → fX9_removeScrap_28 t a1 n σ x2 = some (r, σ') → W p l ev ({ frames := 2, cells := 0, slots := 0, locals := 43 }) s m args below meth c H locs 0 0 Q (F0 m 28 ls []) := by
    intro n
    induction n with
    | zero =>
      intro H locs ls σ x2 G hl h
      rw [fX9_removeScrap_28] at h
      cases h
    | succ n ih =>
      intro H locs ls σ x2 G hl h
      rw [fX9_removeScrap_28] at h
      refine lv_iload_n hx hb dX9_removeScrap_28 rfl (lv_at hl 1 rfl) ?_
      refine lv_aload_n hx hb dX9_removeScrap_29 rfl (lv_at hl 0 rfl) ?_
      refine gg9_0 C G ok.1 ok.2.1.1 u_fl_RX9_7 dX9_removeScrap_30 ?_
      refine lv_iconst (v := 2) hx hb dX9_removeScrap_33 (by decide) ?_
      obtain ⟨c8, h⟩ := g_chk h
      refine g_iald C G ok.2.2.1 c8 dX9_removeScrap_34 ?_
      refine lv_icmp_ge (tgt := 144) hx hb dX9_removeScrap_35 (by decide) (fun c9 => ?_) (fun c9 => ?_)
      · have h := g_it h c9
        refine lv_aload_n hx hb dX9_removeScrap_144 rfl (lv_at hl 0 rfl) ?_
        refine gg9_0 C G ok.1 ok.2.1.1 u_fl_RX9_7 dX9_removeScrap_145 ?_
        refine lv_iconst (v := 2) hx hb dX9_removeScrap_148 (by decide) ?_
        obtain ⟨c10, h⟩ := g_chk h
        refine g_iald C G ok.2.2.1 c10 dX9_removeScrap_149 ?_
        exact ret dX9_removeScrap_150 rfl G (Prod.mk.inj (Option.some.inj h))
      · have h := g_if h c9
        refine lv_iconst (v := 0) hx hb dX9_removeScrap_38 (by decide) ?_
        refine lv_istore_n (lv' := [(3, .int 0), (0, .ref (xN X + t)), (2, .int x2)]) hx hb dX9_removeScrap_39 rfl hl (by decide) rfl (fun ls hl => ?_)
        exact L40 (fun σ2 y2 => fX9_removeScrap_28 t a1 n σ2 y2) (fun H locs ls σ2 y2 G hl h => ih H locs ls σ2 y2 G hl h) gF _ _ _ σ x2 0 G (lv_sub hl [1, 2, 0] rfl) h
  unfold fX9_removeScrap at h
  refine lv_aload_n hx hb dX9_removeScrap_0 rfl (lv_at hl 0 rfl) ?_
  refine lv_iload_n hx hb dX9_removeScrap_1 rfl (lv_at hl 1 rfl) ?_
  obtain ⟨v1, e_v1, h⟩ := g_bind h
  refine g_calli (g_runV (n := 1) (As := [.int a1]) (rest := []) C G (mX9_isScrap l X σ t a1 v1 ok e_v1) ok.1.2 (gE_9 ok.1.1) rfl (g_goodV u_ml_RX9_86 u_im_yX9_isScrap u_se_yX9_isScrap u_in_RX9 u_co_yX9_isScrap) rfl rfl rfl (by decide +kernel) ⟨Nat.le_of_ble_eq_true rfl, Nat.le_of_ble_eq_true rfl⟩ rfl hl.1 rfl (Nat.le_of_ble_eq_true rfl) dX9_removeScrap_2 ⟨Nat.zero_le _, Nat.zero_le _⟩) G (fun H locs G => ?_)
  refine lv_if_ne (tgt := 12) hx hb dX9_removeScrap_5 (by decide) (fun c2 => ?_) (fun c2 => ?_)
  · have h := g_if h c2
    refine lv_aload_n hx hb dX9_removeScrap_12 rfl (lv_at hl 0 rfl) ?_
    obtain ⟨σ4, e_σ4, h⟩ := g_bind h
    refine g_callv (g_runV (n := 0) (As := []) (rest := []) C G (mX9_records l X σ σ4 t ok e_σ4) ok.1.2 (gE_9 ok.1.1) rfl (g_goodV u_ml_RX9_73 u_im_yX9_records u_se_yX9_records u_in_RX9 u_co_yX9_records) rfl rfl rfl (by decide +kernel) ⟨Nat.le_of_ble_eq_true rfl, Nat.le_of_ble_eq_true rfl⟩ rfl hl.1 rfl (Nat.le_of_ble_eq_true rfl) dX9_removeScrap_13 ⟨Nat.zero_le _, Nat.zero_le _⟩) G (fun H locs G => ?_)
    refine lv_aload_n hx hb dX9_removeScrap_16 rfl (lv_at hl 0 rfl) ?_
    refine gg9_0 C G ok.1 ok.2.1.1 u_fl_RX9_7 dX9_removeScrap_17 ?_
    refine lv_iconst (v := 2) hx hb dX9_removeScrap_20 (by decide) ?_
    refine lv_dup2_11 hx hb dX9_removeScrap_21 rfl rfl ?_
    obtain ⟨c5, h⟩ := g_chk h
    refine g_iald C G ok.2.2.1 c5 dX9_removeScrap_22 ?_
    refine lv_iconst (v := 1) hx hb dX9_removeScrap_23 (by decide) ?_
    refine lv_isub hx hb dX9_removeScrap_24 ?_
    obtain ⟨c6, h⟩ := g_chk h
    obtain ⟨σ7, e_σ7, h⟩ := g_let h
    refine g_iast C G ok.2.2.1 c6 dX9_removeScrap_25 (fun H locs G => ?_)
    rw [e_σ7] at G
    refine lv_iload_n hx hb dX9_removeScrap_26 rfl (lv_at hl 1 rfl) ?_
    refine lv_istore_n (lv' := [(2, .int a1), (0, .ref (xN X + t)), (1, .int a1)]) hx hb dX9_removeScrap_27 rfl hl (by decide) rfl (fun ls hl => ?_)
    exact L28  gF _ _ _ σ7 a1 G (lv_sub hl [1, 0] rfl) h
  · have h := g_it h c2
    refine lv_sipush (v := (-1001)) hx hb dX9_removeScrap_8 (by decide) ?_
    exact ret dX9_removeScrap_11 rfl G (Prod.mk.inj (Option.some.inj h))

def fX9_spreads_22 (K2 : gM → Int32 → Option (gM)) (K10 : gM → Int32 → Int32 → Option (gM)) (t : Nat) : Nat → gM → Int32 → Int32 → Int32 → Option (gM)
  | 0, _, _, _, _ => none
  | n + 1, σ, x1, x2, x3 =>
    (if 4 ≤ x3 then
      (gl (x2 + 1) fun w5 =>
      K10 σ x1 w5)
    else
      (if ¬ (x2 < 0 ∨ gln (t + 7) ≤ x2.toNatClampNeg) then
      (if (σ (t + 7) x2.toNatClampNeg) = (σ t 9) then
        (if ¬ ((123 + x2) < 0 ∨ gln (t + 1) ≤ (123 + x2).toNatClampNeg) then
        ((fX9_behind σ t (σ (t + 1) (123 + x2).toNatClampNeg) x3).bind fun v9 =>
        (if v9 = (-1) then
          (gl (x3 + 1) fun w12 =>
          fX9_spreads_22 K2 K10 t n σ x1 x2 w12)
        else
          ((fX9_scrapAt σ t v9).bind fun v13 =>
          (if v13 = (-1) then
            (gl (x3 + 1) fun w15 =>
            fX9_spreads_22 K2 K10 t n σ x1 x2 w15)
          else
            (if ¬ (v13 < 0 ∨ gln (t + 7) ≤ v13.toNatClampNeg) then
            (if (σ (t + 7) v13.toNatClampNeg) = (-1) then
              (if ¬ ((123 + x2) < 0 ∨ gln (t + 1) ≤ (123 + x2).toNatClampNeg) then
              (if ¬ ((111 + x2) < 0 ∨ gln (t + 1) ≤ (111 + x2).toNatClampNeg) then
              ((fX9_reasonOf σ t x2 (σ (t + 1) (123 + x2).toNatClampNeg) (σ (t + 1) (111 + x2).toNatClampNeg) x3).bind fun pv20 => gl pv20.1 fun v20 => gl pv20.2 fun σ21 =>
              (if v20 = 0 then
                (if ¬ (v13 < 0 ∨ gln (t + 7) ≤ v13.toNatClampNeg) then
                (gl (gset σ21 (t + 7) (upd (σ21 (t + 7)) v13.toNatClampNeg (σ21 t 9))) fun σ24 =>
                (gl (x3 + 1) fun w25 =>
                fX9_spreads_22 K2 K10 t n σ24 1 x2 w25))
                else none)
              else
                (gl (x3 + 1) fun w26 =>
                fX9_spreads_22 K2 K10 t n σ21 x1 x2 w26)))
              else none)
              else none)
            else
              (gl (x3 + 1) fun w27 =>
              fX9_spreads_22 K2 K10 t n σ x1 x2 w27))
            else none)))))
        else none)
      else
        (gl (x2 + 1) fun w28 =>
        K10 σ x1 w28))
      else none))

def fX9_spreads_10 (K2 : gM → Int32 → Option (gM)) (t : Nat) : Nat → gM → Int32 → Int32 → Option (gM)
  | 0, _, _, _ => none
  | n + 1, σ, x1, x2 =>
    (if ¬ ((2 : Int32) < 0 ∨ gln (t + 1) ≤ (2 : Int32).toNatClampNeg) then
    (if (σ (t + 1) (2 : Int32).toNatClampNeg) ≤ x2 then
      K2 σ x1
    else
      fX9_spreads_22 K2 (fun σ2 y1 y2 => fX9_spreads_10 K2 t n σ2 y1 y2) t gF σ x1 x2 0)
    else none)

def fX9_spreads_2 (t : Nat) : Nat → gM → Int32 → Option (gM)
  | 0, _, _ => none
  | n + 1, σ, x1 =>
    (if x1 = 0 then
      some σ
    else
      fX9_spreads_10 (fun σ2 y1 => fX9_spreads_2 t n σ2 y1) t gF σ 0 0)

def fX9_spreads (σ : gM) (t : Nat) : Option (gM) :=
  fX9_spreads_2 t gF σ 1
set_option maxHeartbeats 4000000 in
set_option maxRecDepth 100000 in
theorem mX9_spreads (l : Launch) (X : gX) (σ σ' : gM) (t : Nat) (ok : gok9 X t) (h : fX9_spreads σ t = some σ') : Met l yX9_spreads (Cond.code yX9_spreads cX9_spreads 6 none :: gBig) ({ frames := 4, cells := 0, slots := 0, locals := 99 }) (gPc X σ [.ref (xN X + t)]) (gQv X σ') 0 0 (xA X) := by
  refine g_metv (cc := cX9_spreads) (maxL := 6) (own := RX9) (by decide) rfl rfl (Nat.le_of_ble_eq_true rfl) ?_
  intro p ev s m args below meth c Q C G ret ls hl
  obtain ⟨⟨hx, hb, hml, hown, hts⟩, hK⟩ := id C
  have hl : lv_has ls 6 [(0, .ref (xN X + t))] := hl
  have L22 : ∀ (K2 : gM → Int32 → Option (gM)), (∀ (H : Heap) (locs : List Loc) (ls : Array Slot) (σ : gM) (x1 : Int32), gG X σ s H locs → lv_has ls 6 [(0, .ref (xN X + t)), (1, .int x1)] → K2 σ x1 = some σ' → W p l ev ({ frames := 4, cells := 0, slots := 0, locals := 99 }) s m args below meth c H locs 0 0 Q (F0 m 2 ls [])) → ∀ (K10 : gM → Int32 → Int32 → Option (gM)), (∀ (H : Heap) (locs : List Loc) (ls : Array Slot) (σ : gM) (x1 : Int32) (x2 : Int32), gG X σ s H locs → lv_has ls 6 [(0, .ref (xN X + t)), (1, .int x1), (2, .int x2)] → K10 σ x1 x2 = some σ' → W p l ev ({ frames := 4, cells := 0, slots := 0, locals := 99 }) s m args below meth c H locs 0 0 Q (F0 m 10 ls [])) → ∀ (n : Nat) (H : Heap) (locs : List Loc) (ls : Array Slot) (σ : gM) (x1 : Int32) (x2 : Int32) (x3 : Int32), gG X σ s H locs → lv_has ls 6 [(0, .ref (xN X + t)), (1, .int x1), (2, .int x2), (3, .int x3)] → fX9_spreads_22 K2 K10 t n σ x1 x2 x3 = some σ' → W p l ev ({ frames := 4, cells := 0, slots := 0, locals := 99 }) s m args below meth c H locs 0 0 Q (F0 m 22 ls []) := by
    intro K2 hK2 K10 hK10 n
    induction n with
    | zero =>
      intro H locs ls σ x1 x2 x3 G hl h
      rw [fX9_spreads_22] at h
      cases h
    | succ n ih =>
      intro H locs ls σ x1 x2 x3 G hl h
      rw [fX9_spreads_22] at h
      refine lv_iload_n hx hb dX9_spreads_22 rfl (lv_at hl 3 rfl) ?_
      refine lv_iconst (v := 4) hx hb dX9_spreads_23 (by decide) ?_
      refine lv_icmp_ge (tgt := 137) hx hb dX9_spreads_24 (by decide) (fun c4 => ?_) (fun c4 => ?_)
      · have h := g_it h c4
        obtain ⟨w5, e_w5⟩ : ∃ y : Int32, y = x2 + 1 := ⟨_, rfl⟩
        have h := g_let2 e_w5 h
        refine lv_iinc (v := w5) (lv' := [(2, .int w5), (0, .ref (xN X + t)), (1, .int x1), (3, .int x3)]) hx hb dX9_spreads_137 hl (k := 2) rfl (by rw [e_w5]; rfl) (by decide) rfl (fun ls hl => ?_)
        refine lv_goto (tgt := 10) hx hb dX9_spreads_140 (by decide) ?_
        exact hK10 _ _ _ σ x1 w5 G (lv_sub hl [1, 2, 0] rfl) h
      · have h := g_if h c4
        refine lv_aload_n hx hb dX9_spreads_27 rfl (lv_at hl 0 rfl) ?_
        refine gg9_8 C G ok.1 ok.2.1.2.2.2.2.2.2.1 u_fl_RX9_29 dX9_spreads_28 ?_
        refine lv_iload_n hx hb dX9_spreads_31 rfl (lv_at hl 2 rfl) ?_
        obtain ⟨c6, h⟩ := g_chk h
        refine g_iald C G ok.2.2.2.2.2.2.2.2.1 c6 dX9_spreads_32 ?_
        refine lv_aload_n hx hb dX9_spreads_33 rfl (lv_at hl 0 rfl) ?_
        refine gg9_9 C G ok.1 u_fl_RX9_99 dX9_spreads_34 ?_
        refine lv_icmp_ne (tgt := 137) hx hb dX9_spreads_37 (by decide) (fun c7 => ?_) (fun c7 => ?_)
        · have h := g_if h c7
          obtain ⟨w28, e_w28⟩ : ∃ y : Int32, y = x2 + 1 := ⟨_, rfl⟩
          have h := g_let2 e_w28 h
          refine lv_iinc (v := w28) (lv' := [(2, .int w28), (0, .ref (xN X + t)), (1, .int x1), (3, .int x3)]) hx hb dX9_spreads_137 hl (k := 2) rfl (by rw [e_w28]; rfl) (by decide) rfl (fun ls hl => ?_)
          refine lv_goto (tgt := 10) hx hb dX9_spreads_140 (by decide) ?_
          exact hK10 _ _ _ σ x1 w28 G (lv_sub hl [1, 2, 0] rfl) h
        · have h := g_it h c7
          refine lv_aload_n hx hb dX9_spreads_40 rfl (lv_at hl 0 rfl) ?_
          refine lv_aload_n hx hb dX9_spreads_41 rfl (lv_at hl 0 rfl) ?_
          refine gg9_0 C G ok.1 ok.2.1.1 u_fl_RX9_7 dX9_spreads_42 ?_
          refine lv_bipush (v := 123) hx hb dX9_spreads_45 (by decide) ?_
          refine lv_iload_n hx hb dX9_spreads_47 rfl (lv_at hl 2 rfl) ?_
          refine lv_iadd hx hb dX9_spreads_48 ?_
          obtain ⟨c8, h⟩ := g_chk h
          refine g_iald C G ok.2.2.1 c8 dX9_spreads_49 ?_
          refine lv_iload_n hx hb dX9_spreads_50 rfl (lv_at hl 3 rfl) ?_
          obtain ⟨v9, e_v9, h⟩ := g_bind h
          refine g_calli (g_runV (n := 2) (As := [.int (σ (t + 1) (123 + x2).toNatClampNeg), .int x3]) (rest := []) C G (mX9_behind l X σ t (σ (t + 1) (123 + x2).toNatClampNeg) x3 v9 ok e_v9) ok.1.2 (gE_9 ok.1.1) rfl (g_goodV u_ml_RX9_62 u_im_yX9_behind u_se_yX9_behind u_in_RX9 u_co_yX9_behind) rfl rfl rfl (by decide +kernel) ⟨Nat.le_of_ble_eq_true rfl, Nat.le_of_ble_eq_true rfl⟩ rfl hl.1 rfl (Nat.le_of_ble_eq_true rfl) dX9_spreads_51 ⟨Nat.zero_le _, Nat.zero_le _⟩) G (fun H locs G => ?_)
          refine lv_istore (lv' := [(4, .int v9), (0, .ref (xN X + t)), (1, .int x1), (2, .int x2), (3, .int x3)]) hx hb dX9_spreads_54 hl (by decide) rfl (fun ls hl => ?_)
          refine lv_iload hx hb dX9_spreads_56 (lv_at hl 0 rfl) ?_
          refine lv_iconst (v := (-1)) hx hb dX9_spreads_58 (by decide) ?_
          refine lv_icmp_ne (tgt := 66) hx hb dX9_spreads_59 (by decide) (fun c10 => ?_) (fun c10 => ?_)
          · have h := g_if h c10
            refine lv_aload_n hx hb dX9_spreads_66 rfl (lv_at hl 1 rfl) ?_
            refine lv_iload hx hb dX9_spreads_67 (lv_at hl 0 rfl) ?_
            obtain ⟨v13, e_v13, h⟩ := g_bind h
            refine g_calli (g_runV (n := 1) (As := [.int v9]) (rest := []) C G (mX9_scrapAt l X σ t v9 v13 ok e_v13) ok.1.2 (gE_9 ok.1.1) rfl (g_goodV u_ml_RX9_66 u_im_yX9_scrapAt u_se_yX9_scrapAt u_in_RX9 u_co_yX9_scrapAt) rfl rfl rfl (by decide +kernel) ⟨Nat.le_of_ble_eq_true rfl, Nat.le_of_ble_eq_true rfl⟩ rfl hl.1 rfl (Nat.le_of_ble_eq_true rfl) dX9_spreads_69 ⟨Nat.zero_le _, Nat.zero_le _⟩) G (fun H locs G => ?_)
            refine lv_istore (lv' := [(5, .int v13), (4, .int v9), (0, .ref (xN X + t)), (1, .int x1), (2, .int x2), (3, .int x3)]) hx hb dX9_spreads_72 hl (by decide) rfl (fun ls hl => ?_)
            refine lv_iload hx hb dX9_spreads_74 (lv_at hl 0 rfl) ?_
            refine lv_iconst (v := (-1)) hx hb dX9_spreads_76 (by decide) ?_
            refine lv_icmp_eq (tgt := 131) hx hb dX9_spreads_77 (by decide) (fun c14 => ?_) (fun c14 => ?_)
            · have h := g_it h c14
              obtain ⟨w15, e_w15⟩ : ∃ y : Int32, y = x3 + 1 := ⟨_, rfl⟩
              have h := g_let2 e_w15 h
              refine lv_iinc (v := w15) (lv' := [(3, .int w15), (5, .int v13), (4, .int v9), (0, .ref (xN X + t)), (1, .int x1), (2, .int x2)]) hx hb dX9_spreads_131 hl (k := 5) rfl (by rw [e_w15]; rfl) (by decide) rfl (fun ls hl => ?_)
              refine lv_goto (tgt := 22) hx hb dX9_spreads_134 (by decide) ?_
              exact ih _ _ _ σ x1 x2 w15 G (lv_sub hl [3, 4, 5, 0] rfl) h
            · have h := g_if h c14
              refine lv_aload_n hx hb dX9_spreads_80 rfl (lv_at hl 2 rfl) ?_
              refine gg9_8 C G ok.1 ok.2.1.2.2.2.2.2.2.1 u_fl_RX9_29 dX9_spreads_81 ?_
              refine lv_iload hx hb dX9_spreads_84 (lv_at hl 0 rfl) ?_
              obtain ⟨c16, h⟩ := g_chk h
              refine g_iald C G ok.2.2.2.2.2.2.2.2.1 c16 dX9_spreads_86 ?_
              refine lv_iconst (v := (-1)) hx hb dX9_spreads_87 (by decide) ?_
              refine lv_icmp_ne (tgt := 131) hx hb dX9_spreads_88 (by decide) (fun c17 => ?_) (fun c17 => ?_)
              · have h := g_if h c17
                obtain ⟨w27, e_w27⟩ : ∃ y : Int32, y = x3 + 1 := ⟨_, rfl⟩
                have h := g_let2 e_w27 h
                refine lv_iinc (v := w27) (lv' := [(3, .int w27), (5, .int v13), (4, .int v9), (0, .ref (xN X + t)), (1, .int x1), (2, .int x2)]) hx hb dX9_spreads_131 hl (k := 5) rfl (by rw [e_w27]; rfl) (by decide) rfl (fun ls hl => ?_)
                refine lv_goto (tgt := 22) hx hb dX9_spreads_134 (by decide) ?_
                exact ih _ _ _ σ x1 x2 w27 G (lv_sub hl [3, 4, 5, 0] rfl) h
              · have h := g_it h c17
                refine lv_aload_n hx hb dX9_spreads_91 rfl (lv_at hl 2 rfl) ?_
                refine lv_iload_n hx hb dX9_spreads_92 rfl (lv_at hl 4 rfl) ?_
                refine lv_aload_n hx hb dX9_spreads_93 rfl (lv_at hl 2 rfl) ?_
                refine gg9_0 C G ok.1 ok.2.1.1 u_fl_RX9_7 dX9_spreads_94 ?_
                refine lv_bipush (v := 123) hx hb dX9_spreads_97 (by decide) ?_
                refine lv_iload_n hx hb dX9_spreads_99 rfl (lv_at hl 4 rfl) ?_
                refine lv_iadd hx hb dX9_spreads_100 ?_
                obtain ⟨c18, h⟩ := g_chk h
                refine g_iald C G ok.2.2.1 c18 dX9_spreads_101 ?_
                refine lv_aload_n hx hb dX9_spreads_102 rfl (lv_at hl 2 rfl) ?_
                refine gg9_0 C G ok.1 ok.2.1.1 u_fl_RX9_7 dX9_spreads_103 ?_
                refine lv_bipush (v := 111) hx hb dX9_spreads_106 (by decide) ?_
                refine lv_iload_n hx hb dX9_spreads_108 rfl (lv_at hl 4 rfl) ?_
                refine lv_iadd hx hb dX9_spreads_109 ?_
                obtain ⟨c19, h⟩ := g_chk h
                refine g_iald C G ok.2.2.1 c19 dX9_spreads_110 ?_
                refine lv_iload_n hx hb dX9_spreads_111 rfl (lv_at hl 5 rfl) ?_
                obtain ⟨⟨v20, σ21⟩, e_v20, h⟩ := g_bind h
                have h := g_let2 (v := v20) rfl h
                have h := g_let2 (v := σ21) rfl h
                refine g_calli (g_runV (n := 4) (As := [.int x2, .int (σ (t + 1) (123 + x2).toNatClampNeg), .int (σ (t + 1) (111 + x2).toNatClampNeg), .int x3]) (rest := []) C G (mX9_reasonOf l X σ σ21 t x2 (σ (t + 1) (123 + x2).toNatClampNeg) (σ (t + 1) (111 + x2).toNatClampNeg) x3 v20 ok e_v20) ok.1.2 (gE_9 ok.1.1) rfl (g_goodV u_ml_RX9_69 u_im_yX9_reasonOf u_se_yX9_reasonOf u_in_RX9 u_co_yX9_reasonOf) rfl rfl rfl (by decide +kernel) ⟨Nat.le_of_ble_eq_true rfl, Nat.le_of_ble_eq_true rfl⟩ rfl hl.1 rfl (Nat.le_of_ble_eq_true rfl) dX9_spreads_112 ⟨Nat.zero_le _, Nat.zero_le _⟩) G (fun H locs G => ?_)
                refine lv_if_ne (tgt := 131) hx hb dX9_spreads_115 (by decide) (fun c22 => ?_) (fun c22 => ?_)
                · have h := g_if h c22
                  obtain ⟨w26, e_w26⟩ : ∃ y : Int32, y = x3 + 1 := ⟨_, rfl⟩
                  have h := g_let2 e_w26 h
                  refine lv_iinc (v := w26) (lv' := [(3, .int w26), (5, .int v13), (4, .int v9), (0, .ref (xN X + t)), (1, .int x1), (2, .int x2)]) hx hb dX9_spreads_131 hl (k := 5) rfl (by rw [e_w26]; rfl) (by decide) rfl (fun ls hl => ?_)
                  refine lv_goto (tgt := 22) hx hb dX9_spreads_134 (by decide) ?_
                  exact ih _ _ _ σ21 x1 x2 w26 G (lv_sub hl [3, 4, 5, 0] rfl) h
                · have h := g_it h c22
                  refine lv_aload_n hx hb dX9_spreads_118 rfl (lv_at hl 2 rfl) ?_
                  refine gg9_8 C G ok.1 ok.2.1.2.2.2.2.2.2.1 u_fl_RX9_29 dX9_spreads_119 ?_
                  refine lv_iload hx hb dX9_spreads_122 (lv_at hl 0 rfl) ?_
                  refine lv_aload_n hx hb dX9_spreads_124 rfl (lv_at hl 2 rfl) ?_
                  refine gg9_9 C G ok.1 u_fl_RX9_99 dX9_spreads_125 ?_
                  obtain ⟨c23, h⟩ := g_chk h
                  obtain ⟨σ24, e_σ24, h⟩ := g_let h
                  refine g_iast C G ok.2.2.2.2.2.2.2.2.1 c23 dX9_spreads_128 (fun H locs G => ?_)
                  rw [e_σ24] at G
                  refine lv_iconst (v := 1) hx hb dX9_spreads_129 (by decide) ?_
                  refine lv_istore_n (lv' := [(1, .int 1), (5, .int v13), (4, .int v9), (0, .ref (xN X + t)), (2, .int x2), (3, .int x3)]) hx hb dX9_spreads_130 rfl hl (by decide) rfl (fun ls hl => ?_)
                  obtain ⟨w25, e_w25⟩ : ∃ y : Int32, y = x3 + 1 := ⟨_, rfl⟩
                  have h := g_let2 e_w25 h
                  refine lv_iinc (v := w25) (lv' := [(3, .int w25), (1, .int 1), (5, .int v13), (4, .int v9), (0, .ref (xN X + t)), (2, .int x2)]) hx hb dX9_spreads_131 hl (k := 5) rfl (by rw [e_w25]; rfl) (by decide) rfl (fun ls hl => ?_)
                  refine lv_goto (tgt := 22) hx hb dX9_spreads_134 (by decide) ?_
                  exact ih _ _ _ σ24 1 x2 w25 G (lv_sub hl [4, 1, 5, 0] rfl) h
          · have h := g_it h c10
            refine lv_iconst (v := (-1)) hx hb dX9_spreads_62 (by decide) ?_
            refine lv_goto (tgt := 72) hx hb dX9_spreads_63 (by decide) ?_
            refine lv_istore (lv' := [(5, .int (-1)), (4, .int v9), (0, .ref (xN X + t)), (1, .int x1), (2, .int x2), (3, .int x3)]) hx hb dX9_spreads_72 hl (by decide) rfl (fun ls hl => ?_)
            refine lv_iload hx hb dX9_spreads_74 (lv_at hl 0 rfl) ?_
            refine lv_iconst (v := (-1)) hx hb dX9_spreads_76 (by decide) ?_
            refine lv_icmp_eq (tgt := 131) hx hb dX9_spreads_77 (by decide) (fun _ => ?_) (fun c11 => absurd c11 (by decide))
            obtain ⟨w12, e_w12⟩ : ∃ y : Int32, y = x3 + 1 := ⟨_, rfl⟩
            have h := g_let2 e_w12 h
            refine lv_iinc (v := w12) (lv' := [(3, .int w12), (5, .int (-1)), (4, .int v9), (0, .ref (xN X + t)), (1, .int x1), (2, .int x2)]) hx hb dX9_spreads_131 hl (k := 5) rfl (by rw [e_w12]; rfl) (by decide) rfl (fun ls hl => ?_)
            refine lv_goto (tgt := 22) hx hb dX9_spreads_134 (by decide) ?_
            exact ih _ _ _ σ x1 x2 w12 G (lv_sub hl [3, 4, 5, 0] rfl) h
  have L10 : ∀ (K2 : gM → Int32 → Option (gM)), (∀ (H : Heap) (locs : List Loc) (ls : Array Slot) (σ : gM) (x1 : Int32), gG X σ s H locs → lv_has ls 6 [(0, .ref (xN X + t)), (1, .int x1)] → K2 σ x1 = some σ' → W p l ev ({ frames := 4, cells := 0, slots := 0, locals := 99 }) s m args below meth c H locs 0 0 Q (F0 m 2 ls [])) → ∀ (n : Nat) (H : Heap) (locs : List Loc) (ls : Array Slot) (σ : gM) (x1 : Int32) (x2 : Int32), gG X σ s H locs → lv_has ls 6 [(0, .ref (xN X + t)), (1, .int x1), (2, .int x2)] → fX9_spreads_10 K2 t n σ x1 x2 = some σ' → W p l ev ({ frames := 4, cells := 0, slots := 0, locals := 99 }) s m args below meth c H locs 0 0 Q (F0 m 10 ls []) := by
    intro K2 hK2 n
    induction n with
    | zero =>
      intro H locs ls σ x1 x2 G hl h
      rw [fX9_spreads_10] at h
      cases h
    | succ n ih =>
      intro H locs ls σ x1 x2 G hl h
      rw [fX9_spreads_10] at h
      refine lv_iload_n hx hb dX9_spreads_10 rfl (lv_at hl 2 rfl) ?_
      refine lv_aload_n hx hb dX9_spreads_11 rfl (lv_at hl 0 rfl) ?_
      refine gg9_0 C G ok.1 ok.2.1.1 u_fl_RX9_7 dX9_spreads_12 ?_
      refine lv_iconst (v := 2) hx hb dX9_spreads_15 (by decide) ?_
      obtain ⟨c2, h⟩ := g_chk h
      refine g_iald C G ok.2.2.1 c2 dX9_spreads_16 ?_
      refine lv_icmp_ge (tgt := 143) hx hb dX9_spreads_17 (by decide) (fun c3 => ?_) (fun c3 => ?_)
      · have h := g_it h c3
        refine lv_goto (tgt := 2) hx hb dX9_spreads_143 (by decide) ?_
        exact hK2 _ _ _ σ x1 G (lv_sub hl [0, 1] rfl) h
      · have h := g_if h c3
        refine lv_iconst (v := 0) hx hb dX9_spreads_20 (by decide) ?_
        refine lv_istore_n (lv' := [(3, .int 0), (0, .ref (xN X + t)), (1, .int x1), (2, .int x2)]) hx hb dX9_spreads_21 rfl hl (by decide) rfl (fun ls hl => ?_)
        exact L22 K2 hK2 (fun σ2 y1 y2 => fX9_spreads_10 K2 t n σ2 y1 y2) (fun H locs ls σ2 y1 y2 G hl h => ih H locs ls σ2 y1 y2 G hl h) gF _ _ _ σ x1 x2 0 G (lv_sub hl [1, 2, 3, 0] rfl) h
  have L2 : ∀ (n : Nat) (H : Heap) (locs : List Loc) (ls : Array Slot) (σ : gM) (x1 : Int32), gG X σ s H locs → lv_has ls 6 [(0, .ref (xN X + t)), (1, .int x1)] → fX9_spreads_2 t n σ x1 = some σ' → W p l ev ({ frames := 4, cells := 0, slots := 0, locals := 99 }) s m args below meth c H locs 0 0 Q (F0 m 2 ls []) := by
    intro n
    induction n with
    | zero =>
      intro H locs ls σ x1 G hl h
      rw [fX9_spreads_2] at h
      cases h
    | succ n ih =>
      intro H locs ls σ x1 G hl h
      rw [fX9_spreads_2] at h
      refine lv_iload_n hx hb dX9_spreads_2 rfl (lv_at hl 1 rfl) ?_
      refine lv_if_eq (tgt := 146) hx hb dX9_spreads_3 (by decide) (fun c1 => ?_) (fun c1 => ?_)
      · have h := g_it h c1
        exact ret dX9_spreads_146 G (Option.some.inj h)
      · have h := g_if h c1
        refine lv_iconst (v := 0) hx hb dX9_spreads_6 (by decide) ?_
        refine lv_istore_n (lv' := [(1, .int 0), (0, .ref (xN X + t))]) hx hb dX9_spreads_7 rfl hl (by decide) rfl (fun ls hl => ?_)
        refine lv_iconst (v := 0) hx hb dX9_spreads_8 (by decide) ?_
        refine lv_istore_n (lv' := [(2, .int 0), (1, .int 0), (0, .ref (xN X + t))]) hx hb dX9_spreads_9 rfl hl (by decide) rfl (fun ls hl => ?_)
        exact L10 (fun σ2 y1 => fX9_spreads_2 t n σ2 y1) (fun H locs ls σ2 y1 G hl h => ih H locs ls σ2 y1 G hl h) gF _ _ _ σ 0 0 G (lv_sub hl [2, 1, 0] rfl) h
  unfold fX9_spreads at h
  refine lv_iconst (v := 1) hx hb dX9_spreads_0 (by decide) ?_
  refine lv_istore_n (lv' := [(1, .int 1), (0, .ref (xN X + t))]) hx hb dX9_spreads_1 rfl hl (by decide) rfl (fun ls hl => ?_)
  exact L2  gF _ _ _ σ 1 G (lv_sub hl [1, 0] rfl) h

def fX9_gathers_28 (t : Nat) : Nat → gM → Int32 → Option (gM)
  | 0, _, _ => none
  | n + 1, σ, x1 =>
    (if ¬ ((2 : Int32) < 0 ∨ gln (t + 1) ≤ (2 : Int32).toNatClampNeg) then
    (if (σ (t + 1) (2 : Int32).toNatClampNeg) ≤ x1 then
      some σ
    else
      ((fX9_isOn σ t x1).bind fun v5 =>
      (if v5 = 0 then
        (gl (x1 + 1) fun w7 =>
        fX9_gathers_28 t n σ w7)
      else
        (if ¬ (x1 < 0 ∨ gln (t + 7) ≤ x1.toNatClampNeg) then
        (if (σ (t + 7) x1.toNatClampNeg) = (-1) then
          (if ¬ (x1 < 0 ∨ gln (t + 7) ≤ x1.toNatClampNeg) then
          (gl (gset σ (t + 7) (upd (σ (t + 7)) x1.toNatClampNeg (σ t 9))) fun σ11 =>
          ((fX9_spreads σ11 t).bind fun σ13 =>
          (gl (gset σ13 t (upd (σ13 t) 9 ((σ13 t 9) + 1))) fun σ14 =>
          (gl (x1 + 1) fun w15 =>
          fX9_gathers_28 t n σ14 w15))))
          else none)
        else
          (gl (x1 + 1) fun w16 =>
          fX9_gathers_28 t n σ w16))
        else none))))
    else none)

def fX9_gathers_2 (t : Nat) : Nat → gM → Int32 → Option (gM)
  | 0, _, _ => none
  | n + 1, σ, x1 =>
    (if 12 ≤ x1 then
      (gl (gset σ t (upd (σ t) 9 0)) fun σ2 =>
      fX9_gathers_28 t gF σ2 0)
    else
      (if ¬ (x1 < 0 ∨ gln (t + 7) ≤ x1.toNatClampNeg) then
      (gl (gset σ (t + 7) (upd (σ (t + 7)) x1.toNatClampNeg (-1))) fun σ18 =>
      (gl (x1 + 1) fun w19 =>
      fX9_gathers_2 t n σ18 w19))
      else none))

def fX9_gathers (σ : gM) (t : Nat) : Option (gM) :=
  fX9_gathers_2 t gF σ 0
set_option maxHeartbeats 4000000 in
set_option maxRecDepth 100000 in
theorem mX9_gathers (l : Launch) (X : gX) (σ σ' : gM) (t : Nat) (ok : gok9 X t) (h : fX9_gathers σ t = some σ') : Met l yX9_gathers (Cond.code yX9_gathers cX9_gathers 2 none :: gBig) ({ frames := 5, cells := 0, slots := 0, locals := 124 }) (gPc X σ [.ref (xN X + t)]) (gQv X σ') 0 0 (xA X) := by
  refine g_metv (cc := cX9_gathers) (maxL := 2) (own := RX9) (by decide) rfl rfl (Nat.le_of_ble_eq_true rfl) ?_
  intro p ev s m args below meth c Q C G ret ls hl
  obtain ⟨⟨hx, hb, hml, hown, hts⟩, hK⟩ := id C
  have hl : lv_has ls 2 [(0, .ref (xN X + t))] := hl
  have L28 : ∀ (n : Nat) (H : Heap) (locs : List Loc) (ls : Array Slot) (σ : gM) (x1 : Int32), gG X σ s H locs → lv_has ls 2 [(0, .ref (xN X + t)), (1, .int x1)] → fX9_gathers_28 t n σ x1 = some σ' → W p l ev ({ frames := 5, cells := 0, slots := 0, locals := 124 }) s m args below meth c H locs 0 0 Q (F0 m 28 ls []) := by
    intro n
    induction n with
    | zero =>
      intro H locs ls σ x1 G hl h
      rw [fX9_gathers_28] at h
      cases h
    | succ n ih =>
      intro H locs ls σ x1 G hl h
      rw [fX9_gathers_28] at h
      refine lv_iload_n hx hb dX9_gathers_28 rfl (lv_at hl 1 rfl) ?_
      refine lv_aload_n hx hb dX9_gathers_29 rfl (lv_at hl 0 rfl) ?_
      refine gg9_0 C G ok.1 ok.2.1.1 u_fl_RX9_7 dX9_gathers_30 ?_
      refine lv_iconst (v := 2) hx hb dX9_gathers_33 (by decide) ?_
      obtain ⟨c3, h⟩ := g_chk h
      refine g_iald C G ok.2.2.1 c3 dX9_gathers_34 ?_
      refine lv_icmp_ge (tgt := 86) hx hb dX9_gathers_35 (by decide) (fun c4 => ?_) (fun c4 => ?_)
      · have h := g_it h c4
        exact ret dX9_gathers_86 G (Option.some.inj h)
      · have h := g_if h c4
        refine lv_aload_n hx hb dX9_gathers_38 rfl (lv_at hl 0 rfl) ?_
        refine lv_iload_n hx hb dX9_gathers_39 rfl (lv_at hl 1 rfl) ?_
        obtain ⟨v5, e_v5, h⟩ := g_bind h
        refine g_calli (g_runV (n := 1) (As := [.int x1]) (rest := []) C G (mX9_isOn l X σ t x1 v5 ok e_v5) ok.1.2 (gE_9 ok.1.1) rfl (g_goodV u_ml_RX9_76 u_im_yX9_isOn u_se_yX9_isOn u_in_RX9 u_co_yX9_isOn) rfl rfl rfl (by decide +kernel) ⟨Nat.le_of_ble_eq_true rfl, Nat.le_of_ble_eq_true rfl⟩ rfl hl.1 rfl (Nat.le_of_ble_eq_true rfl) dX9_gathers_40 ⟨Nat.zero_le _, Nat.zero_le _⟩) G (fun H locs G => ?_)
        refine lv_if_eq (tgt := 80) hx hb dX9_gathers_43 (by decide) (fun c6 => ?_) (fun c6 => ?_)
        · have h := g_it h c6
          obtain ⟨w7, e_w7⟩ : ∃ y : Int32, y = x1 + 1 := ⟨_, rfl⟩
          have h := g_let2 e_w7 h
          refine lv_iinc (v := w7) (lv' := [(1, .int w7), (0, .ref (xN X + t))]) hx hb dX9_gathers_80 hl (k := 1) rfl (by rw [e_w7]; rfl) (by decide) rfl (fun ls hl => ?_)
          refine lv_goto (tgt := 28) hx hb dX9_gathers_83 (by decide) ?_
          exact ih _ _ _ σ w7 G (lv_sub hl [1, 0] rfl) h
        · have h := g_if h c6
          refine lv_aload_n hx hb dX9_gathers_46 rfl (lv_at hl 0 rfl) ?_
          refine gg9_8 C G ok.1 ok.2.1.2.2.2.2.2.2.1 u_fl_RX9_29 dX9_gathers_47 ?_
          refine lv_iload_n hx hb dX9_gathers_50 rfl (lv_at hl 1 rfl) ?_
          obtain ⟨c8, h⟩ := g_chk h
          refine g_iald C G ok.2.2.2.2.2.2.2.2.1 c8 dX9_gathers_51 ?_
          refine lv_iconst (v := (-1)) hx hb dX9_gathers_52 (by decide) ?_
          refine lv_icmp_ne (tgt := 80) hx hb dX9_gathers_53 (by decide) (fun c9 => ?_) (fun c9 => ?_)
          · have h := g_if h c9
            obtain ⟨w16, e_w16⟩ : ∃ y : Int32, y = x1 + 1 := ⟨_, rfl⟩
            have h := g_let2 e_w16 h
            refine lv_iinc (v := w16) (lv' := [(1, .int w16), (0, .ref (xN X + t))]) hx hb dX9_gathers_80 hl (k := 1) rfl (by rw [e_w16]; rfl) (by decide) rfl (fun ls hl => ?_)
            refine lv_goto (tgt := 28) hx hb dX9_gathers_83 (by decide) ?_
            exact ih _ _ _ σ w16 G (lv_sub hl [1, 0] rfl) h
          · have h := g_it h c9
            refine lv_aload_n hx hb dX9_gathers_56 rfl (lv_at hl 0 rfl) ?_
            refine gg9_8 C G ok.1 ok.2.1.2.2.2.2.2.2.1 u_fl_RX9_29 dX9_gathers_57 ?_
            refine lv_iload_n hx hb dX9_gathers_60 rfl (lv_at hl 1 rfl) ?_
            refine lv_aload_n hx hb dX9_gathers_61 rfl (lv_at hl 0 rfl) ?_
            refine gg9_9 C G ok.1 u_fl_RX9_99 dX9_gathers_62 ?_
            obtain ⟨c10, h⟩ := g_chk h
            obtain ⟨σ11, e_σ11, h⟩ := g_let h
            refine g_iast C G ok.2.2.2.2.2.2.2.2.1 c10 dX9_gathers_65 (fun H locs G => ?_)
            rw [e_σ11] at G
            refine lv_aload_n hx hb dX9_gathers_66 rfl (lv_at hl 0 rfl) ?_
            obtain ⟨σ13, e_σ13, h⟩ := g_bind h
            refine g_callv (g_runV (n := 0) (As := []) (rest := []) C G (mX9_spreads l X σ11 σ13 t ok e_σ13) ok.1.2 (gE_9 ok.1.1) rfl (g_goodV u_ml_RX9_102 u_im_yX9_spreads u_se_yX9_spreads u_in_RX9 u_co_yX9_spreads) rfl rfl rfl (by decide +kernel) ⟨Nat.le_of_ble_eq_true rfl, Nat.le_of_ble_eq_true rfl⟩ rfl hl.1 rfl (Nat.le_of_ble_eq_true rfl) dX9_gathers_67 ⟨Nat.zero_le _, Nat.zero_le _⟩) G (fun H locs G => ?_)
            refine lv_aload_n hx hb dX9_gathers_70 rfl (lv_at hl 0 rfl) ?_
            refine lv_dup hx hb dX9_gathers_71 rfl ?_
            refine gg9_9 C G ok.1 u_fl_RX9_99 dX9_gathers_72 ?_
            refine lv_iconst (v := 1) hx hb dX9_gathers_75 (by decide) ?_
            refine lv_iadd hx hb dX9_gathers_76 ?_
            obtain ⟨σ14, e_σ14, h⟩ := g_let h
            refine gp9_9 C G ok.1 u_fl_RX9_99 dX9_gathers_77 (fun H locs G => ?_)
            rw [e_σ14] at G
            obtain ⟨w15, e_w15⟩ : ∃ y : Int32, y = x1 + 1 := ⟨_, rfl⟩
            have h := g_let2 e_w15 h
            refine lv_iinc (v := w15) (lv' := [(1, .int w15), (0, .ref (xN X + t))]) hx hb dX9_gathers_80 hl (k := 1) rfl (by rw [e_w15]; rfl) (by decide) rfl (fun ls hl => ?_)
            refine lv_goto (tgt := 28) hx hb dX9_gathers_83 (by decide) ?_
            exact ih _ _ _ σ14 w15 G (lv_sub hl [1, 0] rfl) h
  have L2 : ∀ (n : Nat) (H : Heap) (locs : List Loc) (ls : Array Slot) (σ : gM) (x1 : Int32), gG X σ s H locs → lv_has ls 2 [(0, .ref (xN X + t)), (1, .int x1)] → fX9_gathers_2 t n σ x1 = some σ' → W p l ev ({ frames := 5, cells := 0, slots := 0, locals := 124 }) s m args below meth c H locs 0 0 Q (F0 m 2 ls []) := by
    intro n
    induction n with
    | zero =>
      intro H locs ls σ x1 G hl h
      rw [fX9_gathers_2] at h
      cases h
    | succ n ih =>
      intro H locs ls σ x1 G hl h
      rw [fX9_gathers_2] at h
      refine lv_iload_n hx hb dX9_gathers_2 rfl (lv_at hl 1 rfl) ?_
      refine lv_bipush (v := 12) hx hb dX9_gathers_3 (by decide) ?_
      refine lv_icmp_ge (tgt := 21) hx hb dX9_gathers_5 (by decide) (fun c1 => ?_) (fun c1 => ?_)
      · have h := g_it h c1
        refine lv_aload_n hx hb dX9_gathers_21 rfl (lv_at hl 0 rfl) ?_
        refine lv_iconst (v := 0) hx hb dX9_gathers_22 (by decide) ?_
        obtain ⟨σ2, e_σ2, h⟩ := g_let h
        refine gp9_9 C G ok.1 u_fl_RX9_99 dX9_gathers_23 (fun H locs G => ?_)
        rw [e_σ2] at G
        refine lv_iconst (v := 0) hx hb dX9_gathers_26 (by decide) ?_
        refine lv_istore_n (lv' := [(1, .int 0), (0, .ref (xN X + t))]) hx hb dX9_gathers_27 rfl hl (by decide) rfl (fun ls hl => ?_)
        exact L28  gF _ _ _ σ2 0 G (lv_sub hl [1, 0] rfl) h
      · have h := g_if h c1
        refine lv_aload_n hx hb dX9_gathers_8 rfl (lv_at hl 0 rfl) ?_
        refine gg9_8 C G ok.1 ok.2.1.2.2.2.2.2.2.1 u_fl_RX9_29 dX9_gathers_9 ?_
        refine lv_iload_n hx hb dX9_gathers_12 rfl (lv_at hl 1 rfl) ?_
        refine lv_iconst (v := (-1)) hx hb dX9_gathers_13 (by decide) ?_
        obtain ⟨c17, h⟩ := g_chk h
        obtain ⟨σ18, e_σ18, h⟩ := g_let h
        refine g_iast C G ok.2.2.2.2.2.2.2.2.1 c17 dX9_gathers_14 (fun H locs G => ?_)
        rw [e_σ18] at G
        obtain ⟨w19, e_w19⟩ : ∃ y : Int32, y = x1 + 1 := ⟨_, rfl⟩
        have h := g_let2 e_w19 h
        refine lv_iinc (v := w19) (lv' := [(1, .int w19), (0, .ref (xN X + t))]) hx hb dX9_gathers_15 hl (k := 1) rfl (by rw [e_w19]; rfl) (by decide) rfl (fun ls hl => ?_)
        refine lv_goto (tgt := 2) hx hb dX9_gathers_18 (by decide) ?_
        exact ih _ _ _ σ18 w19 G (lv_sub hl [1, 0] rfl) h
  unfold fX9_gathers at h
  refine lv_iconst (v := 0) hx hb dX9_gathers_0 (by decide) ?_
  refine lv_istore_n (lv' := [(1, .int 0), (0, .ref (xN X + t))]) hx hb dX9_gathers_1 rfl hl (by decide) rfl (fun ls hl => ?_)
  exact L2  gF _ _ _ σ 0 G (lv_sub hl [1, 0] rfl) h

def fX9_scrap (σ : gM) (t : Nat) (a1 : Int32) (a2 : Int32) : Option (Int32 × gM) :=
  ((fX9_isScrap σ t a1).bind fun v1 =>
  (if v1 = 0 then
    some ((-1001), σ)
  else
    ((fX9_in σ a2 0 5).bind fun v3 =>
    (if v3 = 0 then
      some ((-1001), σ)
    else
      (if 2 ≤ a2 then
        ((fX9_isOn σ t a1).bind fun v6 =>
        (if v6 = 0 then
          some ((-1004), σ)
        else
          (if a2 = 2 then
            (if ¬ ((123 + a1) < 0 ∨ gln (t + 1) ≤ (123 + a1).toNatClampNeg) then
            some ((σ (t + 1) (123 + a1).toNatClampNeg), σ)
            else none)
          else
            (if a2 = 3 then
              ((fX9_gathers σ t).bind fun σ12 =>
              (if ¬ (a1 < 0 ∨ gln (t + 7) ≤ a1.toNatClampNeg) then
              some ((σ12 (t + 7) a1.toNatClampNeg), σ12)
              else none))
            else
              (if ¬ ((123 + a1) < 0 ∨ gln (t + 1) ≤ (123 + a1).toNatClampNeg) then
              (if ¬ ((111 + a1) < 0 ∨ gln (t + 1) ≤ (111 + a1).toNatClampNeg) then
              (if a2 = 4 then
                ((fX9_fits σ t a1 (σ (t + 1) (123 + a1).toNatClampNeg) (σ (t + 1) (111 + a1).toNatClampNeg) 1).bind fun pv17 => gl pv17.1 fun v17 => gl pv17.2 fun σ18 =>
                some (v17, σ18))
              else
                ((fX9_fits σ t a1 (σ (t + 1) (123 + a1).toNatClampNeg) (σ (t + 1) (111 + a1).toNatClampNeg) 0).bind fun pv19 => gl pv19.1 fun v19 => gl pv19.2 fun σ20 =>
                some (v19, σ20)))
              else none)
              else none)))))
      else
        (if ¬ (((99 + (12 * a2)) + a1) < 0 ∨ gln (t + 1) ≤ ((99 + (12 * a2)) + a1).toNatClampNeg) then
        some ((σ (t + 1) ((99 + (12 * a2)) + a1).toNatClampNeg), σ)
        else none))))))
set_option maxHeartbeats 4000000 in
set_option maxRecDepth 100000 in
theorem mX9_scrap (l : Launch) (X : gX) (σ σ' : gM) (t : Nat) (a1 : Int32) (a2 : Int32) (r : Int32) (ok : gok9 X t) (h : fX9_scrap σ t a1 a2 = some (r, σ')) : Met l yX9_scrap (Cond.code yX9_scrap cX9_scrap 3 (some .int) :: gBig) ({ frames := 6, cells := 0, slots := 0, locals := 145 }) (gPc X σ [.ref (xN X + t), .int a1, .int a2]) (gQi X σ' r) 0 0 (xA X) := by
  refine g_meti (cc := cX9_scrap) (maxL := 3) (own := RX9) (by decide) rfl rfl (Nat.le_of_ble_eq_true rfl) ?_
  intro p ev s m args below meth c Q C G ret ls hl
  obtain ⟨⟨hx, hb, hml, hown, hts⟩, hK⟩ := id C
  have hl : lv_has ls 3 [(0, .ref (xN X + t)), (1, .int a1), (2, .int a2)] := hl
  unfold fX9_scrap at h
  refine lv_aload_n hx hb dX9_scrap_0 rfl (lv_at hl 0 rfl) ?_
  refine lv_iload_n hx hb dX9_scrap_1 rfl (lv_at hl 1 rfl) ?_
  obtain ⟨v1, e_v1, h⟩ := g_bind h
  refine g_calli (g_runV (n := 1) (As := [.int a1]) (rest := []) C G (mX9_isScrap l X σ t a1 v1 ok e_v1) ok.1.2 (gE_9 ok.1.1) rfl (g_goodV u_ml_RX9_86 u_im_yX9_isScrap u_se_yX9_isScrap u_in_RX9 u_co_yX9_isScrap) rfl rfl rfl (by decide +kernel) ⟨Nat.le_of_ble_eq_true rfl, Nat.le_of_ble_eq_true rfl⟩ rfl hl.1 rfl (Nat.le_of_ble_eq_true rfl) dX9_scrap_2 ⟨Nat.zero_le _, Nat.zero_le _⟩) G (fun H locs G => ?_)
  refine lv_if_eq (tgt := 17) hx hb dX9_scrap_5 (by decide) (fun c2 => ?_) (fun c2 => ?_)
  · have h := g_it h c2
    refine lv_sipush (v := (-1001)) hx hb dX9_scrap_17 (by decide) ?_
    exact ret dX9_scrap_20 rfl G (Prod.mk.inj (Option.some.inj h))
  · have h := g_if h c2
    refine lv_iload_n hx hb dX9_scrap_8 rfl (lv_at hl 2 rfl) ?_
    refine lv_iconst (v := 0) hx hb dX9_scrap_9 (by decide) ?_
    refine lv_iconst (v := 5) hx hb dX9_scrap_10 (by decide) ?_
    obtain ⟨v3, e_v3, h⟩ := g_bind h
    refine g_calli (g_runS (n := 3) (As := [.int a2, .int 0, .int 5]) (rest := []) C G (mX9_in l X σ a2 0 5 v3 e_v3) (g_goodS u_ml_RX9_38 u_st_yX9_in u_in_RX9 u_co_yX9_in) rfl rfl rfl (by decide +kernel) ⟨Nat.le_of_ble_eq_true rfl, Nat.le_of_ble_eq_true rfl⟩ rfl hl.1 rfl (Nat.le_of_ble_eq_true rfl) dX9_scrap_11 ⟨Nat.zero_le _, Nat.zero_le _⟩) G (fun H locs G => ?_)
    refine lv_if_ne (tgt := 21) hx hb dX9_scrap_14 (by decide) (fun c4 => ?_) (fun c4 => ?_)
    · have h := g_if h c4
      refine lv_iload_n hx hb dX9_scrap_21 rfl (lv_at hl 2 rfl) ?_
      refine lv_iconst (v := 2) hx hb dX9_scrap_22 (by decide) ?_
      refine lv_icmp_ge (tgt := 41) hx hb dX9_scrap_23 (by decide) (fun c5 => ?_) (fun c5 => ?_)
      · have h := g_it h c5
        refine lv_aload_n hx hb dX9_scrap_41 rfl (lv_at hl 0 rfl) ?_
        refine lv_iload_n hx hb dX9_scrap_42 rfl (lv_at hl 1 rfl) ?_
        obtain ⟨v6, e_v6, h⟩ := g_bind h
        refine g_calli (g_runV (n := 1) (As := [.int a1]) (rest := []) C G (mX9_isOn l X σ t a1 v6 ok e_v6) ok.1.2 (gE_9 ok.1.1) rfl (g_goodV u_ml_RX9_76 u_im_yX9_isOn u_se_yX9_isOn u_in_RX9 u_co_yX9_isOn) rfl rfl rfl (by decide +kernel) ⟨Nat.le_of_ble_eq_true rfl, Nat.le_of_ble_eq_true rfl⟩ rfl hl.1 rfl (Nat.le_of_ble_eq_true rfl) dX9_scrap_43 ⟨Nat.zero_le _, Nat.zero_le _⟩) G (fun H locs G => ?_)
        refine lv_if_ne (tgt := 53) hx hb dX9_scrap_46 (by decide) (fun c7 => ?_) (fun c7 => ?_)
        · have h := g_if h c7
          refine lv_iload_n hx hb dX9_scrap_53 rfl (lv_at hl 2 rfl) ?_
          refine lv_iconst (v := 2) hx hb dX9_scrap_54 (by decide) ?_
          refine lv_icmp_ne (tgt := 68) hx hb dX9_scrap_55 (by decide) (fun c8 => ?_) (fun c8 => ?_)
          · have h := g_if h c8
            refine lv_iload_n hx hb dX9_scrap_68 rfl (lv_at hl 2 rfl) ?_
            refine lv_iconst (v := 3) hx hb dX9_scrap_69 (by decide) ?_
            refine lv_icmp_ne (tgt := 84) hx hb dX9_scrap_70 (by decide) (fun c10 => ?_) (fun c10 => ?_)
            · have h := g_if h c10
              refine lv_aload_n hx hb dX9_scrap_84 rfl (lv_at hl 0 rfl) ?_
              refine lv_iload_n hx hb dX9_scrap_85 rfl (lv_at hl 1 rfl) ?_
              refine lv_aload_n hx hb dX9_scrap_86 rfl (lv_at hl 0 rfl) ?_
              refine gg9_0 C G ok.1 ok.2.1.1 u_fl_RX9_7 dX9_scrap_87 ?_
              refine lv_bipush (v := 123) hx hb dX9_scrap_90 (by decide) ?_
              refine lv_iload_n hx hb dX9_scrap_92 rfl (lv_at hl 1 rfl) ?_
              refine lv_iadd hx hb dX9_scrap_93 ?_
              obtain ⟨c14, h⟩ := g_chk h
              refine g_iald C G ok.2.2.1 c14 dX9_scrap_94 ?_
              refine lv_aload_n hx hb dX9_scrap_95 rfl (lv_at hl 0 rfl) ?_
              refine gg9_0 C G ok.1 ok.2.1.1 u_fl_RX9_7 dX9_scrap_96 ?_
              refine lv_bipush (v := 111) hx hb dX9_scrap_99 (by decide) ?_
              refine lv_iload_n hx hb dX9_scrap_101 rfl (lv_at hl 1 rfl) ?_
              refine lv_iadd hx hb dX9_scrap_102 ?_
              obtain ⟨c15, h⟩ := g_chk h
              refine g_iald C G ok.2.2.1 c15 dX9_scrap_103 ?_
              refine lv_iload_n hx hb dX9_scrap_104 rfl (lv_at hl 2 rfl) ?_
              refine lv_iconst (v := 4) hx hb dX9_scrap_105 (by decide) ?_
              refine lv_icmp_ne (tgt := 113) hx hb dX9_scrap_106 (by decide) (fun c16 => ?_) (fun c16 => ?_)
              · have h := g_if h c16
                refine lv_iconst (v := 0) hx hb dX9_scrap_113 (by decide) ?_
                obtain ⟨⟨v19, σ20⟩, e_v19, h⟩ := g_bind h
                have h := g_let2 (v := v19) rfl h
                have h := g_let2 (v := σ20) rfl h
                refine g_calli (g_runV (n := 4) (As := [.int a1, .int (σ (t + 1) (123 + a1).toNatClampNeg), .int (σ (t + 1) (111 + a1).toNatClampNeg), .int 0]) (rest := []) C G (mX9_fits l X σ σ20 t a1 (σ (t + 1) (123 + a1).toNatClampNeg) (σ (t + 1) (111 + a1).toNatClampNeg) 0 v19 ok e_v19) ok.1.2 (gE_9 ok.1.1) rfl (g_goodV u_ml_RX9_92 u_im_yX9_fits u_se_yX9_fits u_in_RX9 u_co_yX9_fits) rfl rfl rfl (by decide +kernel) ⟨Nat.le_of_ble_eq_true rfl, Nat.le_of_ble_eq_true rfl⟩ rfl hl.1 rfl (Nat.le_of_ble_eq_true rfl) dX9_scrap_114 ⟨Nat.zero_le _, Nat.zero_le _⟩) G (fun H locs G => ?_)
                exact ret dX9_scrap_117 rfl G (Prod.mk.inj (Option.some.inj h))
              · have h := g_it h c16
                refine lv_iconst (v := 1) hx hb dX9_scrap_109 (by decide) ?_
                refine lv_goto (tgt := 114) hx hb dX9_scrap_110 (by decide) ?_
                obtain ⟨⟨v17, σ18⟩, e_v17, h⟩ := g_bind h
                have h := g_let2 (v := v17) rfl h
                have h := g_let2 (v := σ18) rfl h
                refine g_calli (g_runV (n := 4) (As := [.int a1, .int (σ (t + 1) (123 + a1).toNatClampNeg), .int (σ (t + 1) (111 + a1).toNatClampNeg), .int 1]) (rest := []) C G (mX9_fits l X σ σ18 t a1 (σ (t + 1) (123 + a1).toNatClampNeg) (σ (t + 1) (111 + a1).toNatClampNeg) 1 v17 ok e_v17) ok.1.2 (gE_9 ok.1.1) rfl (g_goodV u_ml_RX9_92 u_im_yX9_fits u_se_yX9_fits u_in_RX9 u_co_yX9_fits) rfl rfl rfl (by decide +kernel) ⟨Nat.le_of_ble_eq_true rfl, Nat.le_of_ble_eq_true rfl⟩ rfl hl.1 rfl (Nat.le_of_ble_eq_true rfl) dX9_scrap_114 ⟨Nat.zero_le _, Nat.zero_le _⟩) G (fun H locs G => ?_)
                exact ret dX9_scrap_117 rfl G (Prod.mk.inj (Option.some.inj h))
            · have h := g_it h c10
              refine lv_aload_n hx hb dX9_scrap_73 rfl (lv_at hl 0 rfl) ?_
              obtain ⟨σ12, e_σ12, h⟩ := g_bind h
              refine g_callv (g_runV (n := 0) (As := []) (rest := []) C G (mX9_gathers l X σ σ12 t ok e_σ12) ok.1.2 (gE_9 ok.1.1) rfl (g_goodV u_ml_RX9_89 u_im_yX9_gathers u_se_yX9_gathers u_in_RX9 u_co_yX9_gathers) rfl rfl rfl (by decide +kernel) ⟨Nat.le_of_ble_eq_true rfl, Nat.le_of_ble_eq_true rfl⟩ rfl hl.1 rfl (Nat.le_of_ble_eq_true rfl) dX9_scrap_74 ⟨Nat.zero_le _, Nat.zero_le _⟩) G (fun H locs G => ?_)
              refine lv_aload_n hx hb dX9_scrap_77 rfl (lv_at hl 0 rfl) ?_
              refine gg9_8 C G ok.1 ok.2.1.2.2.2.2.2.2.1 u_fl_RX9_29 dX9_scrap_78 ?_
              refine lv_iload_n hx hb dX9_scrap_81 rfl (lv_at hl 1 rfl) ?_
              obtain ⟨c13, h⟩ := g_chk h
              refine g_iald C G ok.2.2.2.2.2.2.2.2.1 c13 dX9_scrap_82 ?_
              exact ret dX9_scrap_83 rfl G (Prod.mk.inj (Option.some.inj h))
          · have h := g_it h c8
            refine lv_aload_n hx hb dX9_scrap_58 rfl (lv_at hl 0 rfl) ?_
            refine gg9_0 C G ok.1 ok.2.1.1 u_fl_RX9_7 dX9_scrap_59 ?_
            refine lv_bipush (v := 123) hx hb dX9_scrap_62 (by decide) ?_
            refine lv_iload_n hx hb dX9_scrap_64 rfl (lv_at hl 1 rfl) ?_
            refine lv_iadd hx hb dX9_scrap_65 ?_
            obtain ⟨c9, h⟩ := g_chk h
            refine g_iald C G ok.2.2.1 c9 dX9_scrap_66 ?_
            exact ret dX9_scrap_67 rfl G (Prod.mk.inj (Option.some.inj h))
        · have h := g_it h c7
          refine lv_sipush (v := (-1004)) hx hb dX9_scrap_49 (by decide) ?_
          exact ret dX9_scrap_52 rfl G (Prod.mk.inj (Option.some.inj h))
      · have h := g_if h c5
        refine lv_aload_n hx hb dX9_scrap_26 rfl (lv_at hl 0 rfl) ?_
        refine gg9_0 C G ok.1 ok.2.1.1 u_fl_RX9_7 dX9_scrap_27 ?_
        refine lv_bipush (v := 99) hx hb dX9_scrap_30 (by decide) ?_
        refine lv_bipush (v := 12) hx hb dX9_scrap_32 (by decide) ?_
        refine lv_iload_n hx hb dX9_scrap_34 rfl (lv_at hl 2 rfl) ?_
        refine lv_imul hx hb dX9_scrap_35 ?_
        refine lv_iadd hx hb dX9_scrap_36 ?_
        refine lv_iload_n hx hb dX9_scrap_37 rfl (lv_at hl 1 rfl) ?_
        refine lv_iadd hx hb dX9_scrap_38 ?_
        obtain ⟨c21, h⟩ := g_chk h
        refine g_iald C G ok.2.2.1 c21 dX9_scrap_39 ?_
        exact ret dX9_scrap_40 rfl G (Prod.mk.inj (Option.some.inj h))
    · have h := g_it h c4
      refine lv_sipush (v := (-1001)) hx hb dX9_scrap_17 (by decide) ?_
      exact ret dX9_scrap_20 rfl G (Prod.mk.inj (Option.some.inj h))
