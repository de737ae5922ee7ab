def fX9_turns_136 (t : Nat) (a1 : Int32) (a2 : Int32) : Nat → gM → Int32 → Option (gM)
  | 0, _, _ => none
  | n + 1, σ, x4 =>
    (if (a2 - a2 / 4 * 4) ≤ x4 then
      some σ
    else
      (if ¬ ((0 : Int32) < 0 ∨ gln (t + 4) ≤ (0 : Int32).toNatClampNeg) then
      (gl (σ (t + 4) (0 : Int32).toNatClampNeg) fun w5 =>
      (if ¬ ((3 : Int32) < 0 ∨ gln (t + 4) ≤ (3 : Int32).toNatClampNeg) then
      ((fX9_reversed σ (σ (t + 4) (3 : Int32).toNatClampNeg)).bind fun v7 =>
      (if ¬ ((0 : Int32) < 0 ∨ gln (t + 4) ≤ (0 : Int32).toNatClampNeg) then
      (gl (gset σ (t + 4) (upd (σ (t + 4)) (0 : Int32).toNatClampNeg v7)) fun σ9 =>
      (if ¬ ((2 : Int32) < 0 ∨ gln (t + 4) ≤ (2 : Int32).toNatClampNeg) then
      (if ¬ ((3 : Int32) < 0 ∨ gln (t + 4) ≤ (3 : Int32).toNatClampNeg) then
      (gl (gset σ9 (t + 4) (upd (σ9 (t + 4)) (3 : Int32).toNatClampNeg (σ9 (t + 4) (2 : Int32).toNatClampNeg))) fun σ12 =>
      (if ¬ ((1 : Int32) < 0 ∨ gln (t + 4) ≤ (1 : Int32).toNatClampNeg) then
      ((fX9_reversed σ12 (σ12 (t + 4) (1 : Int32).toNatClampNeg)).bind fun v14 =>
      (if ¬ ((2 : Int32) < 0 ∨ gln (t + 4) ≤ (2 : Int32).toNatClampNeg) then
      (gl (gset σ12 (t + 4) (upd (σ12 (t + 4)) (2 : Int32).toNatClampNeg v14)) fun σ16 =>
      (if ¬ ((1 : Int32) < 0 ∨ gln (t + 4) ≤ (1 : Int32).toNatClampNeg) then
      (gl (gset σ16 (t + 4) (upd (σ16 (t + 4)) (1 : Int32).toNatClampNeg w5)) fun σ18 =>
      (if ¬ ((0 : Int32) < 0 ∨ gln (t + 5) ≤ (0 : Int32).toNatClampNeg) then
      (gl (σ18 (t + 5) (0 : Int32).toNatClampNeg) fun w20 =>
      (if ¬ ((3 : Int32) < 0 ∨ gln (t + 5) ≤ (3 : Int32).toNatClampNeg) then
      (if ¬ ((0 : Int32) < 0 ∨ gln (t + 5) ≤ (0 : Int32).toNatClampNeg) then
      (gl (gset σ18 (t + 5) (upd (σ18 (t + 5)) (0 : Int32).toNatClampNeg (σ18 (t + 5) (3 : Int32).toNatClampNeg))) fun σ23 =>
      (if ¬ ((2 : Int32) < 0 ∨ gln (t + 5) ≤ (2 : Int32).toNatClampNeg) then
      (if ¬ ((3 : Int32) < 0 ∨ gln (t + 5) ≤ (3 : Int32).toNatClampNeg) then
      (gl (gset σ23 (t + 5) (upd (σ23 (t + 5)) (3 : Int32).toNatClampNeg (σ23 (t + 5) (2 : Int32).toNatClampNeg))) fun σ26 =>
      (if ¬ ((1 : Int32) < 0 ∨ gln (t + 5) ≤ (1 : Int32).toNatClampNeg) then
      (if ¬ ((2 : Int32) < 0 ∨ gln (t + 5) ≤ (2 : Int32).toNatClampNeg) then
      (gl (gset σ26 (t + 5) (upd (σ26 (t + 5)) (2 : Int32).toNatClampNeg (σ26 (t + 5) (1 : Int32).toNatClampNeg))) fun σ29 =>
      (if ¬ ((1 : Int32) < 0 ∨ gln (t + 5) ≤ (1 : Int32).toNatClampNeg) then
      (gl (gset σ29 (t + 5) (upd (σ29 (t + 5)) (1 : Int32).toNatClampNeg w20)) fun σ31 =>
      (gl (x4 + 1) fun w32 =>
      fX9_turns_136 t a1 a2 n σ31 w32))
      else none))
      else none)
      else none))
      else none)
      else none))
      else none)
      else none))
      else none))
      else none))
      else none))
      else none))
      else none)
      else none))
      else none))
      else none))
      else none))

def fX9_turns_14 (t : Nat) (a1 : Int32) (a2 : Int32) : Nat → gM → Int32 → Int32 → Option (gM)
  | 0, _, _, _ => none
  | n + 1, σ, x3, x4 =>
    (if 4 ≤ x4 then
      fX9_turns_136 t a1 a2 gF σ 0
    else
      (if x3 = 0 then
        (if ¬ (((3 + (4 * a1)) + x4) < 0 ∨ gln (t + 1) ≤ ((3 + (4 * a1)) + x4).toNatClampNeg) then
        (gl (σ (t + 1) ((3 + (4 * a1)) + x4).toNatClampNeg) fun w35 =>
        (if ¬ (x4 < 0 ∨ gln (t + 4) ≤ x4.toNatClampNeg) then
        (gl (gset σ (t + 4) (upd (σ (t + 4)) x4.toNatClampNeg w35)) fun σ38 =>
        (if ¬ (((51 + (4 * a1)) + x4) < 0 ∨ gln (t + 1) ≤ ((51 + (4 * a1)) + x4).toNatClampNeg) then
        (if ¬ (x4 < 0 ∨ gln (t + 5) ≤ x4.toNatClampNeg) then
        (gl (gset σ38 (t + 5) (upd (σ38 (t + 5)) x4.toNatClampNeg (σ38 (t + 1) ((51 + (4 * a1)) + x4).toNatClampNeg))) fun σ42 =>
        (gl (x4 + 1) fun w43 =>
        fX9_turns_14 t a1 a2 n σ42 x3 w43))
        else none)
        else none))
        else none))
        else none)
      else
        (if (x4 - x4 / 2 * 2) = 1 then
          (gl (4 - x4) fun w45 =>
          (if ¬ (((3 + (4 * a1)) + w45) < 0 ∨ gln (t + 1) ≤ ((3 + (4 * a1)) + w45).toNatClampNeg) then
          (gl (σ (t + 1) ((3 + (4 * a1)) + w45).toNatClampNeg) fun w47 =>
          (if (x4 - x4 / 2 * 2) = 0 then
            ((fX9_reversed σ w47).bind fun v50 =>
            (if ¬ (x4 < 0 ∨ gln (t + 4) ≤ x4.toNatClampNeg) then
            (gl (gset σ (t + 4) (upd (σ (t + 4)) x4.toNatClampNeg v50)) fun σ52 =>
            (if ¬ ((99 + a1) < 0 ∨ gln (t + 1) ≤ (99 + a1).toNatClampNeg) then
            (if (σ52 (t + 1) (99 + a1).toNatClampNeg) = 0 then
              (if ¬ (x4 < 0 ∨ gln (t + 5) ≤ x4.toNatClampNeg) then
              (gl (gset σ52 (t + 5) (upd (σ52 (t + 5)) x4.toNatClampNeg 0)) fun σ57 =>
              (gl (x4 + 1) fun w58 =>
              fX9_turns_14 t a1 a2 n σ57 x3 w58))
              else none)
            else
              (if ¬ (((51 + (4 * a1)) + w45) < 0 ∨ gln (t + 1) ≤ ((51 + (4 * a1)) + w45).toNatClampNeg) then
              (if ¬ (x4 < 0 ∨ gln (t + 5) ≤ x4.toNatClampNeg) then
              (gl (gset σ52 (t + 5) (upd (σ52 (t + 5)) x4.toNatClampNeg (σ52 (t + 1) ((51 + (4 * a1)) + w45).toNatClampNeg))) fun σ61 =>
              (gl (x4 + 1) fun w62 =>
              fX9_turns_14 t a1 a2 n σ61 x3 w62))
              else none)
              else none))
            else none))
            else none))
          else
            (if ¬ (x4 < 0 ∨ gln (t + 4) ≤ x4.toNatClampNeg) then
            (gl (gset σ (t + 4) (upd (σ (t + 4)) x4.toNatClampNeg w47)) fun σ64 =>
            (if ¬ ((99 + a1) < 0 ∨ gln (t + 1) ≤ (99 + a1).toNatClampNeg) then
            (if (σ64 (t + 1) (99 + a1).toNatClampNeg) = 0 then
              (if ¬ (x4 < 0 ∨ gln (t + 5) ≤ x4.toNatClampNeg) then
              (gl (gset σ64 (t + 5) (upd (σ64 (t + 5)) x4.toNatClampNeg 0)) fun σ69 =>
              (gl (x4 + 1) fun w70 =>
              fX9_turns_14 t a1 a2 n σ69 x3 w70))
              else none)
            else
              (if ¬ (((51 + (4 * a1)) + w45) < 0 ∨ gln (t + 1) ≤ ((51 + (4 * a1)) + w45).toNatClampNeg) then
              (if ¬ (x4 < 0 ∨ gln (t + 5) ≤ x4.toNatClampNeg) then
              (gl (gset σ64 (t + 5) (upd (σ64 (t + 5)) x4.toNatClampNeg (σ64 (t + 1) ((51 + (4 * a1)) + w45).toNatClampNeg))) fun σ73 =>
              (gl (x4 + 1) fun w74 =>
              fX9_turns_14 t a1 a2 n σ73 x3 w74))
              else none)
              else none))
            else none))
            else none)))
          else none))
        else
          (if ¬ (((3 + (4 * a1)) + x4) < 0 ∨ gln (t + 1) ≤ ((3 + (4 * a1)) + x4).toNatClampNeg) then
          (gl (σ (t + 1) ((3 + (4 * a1)) + x4).toNatClampNeg) fun w76 =>
          (if (x4 - x4 / 2 * 2) = 0 then
            ((fX9_reversed σ w76).bind fun v79 =>
            (if ¬ (x4 < 0 ∨ gln (t + 4) ≤ x4.toNatClampNeg) then
            (gl (gset σ (t + 4) (upd (σ (t + 4)) x4.toNatClampNeg v79)) fun σ81 =>
            (if ¬ ((99 + a1) < 0 ∨ gln (t + 1) ≤ (99 + a1).toNatClampNeg) then
            (if (σ81 (t + 1) (99 + a1).toNatClampNeg) = 0 then
              (if ¬ (x4 < 0 ∨ gln (t + 5) ≤ x4.toNatClampNeg) then
              (gl (gset σ81 (t + 5) (upd (σ81 (t + 5)) x4.toNatClampNeg 0)) fun σ86 =>
              (gl (x4 + 1) fun w87 =>
              fX9_turns_14 t a1 a2 n σ86 x3 w87))
              else none)
            else
              (if ¬ (((51 + (4 * a1)) + x4) < 0 ∨ gln (t + 1) ≤ ((51 + (4 * a1)) + x4).toNatClampNeg) then
              (if ¬ (x4 < 0 ∨ gln (t + 5) ≤ x4.toNatClampNeg) then
              (gl (gset σ81 (t + 5) (upd (σ81 (t + 5)) x4.toNatClampNeg (σ81 (t + 1) ((51 + (4 * a1)) + x4).toNatClampNeg))) fun σ90 =>
              (gl (x4 + 1) fun w91 =>
              fX9_turns_14 t a1 a2 n σ90 x3 w91))
              else none)
              else none))
            else none))
            else none))
          else
            (if ¬ (x4 < 0 ∨ gln (t + 4) ≤ x4.toNatClampNeg) then
            (gl (gset σ (t + 4) (upd (σ (t + 4)) x4.toNatClampNeg w76)) fun σ93 =>
            (if ¬ ((99 + a1) < 0 ∨ gln (t + 1) ≤ (99 + a1).toNatClampNeg) then
            (if (σ93 (t + 1) (99 + a1).toNatClampNeg) = 0 then
              (if ¬ (x4 < 0 ∨ gln (t + 5) ≤ x4.toNatClampNeg) then
              (gl (gset σ93 (t + 5) (upd (σ93 (t + 5)) x4.toNatClampNeg 0)) fun σ98 =>
              (gl (x4 + 1) fun w99 =>
              fX9_turns_14 t a1 a2 n σ98 x3 w99))
              else none)
            else
              (if ¬ (((51 + (4 * a1)) + x4) < 0 ∨ gln (t + 1) ≤ ((51 + (4 * a1)) + x4).toNatClampNeg) then
              (if ¬ (x4 < 0 ∨ gln (t + 5) ≤ x4.toNatClampNeg) then
              (gl (gset σ93 (t + 5) (upd (σ93 (t + 5)) x4.toNatClampNeg (σ93 (t + 1) ((51 + (4 * a1)) + x4).toNatClampNeg))) fun σ102 =>
              (gl (x4 + 1) fun w103 =>
              fX9_turns_14 t a1 a2 n σ102 x3 w103))
              else none)
              else none))
            else none))
            else none)))
          else none))))

def fX9_turns (σ : gM) (t : Nat) (a1 : Int32) (a2 : Int32) : Option (gM) :=
  (if a2 ≤ 3 then
    fX9_turns_14 t a1 a2 gF σ 0 0
  else
    fX9_turns_14 t a1 a2 gF σ 1 0)
set_option maxHeartbeats 4000000 in
set_option maxRecDepth 100000 in
theorem mX9_turns (l : Launch) (X : gX) (σ σ' : gM) (t : Nat) (a1 : Int32) (a2 : Int32) (ok : gok9 X t) (h : fX9_turns σ t a1 a2 = some σ') : Met l yX9_turns (Cond.code yX9_turns cX9_turns 7 none :: gBig) ({ frames := 1, cells := 0, slots := 0, locals := 20 }) (gPc X σ [.ref (xN X + t), .int a1, .int a2]) (gQv X σ') 0 0 (xA X) := by
  refine g_metv (cc := cX9_turns) (maxL := 7) (own := RX9) (by decide) rfl rfl (Nat.le_of_ble_eq_true rfl) ?_
  intro p ev s m args below meth c Q C G ret ls hl
  obtain ⟨⟨hx, hb, hml, hown, hts⟩, hK⟩ := id C
  have hl : lv_has ls 7 [(0, .ref (xN X + t)), (1, .int a1), (2, .int a2)] := hl
  have L136 : ∀ (n : Nat) (H : Heap) (locs : List Loc) (ls : Array Slot) (σ : gM) (x4 : Int32), gG X σ s H locs → lv_has ls 7 [(0, .ref (xN X + t)), (2, .int a2), (4, .int x4)] → fX9_turns_136 t a1 a2 n σ x4 = some σ' → W p l ev ({ frames := 1, cells := 0, slots := 0, locals := 20 }) s m args below meth c H locs 0 0 Q (F0 m 136 ls []) := by
    intro n
    induction n with
    | zero =>
      intro H locs ls σ x4 G hl h
      rw [fX9_turns_136] at h
      cases h
    | succ n ih =>
      intro H locs ls σ x4 G hl h
      rw [fX9_turns_136] at h
      refine lv_iload hx hb dX9_turns_136 (lv_at hl 2 rfl) ?_
      refine lv_iload_n hx hb dX9_turns_138 rfl (lv_at hl 1 rfl) ?_
      refine lv_iconst (v := 4) hx hb dX9_turns_139 (by decide) ?_
      refine lv_irem hx hb dX9_turns_140 (by decide) ?_
      refine lv_icmp_ge (tgt := 260) hx hb dX9_turns_141 (by decide) (fun c3 => ?_) (fun c3 => ?_)
      · have h := g_it h c3
        exact ret dX9_turns_260 G (Option.some.inj h)
      · have h := g_if h c3
        refine lv_aload_n hx hb dX9_turns_144 rfl (lv_at hl 0 rfl) ?_
        refine gg9_5 C G ok.1 ok.2.1.2.2.2.1 u_fl_RX9_20 dX9_turns_145 ?_
        refine lv_iconst (v := 0) hx hb dX9_turns_148 (by decide) ?_
        obtain ⟨c4, h⟩ := g_chk h
        refine g_iald C G ok.2.2.2.2.2.1 c4 dX9_turns_149 ?_
        refine lv_topi (fun w5 e_w5 => ?_)
        have h := g_let2 e_w5 h
        refine lv_istore (lv' := [(5, .int w5), (0, .ref (xN X + t)), (2, .int a2), (4, .int x4)]) hx hb dX9_turns_150 hl (by decide) rfl (fun ls hl => ?_)
        refine lv_aload_n hx hb dX9_turns_152 rfl (lv_at hl 1 rfl) ?_
        refine gg9_5 C G ok.1 ok.2.1.2.2.2.1 u_fl_RX9_20 dX9_turns_153 ?_
        refine lv_iconst (v := 0) hx hb dX9_turns_156 (by decide) ?_
        refine lv_aload_n hx hb dX9_turns_157 rfl (lv_at hl 1 rfl) ?_
        refine gg9_5 C G ok.1 ok.2.1.2.2.2.1 u_fl_RX9_20 dX9_turns_158 ?_
        refine lv_iconst (v := 3) hx hb dX9_turns_161 (by decide) ?_
        obtain ⟨c6, h⟩ := g_chk h
        refine g_iald C G ok.2.2.2.2.2.1 c6 dX9_turns_162 ?_
        obtain ⟨v7, e_v7, h⟩ := g_bind h
        refine g_calli (g_runS (n := 1) (As := [.int (σ (t + 4) (3 : Int32).toNatClampNeg)]) (rest := [.int 0, .ref (xN X + (t + 4))]) C G (mX9_reversed l X σ (σ (t + 4) (3 : Int32).toNatClampNeg) v7 e_v7) (g_goodS u_ml_RX9_50 u_st_yX9_reversed u_in_RX9 u_co_yX9_reversed) rfl rfl rfl (by decide +kernel) ⟨Nat.le_of_ble_eq_true rfl, Nat.le_of_ble_eq_true rfl⟩ rfl hl.1 rfl (Nat.le_of_ble_eq_true rfl) dX9_turns_163 ⟨Nat.zero_le _, Nat.zero_le _⟩) G (fun H locs G => ?_)
        obtain ⟨c8, h⟩ := g_chk h
        obtain ⟨σ9, e_σ9, h⟩ := g_let h
        refine g_iast C G ok.2.2.2.2.2.1 c8 dX9_turns_166 (fun H locs G => ?_)
        rw [e_σ9] at G
        refine lv_aload_n hx hb dX9_turns_167 rfl (lv_at hl 1 rfl) ?_
        refine gg9_5 C G ok.1 ok.2.1.2.2.2.1 u_fl_RX9_20 dX9_turns_168 ?_
        refine lv_iconst (v := 3) hx hb dX9_turns_171 (by decide) ?_
        refine lv_aload_n hx hb dX9_turns_172 rfl (lv_at hl 1 rfl) ?_
        refine gg9_5 C G ok.1 ok.2.1.2.2.2.1 u_fl_RX9_20 dX9_turns_173 ?_
        refine lv_iconst (v := 2) hx hb dX9_turns_176 (by decide) ?_
        obtain ⟨c10, h⟩ := g_chk h
        refine g_iald C G ok.2.2.2.2.2.1 c10 dX9_turns_177 ?_
        obtain ⟨c11, h⟩ := g_chk h
        obtain ⟨σ12, e_σ12, h⟩ := g_let h
        refine g_iast C G ok.2.2.2.2.2.1 c11 dX9_turns_178 (fun H locs G => ?_)
        rw [e_σ12] at G
        refine lv_aload_n hx hb dX9_turns_179 rfl (lv_at hl 1 rfl) ?_
        refine gg9_5 C G ok.1 ok.2.1.2.2.2.1 u_fl_RX9_20 dX9_turns_180 ?_
        refine lv_iconst (v := 2) hx hb dX9_turns_183 (by decide) ?_
        refine lv_aload_n hx hb dX9_turns_184 rfl (lv_at hl 1 rfl) ?_
        refine gg9_5 C G ok.1 ok.2.1.2.2.2.1 u_fl_RX9_20 dX9_turns_185 ?_
        refine lv_iconst (v := 1) hx hb dX9_turns_188 (by decide) ?_
        obtain ⟨c13, h⟩ := g_chk h
        refine g_iald C G ok.2.2.2.2.2.1 c13 dX9_turns_189 ?_
        obtain ⟨v14, e_v14, h⟩ := g_bind h
        refine g_calli (g_runS (n := 1) (As := [.int (σ12 (t + 4) (1 : Int32).toNatClampNeg)]) (rest := [.int 2, .ref (xN X + (t + 4))]) C G (mX9_reversed l X σ12 (σ12 (t + 4) (1 : Int32).toNatClampNeg) v14 e_v14) (g_goodS u_ml_RX9_50 u_st_yX9_reversed u_in_RX9 u_co_yX9_reversed) rfl rfl rfl (by decide +kernel) ⟨Nat.le_of_ble_eq_true rfl, Nat.le_of_ble_eq_true rfl⟩ rfl hl.1 rfl (Nat.le_of_ble_eq_true rfl) dX9_turns_190 ⟨Nat.zero_le _, Nat.zero_le _⟩) G (fun H locs G => ?_)
        obtain ⟨c15, h⟩ := g_chk h
        obtain ⟨σ16, e_σ16, h⟩ := g_let h
        refine g_iast C G ok.2.2.2.2.2.1 c15 dX9_turns_193 (fun H locs G => ?_)
        rw [e_σ16] at G
        refine lv_aload_n hx hb dX9_turns_194 rfl (lv_at hl 1 rfl) ?_
        refine gg9_5 C G ok.1 ok.2.1.2.2.2.1 u_fl_RX9_20 dX9_turns_195 ?_
        refine lv_iconst (v := 1) hx hb dX9_turns_198 (by decide) ?_
        refine lv_iload hx hb dX9_turns_199 (lv_at hl 0 rfl) ?_
        obtain ⟨c17, h⟩ := g_chk h
        obtain ⟨σ18, e_σ18, h⟩ := g_let h
        refine g_iast C G ok.2.2.2.2.2.1 c17 dX9_turns_201 (fun H locs G => ?_)
        rw [e_σ18] at G
        refine lv_aload_n hx hb dX9_turns_202 rfl (lv_at hl 1 rfl) ?_
        refine gg9_6 C G ok.1 ok.2.1.2.2.2.2.1 u_fl_RX9_23 dX9_turns_203 ?_
        refine lv_iconst (v := 0) hx hb dX9_turns_206 (by decide) ?_
        obtain ⟨c19, h⟩ := g_chk h
        refine g_iald C G ok.2.2.2.2.2.2.1 c19 dX9_turns_207 ?_
        refine lv_topi (fun w20 e_w20 => ?_)
        have h := g_let2 e_w20 h
        refine lv_istore (lv' := [(6, .int w20), (5, .int w5), (0, .ref (xN X + t)), (2, .int a2), (4, .int x4)]) hx hb dX9_turns_208 hl (by decide) rfl (fun ls hl => ?_)
        refine lv_aload_n hx hb dX9_turns_210 rfl (lv_at hl 2 rfl) ?_
        refine gg9_6 C G ok.1 ok.2.1.2.2.2.2.1 u_fl_RX9_23 dX9_turns_211 ?_
        refine lv_iconst (v := 0) hx hb dX9_turns_214 (by decide) ?_
        refine lv_aload_n hx hb dX9_turns_215 rfl (lv_at hl 2 rfl) ?_
        refine gg9_6 C G ok.1 ok.2.1.2.2.2.2.1 u_fl_RX9_23 dX9_turns_216 ?_
        refine lv_iconst (v := 3) hx hb dX9_turns_219 (by decide) ?_
        obtain ⟨c21, h⟩ := g_chk h
        refine g_iald C G ok.2.2.2.2.2.2.1 c21 dX9_turns_220 ?_
        obtain ⟨c22, h⟩ := g_chk h
        obtain ⟨σ23, e_σ23, h⟩ := g_let h
        refine g_iast C G ok.2.2.2.2.2.2.1 c22 dX9_turns_221 (fun H locs G => ?_)
        rw [e_σ23] at G
        refine lv_aload_n hx hb dX9_turns_222 rfl (lv_at hl 2 rfl) ?_
        refine gg9_6 C G ok.1 ok.2.1.2.2.2.2.1 u_fl_RX9_23 dX9_turns_223 ?_
        refine lv_iconst (v := 3) hx hb dX9_turns_226 (by decide) ?_
        refine lv_aload_n hx hb dX9_turns_227 rfl (lv_at hl 2 rfl) ?_
        refine gg9_6 C G ok.1 ok.2.1.2.2.2.2.1 u_fl_RX9_23 dX9_turns_228 ?_
        refine lv_iconst (v := 2) hx hb dX9_turns_231 (by decide) ?_
        obtain ⟨c24, h⟩ := g_chk h
        refine g_iald C G ok.2.2.2.2.2.2.1 c24 dX9_turns_232 ?_
        obtain ⟨c25, h⟩ := g_chk h
        obtain ⟨σ26, e_σ26, h⟩ := g_let h
        refine g_iast C G ok.2.2.2.2.2.2.1 c25 dX9_turns_233 (fun H locs G => ?_)
        rw [e_σ26] at G
        refine lv_aload_n hx hb dX9_turns_234 rfl (lv_at hl 2 rfl) ?_
        refine gg9_6 C G ok.1 ok.2.1.2.2.2.2.1 u_fl_RX9_23 dX9_turns_235 ?_
        refine lv_iconst (v := 2) hx hb dX9_turns_238 (by decide) ?_
        refine lv_aload_n hx hb dX9_turns_239 rfl (lv_at hl 2 rfl) ?_
        refine gg9_6 C G ok.1 ok.2.1.2.2.2.2.1 u_fl_RX9_23 dX9_turns_240 ?_
        refine lv_iconst (v := 1) hx hb dX9_turns_243 (by decide) ?_
        obtain ⟨c27, h⟩ := g_chk h
        refine g_iald C G ok.2.2.2.2.2.2.1 c27 dX9_turns_244 ?_
        obtain ⟨c28, h⟩ := g_chk h
        obtain ⟨σ29, e_σ29, h⟩ := g_let h
        refine g_iast C G ok.2.2.2.2.2.2.1 c28 dX9_turns_245 (fun H locs G => ?_)
        rw [e_σ29] at G
        refine lv_aload_n hx hb dX9_turns_246 rfl (lv_at hl 2 rfl) ?_
        refine gg9_6 C G ok.1 ok.2.1.2.2.2.2.1 u_fl_RX9_23 dX9_turns_247 ?_
        refine lv_iconst (v := 1) hx hb dX9_turns_250 (by decide) ?_
        refine lv_iload hx hb dX9_turns_251 (lv_at hl 0 rfl) ?_
        obtain ⟨c30, h⟩ := g_chk h
        obtain ⟨σ31, e_σ31, h⟩ := g_let h
        refine g_iast C G ok.2.2.2.2.2.2.1 c30 dX9_turns_253 (fun H locs G => ?_)
        rw [e_σ31] at G
        obtain ⟨w32, e_w32⟩ : ∃ y : Int32, y = x4 + 1 := ⟨_, rfl⟩
        have h := g_let2 e_w32 h
        refine lv_iinc (v := w32) (lv' := [(4, .int w32), (6, .int w20), (5, .int w5), (0, .ref (xN X + t)), (2, .int a2)]) hx hb dX9_turns_254 hl (k := 4) rfl (by rw [e_w32]; rfl) (by decide) rfl (fun ls hl => ?_)
        refine lv_goto (tgt := 136) hx hb dX9_turns_257 (by decide) ?_
        exact ih _ _ _ σ31 w32 G (lv_sub hl [3, 4, 0] rfl) h
  have L14 : ∀ (n : Nat) (H : Heap) (locs : List Loc) (ls : Array Slot) (σ : gM) (x3 : Int32) (x4 : Int32), gG X σ s H locs → lv_has ls 7 [(0, .ref (xN X + t)), (1, .int a1), (2, .int a2), (3, .int x3), (4, .int x4)] → fX9_turns_14 t a1 a2 n σ x3 x4 = some σ' → W p l ev ({ frames := 1, cells := 0, slots := 0, locals := 20 }) s m args below meth c H locs 0 0 Q (F0 m 14 ls []) := by
    intro n
    induction n with
    | zero =>
      intro H locs ls σ x3 x4 G hl h
      rw [fX9_turns_14] at h
      cases h
    | succ n ih =>
      intro H locs ls σ x3 x4 G hl h
      rw [fX9_turns_14] at h
      refine lv_iload hx hb dX9_turns_14 (lv_at hl 4 rfl) ?_
      refine lv_iconst (v := 4) hx hb dX9_turns_16 (by decide) ?_
      refine lv_icmp_ge (tgt := 133) hx hb dX9_turns_17 (by decide) (fun c2 => ?_) (fun c2 => ?_)
      · have h := g_it h c2
        refine lv_iconst (v := 0) hx hb dX9_turns_133 (by decide) ?_
        refine lv_istore (lv' := [(4, .int 0), (0, .ref (xN X + t)), (1, .int a1), (2, .int a2), (3, .int x3)]) hx hb dX9_turns_134 hl (by decide) rfl (fun ls hl => ?_)
        exact L136  gF _ _ _ σ 0 G (lv_sub hl [1, 3, 0] rfl) h
      · have h := g_if h c2
        refine lv_iload_n hx hb dX9_turns_20 rfl (lv_at hl 3 rfl) ?_
        refine lv_if_eq (tgt := 39) hx hb dX9_turns_21 (by decide) (fun c33 => ?_) (fun c33 => ?_)
        · have h := g_it h c33
          refine lv_iload hx hb dX9_turns_39 (lv_at hl 4 rfl) ?_
          refine lv_istore (lv' := [(5, .int x4), (0, .ref (xN X + t)), (1, .int a1), (2, .int a2), (3, .int x3), (4, .int x4)]) hx hb dX9_turns_41 hl (by decide) rfl (fun ls hl => ?_)
          refine lv_aload_n hx hb dX9_turns_43 rfl (lv_at hl 1 rfl) ?_
          refine gg9_0 C G ok.1 ok.2.1.1 u_fl_RX9_7 dX9_turns_44 ?_
          refine lv_iconst (v := 3) hx hb dX9_turns_47 (by decide) ?_
          refine lv_iconst (v := 4) hx hb dX9_turns_48 (by decide) ?_
          refine lv_iload_n hx hb dX9_turns_49 rfl (lv_at hl 2 rfl) ?_
          refine lv_imul hx hb dX9_turns_50 ?_
          refine lv_iadd hx hb dX9_turns_51 ?_
          refine lv_iload hx hb dX9_turns_52 (lv_at hl 0 rfl) ?_
          refine lv_iadd hx hb dX9_turns_54 ?_
          obtain ⟨c34, h⟩ := g_chk h
          refine g_iald C G ok.2.2.1 c34 dX9_turns_55 ?_
          refine lv_topi (fun w35 e_w35 => ?_)
          have h := g_let2 e_w35 h
          refine lv_istore (lv' := [(6, .int w35), (5, .int x4), (0, .ref (xN X + t)), (1, .int a1), (2, .int a2), (3, .int x3), (4, .int x4)]) hx hb dX9_turns_56 hl (by decide) rfl (fun ls hl => ?_)
          refine lv_aload_n hx hb dX9_turns_58 rfl (lv_at hl 2 rfl) ?_
          refine gg9_5 C G ok.1 ok.2.1.2.2.2.1 u_fl_RX9_20 dX9_turns_59 ?_
          refine lv_iload hx hb dX9_turns_62 (lv_at hl 6 rfl) ?_
          refine lv_iload_n hx hb dX9_turns_64 rfl (lv_at hl 5 rfl) ?_
          refine lv_if_eq (tgt := 83) hx hb dX9_turns_65 (by decide) (fun _ => ?_) (fun c36 => absurd c33 c36)
          refine lv_iload hx hb dX9_turns_83 (lv_at hl 0 rfl) ?_
          obtain ⟨c37, h⟩ := g_chk h
          obtain ⟨σ38, e_σ38, h⟩ := g_let h
          refine g_iast C G ok.2.2.2.2.2.1 c37 dX9_turns_85 (fun H locs G => ?_)
          rw [e_σ38] at G
          refine lv_aload_n hx hb dX9_turns_86 rfl (lv_at hl 2 rfl) ?_
          refine gg9_6 C G ok.1 ok.2.1.2.2.2.2.1 u_fl_RX9_23 dX9_turns_87 ?_
          refine lv_iload hx hb dX9_turns_90 (lv_at hl 6 rfl) ?_
          refine lv_iload_n hx hb dX9_turns_92 rfl (lv_at hl 5 rfl) ?_
          refine lv_if_eq (tgt := 112) hx hb dX9_turns_93 (by decide) (fun _ => ?_) (fun c39 => absurd c33 c39)
          refine lv_aload_n hx hb dX9_turns_112 rfl (lv_at hl 2 rfl) ?_
          refine gg9_0 C G ok.1 ok.2.1.1 u_fl_RX9_7 dX9_turns_113 ?_
          refine lv_bipush (v := 51) hx hb dX9_turns_116 (by decide) ?_
          refine lv_iconst (v := 4) hx hb dX9_turns_118 (by decide) ?_
          refine lv_iload_n hx hb dX9_turns_119 rfl (lv_at hl 3 rfl) ?_
          refine lv_imul hx hb dX9_turns_120 ?_
          refine lv_iadd hx hb dX9_turns_121 ?_
          refine lv_iload hx hb dX9_turns_122 (lv_at hl 1 rfl) ?_
          refine lv_iadd hx hb dX9_turns_124 ?_
          obtain ⟨c40, h⟩ := g_chk h
          refine g_iald C G ok.2.2.1 c40 dX9_turns_125 ?_
          obtain ⟨c41, h⟩ := g_chk h
          obtain ⟨σ42, e_σ42, h⟩ := g_let h
          refine g_iast C G ok.2.2.2.2.2.2.1 c41 dX9_turns_126 (fun H locs G => ?_)
          rw [e_σ42] at G
          obtain ⟨w43, e_w43⟩ : ∃ y : Int32, y = x4 + 1 := ⟨_, rfl⟩
          have h := g_let2 e_w43 h
          refine lv_iinc (v := w43) (lv' := [(4, .int w43), (6, .int w35), (5, .int x4), (0, .ref (xN X + t)), (1, .int a1), (2, .int a2), (3, .int x3)]) hx hb dX9_turns_127 hl (k := 6) rfl (by rw [e_w43]; rfl) (by decide) rfl (fun ls hl => ?_)
          refine lv_goto (tgt := 14) hx hb dX9_turns_130 (by decide) ?_
          exact ih _ _ _ σ42 x3 w43 G (lv_sub hl [3, 4, 5, 6, 0] rfl) h
        · have h := g_if h c33
          refine lv_iload hx hb dX9_turns_24 (lv_at hl 4 rfl) ?_
          refine lv_iconst (v := 2) hx hb dX9_turns_26 (by decide) ?_
          refine lv_irem hx hb dX9_turns_27 (by decide) ?_
          refine lv_iconst (v := 1) hx hb dX9_turns_28 (by decide) ?_
          refine lv_icmp_ne (tgt := 39) hx hb dX9_turns_29 (by decide) (fun c44 => ?_) (fun c44 => ?_)
          · have h := g_if h c44
            refine lv_iload hx hb dX9_turns_39 (lv_at hl 4 rfl) ?_
            refine lv_istore (lv' := [(5, .int x4), (0, .ref (xN X + t)), (1, .int a1), (2, .int a2), (3, .int x3), (4, .int x4)]) hx hb dX9_turns_41 hl (by decide) rfl (fun ls hl => ?_)
            refine lv_aload_n hx hb dX9_turns_43 rfl (lv_at hl 1 rfl) ?_
            refine gg9_0 C G ok.1 ok.2.1.1 u_fl_RX9_7 dX9_turns_44 ?_
            refine lv_iconst (v := 3) hx hb dX9_turns_47 (by decide) ?_
            refine lv_iconst (v := 4) hx hb dX9_turns_48 (by decide) ?_
            refine lv_iload_n hx hb dX9_turns_49 rfl (lv_at hl 2 rfl) ?_
            refine lv_imul hx hb dX9_turns_50 ?_
            refine lv_iadd hx hb dX9_turns_51 ?_
            refine lv_iload hx hb dX9_turns_52 (lv_at hl 0 rfl) ?_
            refine lv_iadd hx hb dX9_turns_54 ?_
            obtain ⟨c75, h⟩ := g_chk h
            refine g_iald C G ok.2.2.1 c75 dX9_turns_55 ?_
            refine lv_topi (fun w76 e_w76 => ?_)
            have h := g_let2 e_w76 h
            refine lv_istore (lv' := [(6, .int w76), (5, .int x4), (0, .ref (xN X + t)), (1, .int a1), (2, .int a2), (3, .int x3), (4, .int x4)]) hx hb dX9_turns_56 hl (by decide) rfl (fun ls hl => ?_)
            refine lv_aload_n hx hb dX9_turns_58 rfl (lv_at hl 2 rfl) ?_
            refine gg9_5 C G ok.1 ok.2.1.2.2.2.1 u_fl_RX9_20 dX9_turns_59 ?_
            refine lv_iload hx hb dX9_turns_62 (lv_at hl 6 rfl) ?_
            refine lv_iload_n hx hb dX9_turns_64 rfl (lv_at hl 5 rfl) ?_
            refine lv_if_eq (tgt := 83) hx hb dX9_turns_65 (by decide) (fun c77 => absurd c77 c33) (fun _ => ?_)
            refine lv_iload hx hb dX9_turns_68 (lv_at hl 6 rfl) ?_
            refine lv_iconst (v := 2) hx hb dX9_turns_70 (by decide) ?_
            refine lv_irem hx hb dX9_turns_71 (by decide) ?_
            refine lv_if_ne (tgt := 83) hx hb dX9_turns_72 (by decide) (fun c78 => ?_) (fun c78 => ?_)
            · have h := g_if h c78
              refine lv_iload hx hb dX9_turns_83 (lv_at hl 0 rfl) ?_
              obtain ⟨c92, h⟩ := g_chk h
              obtain ⟨σ93, e_σ93, h⟩ := g_let h
              refine g_iast C G ok.2.2.2.2.2.1 c92 dX9_turns_85 (fun H locs G => ?_)
              rw [e_σ93] at G
              refine lv_aload_n hx hb dX9_turns_86 rfl (lv_at hl 2 rfl) ?_
              refine gg9_6 C G ok.1 ok.2.1.2.2.2.2.1 u_fl_RX9_23 dX9_turns_87 ?_
              refine lv_iload hx hb dX9_turns_90 (lv_at hl 6 rfl) ?_
              refine lv_iload_n hx hb dX9_turns_92 rfl (lv_at hl 5 rfl) ?_
              refine lv_if_eq (tgt := 112) hx hb dX9_turns_93 (by decide) (fun c94 => absurd c94 c33) (fun _ => ?_)
              refine lv_aload_n hx hb dX9_turns_96 rfl (lv_at hl 2 rfl) ?_
              refine gg9_0 C G ok.1 ok.2.1.1 u_fl_RX9_7 dX9_turns_97 ?_
              refine lv_bipush (v := 99) hx hb dX9_turns_100 (by decide) ?_
              refine lv_iload_n hx hb dX9_turns_102 rfl (lv_at hl 3 rfl) ?_
              refine lv_iadd hx hb dX9_turns_103 ?_
              obtain ⟨c95, h⟩ := g_chk h
              refine g_iald C G ok.2.2.1 c95 dX9_turns_104 ?_
              refine lv_if_ne (tgt := 112) hx hb dX9_turns_105 (by decide) (fun c96 => ?_) (fun c96 => ?_)
              · have h := g_if h c96
                refine lv_aload_n hx hb dX9_turns_112 rfl (lv_at hl 2 rfl) ?_
                refine gg9_0 C G ok.1 ok.2.1.1 u_fl_RX9_7 dX9_turns_113 ?_
                refine lv_bipush (v := 51) hx hb dX9_turns_116 (by decide) ?_
                refine lv_iconst (v := 4) hx hb dX9_turns_118 (by decide) ?_
                refine lv_iload_n hx hb dX9_turns_119 rfl (lv_at hl 3 rfl) ?_
                refine lv_imul hx hb dX9_turns_120 ?_
                refine lv_iadd hx hb dX9_turns_121 ?_
                refine lv_iload hx hb dX9_turns_122 (lv_at hl 1 rfl) ?_
                refine lv_iadd hx hb dX9_turns_124 ?_
                obtain ⟨c100, h⟩ := g_chk h
                refine g_iald C G ok.2.2.1 c100 dX9_turns_125 ?_
                obtain ⟨c101, h⟩ := g_chk h
                obtain ⟨σ102, e_σ102, h⟩ := g_let h
                refine g_iast C G ok.2.2.2.2.2.2.1 c101 dX9_turns_126 (fun H locs G => ?_)
                rw [e_σ102] at G
                obtain ⟨w103, e_w103⟩ : ∃ y : Int32, y = x4 + 1 := ⟨_, rfl⟩
                have h := g_let2 e_w103 h
                refine lv_iinc (v := w103) (lv' := [(4, .int w103), (6, .int w76), (5, .int x4), (0, .ref (xN X + t)), (1, .int a1), (2, .int a2), (3, .int x3)]) hx hb dX9_turns_127 hl (k := 6) rfl (by rw [e_w103]; rfl) (by decide) rfl (fun ls hl => ?_)
                refine lv_goto (tgt := 14) hx hb dX9_turns_130 (by decide) ?_
                exact ih _ _ _ σ102 x3 w103 G (lv_sub hl [3, 4, 5, 6, 0] rfl) h
              · have h := g_it h c96
                refine lv_iconst (v := 0) hx hb dX9_turns_108 (by decide) ?_
                refine lv_goto (tgt := 126) hx hb dX9_turns_109 (by decide) ?_
                obtain ⟨c97, h⟩ := g_chk h
                obtain ⟨σ98, e_σ98, h⟩ := g_let h
                refine g_iast C G ok.2.2.2.2.2.2.1 c97 dX9_turns_126 (fun H locs G => ?_)
                rw [e_σ98] at G
                obtain ⟨w99, e_w99⟩ : ∃ y : Int32, y = x4 + 1 := ⟨_, rfl⟩
                have h := g_let2 e_w99 h
                refine lv_iinc (v := w99) (lv' := [(4, .int w99), (6, .int w76), (5, .int x4), (0, .ref (xN X + t)), (1, .int a1), (2, .int a2), (3, .int x3)]) hx hb dX9_turns_127 hl (k := 6) rfl (by rw [e_w99]; rfl) (by decide) rfl (fun ls hl => ?_)
                refine lv_goto (tgt := 14) hx hb dX9_turns_130 (by decide) ?_
                exact ih _ _ _ σ98 x3 w99 G (lv_sub hl [3, 4, 5, 6, 0] rfl) h
            · have h := g_it h c78
              refine lv_iload hx hb dX9_turns_75 (lv_at hl 0 rfl) ?_
              obtain ⟨v79, e_v79, h⟩ := g_bind h
              refine g_calli (g_runS (n := 1) (As := [.int w76]) (rest := [.int x4, .ref (xN X + (t + 4))]) C G (mX9_reversed l X σ w76 v79 e_v79) (g_goodS u_ml_RX9_50 u_st_yX9_reversed u_in_RX9 u_co_yX9_reversed) rfl rfl rfl (by decide +kernel) ⟨Nat.le_of_ble_eq_true rfl, Nat.le_of_ble_eq_true rfl⟩ rfl hl.1 rfl (Nat.le_of_ble_eq_true rfl) dX9_turns_77 ⟨Nat.zero_le _, Nat.zero_le _⟩) G (fun H locs G => ?_)
              refine lv_goto (tgt := 85) hx hb dX9_turns_80 (by decide) ?_
              obtain ⟨c80, h⟩ := g_chk h
              obtain ⟨σ81, e_σ81, h⟩ := g_let h
              refine g_iast C G ok.2.2.2.2.2.1 c80 dX9_turns_85 (fun H locs G => ?_)
              rw [e_σ81] at G
              refine lv_aload_n hx hb dX9_turns_86 rfl (lv_at hl 2 rfl) ?_
              refine gg9_6 C G ok.1 ok.2.1.2.2.2.2.1 u_fl_RX9_23 dX9_turns_87 ?_
              refine lv_iload hx hb dX9_turns_90 (lv_at hl 6 rfl) ?_
              refine lv_iload_n hx hb dX9_turns_92 rfl (lv_at hl 5 rfl) ?_
              refine lv_if_eq (tgt := 112) hx hb dX9_turns_93 (by decide) (fun c82 => absurd c82 c33) (fun _ => ?_)
              refine lv_aload_n hx hb dX9_turns_96 rfl (lv_at hl 2 rfl) ?_
              refine gg9_0 C G ok.1 ok.2.1.1 u_fl_RX9_7 dX9_turns_97 ?_
              refine lv_bipush (v := 99) hx hb dX9_turns_100 (by decide) ?_
              refine lv_iload_n hx hb dX9_turns_102 rfl (lv_at hl 3 rfl) ?_
              refine lv_iadd hx hb dX9_turns_103 ?_
              obtain ⟨c83, h⟩ := g_chk h
              refine g_iald C G ok.2.2.1 c83 dX9_turns_104 ?_
              refine lv_if_ne (tgt := 112) hx hb dX9_turns_105 (by decide) (fun c84 => ?_) (fun c84 => ?_)
              · have h := g_if h c84
                refine lv_aload_n hx hb dX9_turns_112 rfl (lv_at hl 2 rfl) ?_
                refine gg9_0 C G ok.1 ok.2.1.1 u_fl_RX9_7 dX9_turns_113 ?_
                refine lv_bipush (v := 51) hx hb dX9_turns_116 (by decide) ?_
                refine lv_iconst (v := 4) hx hb dX9_turns_118 (by decide) ?_
                refine lv_iload_n hx hb dX9_turns_119 rfl (lv_at hl 3 rfl) ?_
                refine lv_imul hx hb dX9_turns_120 ?_
                refine lv_iadd hx hb dX9_turns_121 ?_
                refine lv_iload hx hb dX9_turns_122 (lv_at hl 1 rfl) ?_
                refine lv_iadd hx hb dX9_turns_124 ?_
                obtain ⟨c88, h⟩ := g_chk h
                refine g_iald C G ok.2.2.1 c88 dX9_turns_125 ?_
                obtain ⟨c89, h⟩ := g_chk h
                obtain ⟨σ90, e_σ90, h⟩ := g_let h
                refine g_iast C G ok.2.2.2.2.2.2.1 c89 dX9_turns_126 (fun H locs G => ?_)
                rw [e_σ90] at G
                obtain ⟨w91, e_w91⟩ : ∃ y : Int32, y = x4 + 1 := ⟨_, rfl⟩
                have h := g_let2 e_w91 h
                refine lv_iinc (v := w91) (lv' := [(4, .int w91), (6, .int w76), (5, .int x4), (0, .ref (xN X + t)), (1, .int a1), (2, .int a2), (3, .int x3)]) hx hb dX9_turns_127 hl (k := 6) rfl (by rw [e_w91]; rfl) (by decide) rfl (fun ls hl => ?_)
                refine lv_goto (tgt := 14) hx hb dX9_turns_130 (by decide) ?_
                exact ih _ _ _ σ90 x3 w91 G (lv_sub hl [3, 4, 5, 6, 0] rfl) h
              · have h := g_it h c84
                refine lv_iconst (v := 0) hx hb dX9_turns_108 (by decide) ?_
                refine lv_goto (tgt := 126) hx hb dX9_turns_109 (by decide) ?_
                obtain ⟨c85, h⟩ := g_chk h
                obtain ⟨σ86, e_σ86, h⟩ := g_let h
                refine g_iast C G ok.2.2.2.2.2.2.1 c85 dX9_turns_126 (fun H locs G => ?_)
                rw [e_σ86] at G
                obtain ⟨w87, e_w87⟩ : ∃ y : Int32, y = x4 + 1 := ⟨_, rfl⟩
                have h := g_let2 e_w87 h
                refine lv_iinc (v := w87) (lv' := [(4, .int w87), (6, .int w76), (5, .int x4), (0, .ref (xN X + t)), (1, .int a1), (2, .int a2), (3, .int x3)]) hx hb dX9_turns_127 hl (k := 6) rfl (by rw [e_w87]; rfl) (by decide) rfl (fun ls hl => ?_)
                refine lv_goto (tgt := 14) hx hb dX9_turns_130 (by decide) ?_
                exact ih _ _ _ σ86 x3 w87 G (lv_sub hl [3, 4, 5, 6, 0] rfl) h
          · have h := g_it h c44
            refine lv_iconst (v := 4) hx hb dX9_turns_32 (by decide) ?_
            refine lv_iload hx hb dX9_turns_33 (lv_at hl 4 rfl) ?_
            refine lv_isub hx hb dX9_turns_35 ?_
            refine lv_goto (tgt := 41) hx hb dX9_turns_36 (by decide) ?_
            refine lv_topi (fun w45 e_w45 => ?_)
            have h := g_let2 e_w45 h
            refine lv_istore (lv' := [(5, .int w45), (0, .ref (xN X + t)), (1, .int a1), (2, .int a2), (3, .int x3), (4, .int x4)]) hx hb dX9_turns_41 hl (by decide) rfl (fun ls hl => ?_)
            refine lv_aload_n hx hb dX9_turns_43 rfl (lv_at hl 1 rfl) ?_
            refine gg9_0 C G ok.1 ok.2.1.1 u_fl_RX9_7 dX9_turns_44 ?_
            refine lv_iconst (v := 3) hx hb dX9_turns_47 (by decide) ?_
            refine lv_iconst (v := 4) hx hb dX9_turns_48 (by decide) ?_
            refine lv_iload_n hx hb dX9_turns_49 rfl (lv_at hl 2 rfl) ?_
            refine lv_imul hx hb dX9_turns_50 ?_
            refine lv_iadd hx hb dX9_turns_51 ?_
            refine lv_iload hx hb dX9_turns_52 (lv_at hl 0 rfl) ?_
            refine lv_iadd hx hb dX9_turns_54 ?_
            obtain ⟨c46, h⟩ := g_chk h
            refine g_iald C G ok.2.2.1 c46 dX9_turns_55 ?_
            refine lv_topi (fun w47 e_w47 => ?_)
            have h := g_let2 e_w47 h
            refine lv_istore (lv' := [(6, .int w47), (5, .int w45), (0, .ref (xN X + t)), (1, .int a1), (2, .int a2), (3, .int x3), (4, .int x4)]) hx hb dX9_turns_56 hl (by decide) rfl (fun ls hl => ?_)
            refine lv_aload_n hx hb dX9_turns_58 rfl (lv_at hl 2 rfl) ?_
            refine gg9_5 C G ok.1 ok.2.1.2.2.2.1 u_fl_RX9_20 dX9_turns_59 ?_
            refine lv_iload hx hb dX9_turns_62 (lv_at hl 6 rfl) ?_
            refine lv_iload_n hx hb dX9_turns_64 rfl (lv_at hl 5 rfl) ?_
            refine lv_if_eq (tgt := 83) hx hb dX9_turns_65 (by decide) (fun c48 => absurd c48 c33) (fun _ => ?_)
            refine lv_iload hx hb dX9_turns_68 (lv_at hl 6 rfl) ?_
            refine lv_iconst (v := 2) hx hb dX9_turns_70 (by decide) ?_
            refine lv_irem hx hb dX9_turns_71 (by decide) ?_
            refine lv_if_ne (tgt := 83) hx hb dX9_turns_72 (by decide) (fun c49 => ?_) (fun c49 => ?_)
            · have h := g_if h c49
              refine lv_iload hx hb dX9_turns_83 (lv_at hl 0 rfl) ?_
              obtain ⟨c63, h⟩ := g_chk h
              obtain ⟨σ64, e_σ64, h⟩ := g_let h
              refine g_iast C G ok.2.2.2.2.2.1 c63 dX9_turns_85 (fun H locs G => ?_)
              rw [e_σ64] at G
              refine lv_aload_n hx hb dX9_turns_86 rfl (lv_at hl 2 rfl) ?_
              refine gg9_6 C G ok.1 ok.2.1.2.2.2.2.1 u_fl_RX9_23 dX9_turns_87 ?_
              refine lv_iload hx hb dX9_turns_90 (lv_at hl 6 rfl) ?_
              refine lv_iload_n hx hb dX9_turns_92 rfl (lv_at hl 5 rfl) ?_
              refine lv_if_eq (tgt := 112) hx hb dX9_turns_93 (by decide) (fun c65 => absurd c65 c33) (fun _ => ?_)
              refine lv_aload_n hx hb dX9_turns_96 rfl (lv_at hl 2 rfl) ?_
              refine gg9_0 C G ok.1 ok.2.1.1 u_fl_RX9_7 dX9_turns_97 ?_
              refine lv_bipush (v := 99) hx hb dX9_turns_100 (by decide) ?_
              refine lv_iload_n hx hb dX9_turns_102 rfl (lv_at hl 3 rfl) ?_
              refine lv_iadd hx hb dX9_turns_103 ?_
              obtain ⟨c66, h⟩ := g_chk h
              refine g_iald C G ok.2.2.1 c66 dX9_turns_104 ?_
              refine lv_if_ne (tgt := 112) hx hb dX9_turns_105 (by decide) (fun c67 => ?_) (fun c67 => ?_)
              · have h := g_if h c67
                refine lv_aload_n hx hb dX9_turns_112 rfl (lv_at hl 2 rfl) ?_
                refine gg9_0 C G ok.1 ok.2.1.1 u_fl_RX9_7 dX9_turns_113 ?_
                refine lv_bipush (v := 51) hx hb dX9_turns_116 (by decide) ?_
                refine lv_iconst (v := 4) hx hb dX9_turns_118 (by decide) ?_
                refine lv_iload_n hx hb dX9_turns_119 rfl (lv_at hl 3 rfl) ?_
                refine lv_imul hx hb dX9_turns_120 ?_
                refine lv_iadd hx hb dX9_turns_121 ?_
                refine lv_iload hx hb dX9_turns_122 (lv_at hl 1 rfl) ?_
                refine lv_iadd hx hb dX9_turns_124 ?_
                obtain ⟨c71, h⟩ := g_chk h
                refine g_iald C G ok.2.2.1 c71 dX9_turns_125 ?_
                obtain ⟨c72, h⟩ := g_chk h
                obtain ⟨σ73, e_σ73, h⟩ := g_let h
                refine g_iast C G ok.2.2.2.2.2.2.1 c72 dX9_turns_126 (fun H locs G => ?_)
                rw [e_σ73] at G
                obtain ⟨w74, e_w74⟩ : ∃ y : Int32, y = x4 + 1 := ⟨_, rfl⟩
                have h := g_let2 e_w74 h
                refine lv_iinc (v := w74) (lv' := [(4, .int w74), (6, .int w47), (5, .int w45), (0, .ref (xN X + t)), (1, .int a1), (2, .int a2), (3, .int x3)]) hx hb dX9_turns_127 hl (k := 6) rfl (by rw [e_w74]; rfl) (by decide) rfl (fun ls hl => ?_)
                refine lv_goto (tgt := 14) hx hb dX9_turns_130 (by decide) ?_
                exact ih _ _ _ σ73 x3 w74 G (lv_sub hl [3, 4, 5, 6, 0] rfl) h
              · have h := g_it h c67
                refine lv_iconst (v := 0) hx hb dX9_turns_108 (by decide) ?_
                refine lv_goto (tgt := 126) hx hb dX9_turns_109 (by decide) ?_
                obtain ⟨c68, h⟩ := g_chk h
                obtain ⟨σ69, e_σ69, h⟩ := g_let h
                refine g_iast C G ok.2.2.2.2.2.2.1 c68 dX9_turns_126 (fun H locs G => ?_)
                rw [e_σ69] at G
                obtain ⟨w70, e_w70⟩ : ∃ y : Int32, y = x4 + 1 := ⟨_, rfl⟩
                have h := g_let2 e_w70 h
                refine lv_iinc (v := w70) (lv' := [(4, .int w70), (6, .int w47), (5, .int w45), (0, .ref (xN X + t)), (1, .int a1), (2, .int a2), (3, .int x3)]) hx hb dX9_turns_127 hl (k := 6) rfl (by rw [e_w70]; rfl) (by decide) rfl (fun ls hl => ?_)
                refine lv_goto (tgt := 14) hx hb dX9_turns_130 (by decide) ?_
                exact ih _ _ _ σ69 x3 w70 G (lv_sub hl [3, 4, 5, 6, 0] rfl) h
            · have h := g_it h c49
              refine lv_iload hx hb dX9_turns_75 (lv_at hl 0 rfl) ?_
              obtain ⟨v50, e_v50, h⟩ := g_bind h
              refine g_calli (g_runS (n := 1) (As := [.int w47]) (rest := [.int x4, .ref (xN X + (t + 4))]) C G (mX9_reversed l X σ w47 v50 e_v50) (g_goodS u_ml_RX9_50 u_st_yX9_reversed u_in_RX9 u_co_yX9_reversed) rfl rfl rfl (by decide +kernel) ⟨Nat.le_of_ble_eq_true rfl, Nat.le_of_ble_eq_true rfl⟩ rfl hl.1 rfl (Nat.le_of_ble_eq_true rfl) dX9_turns_77 ⟨Nat.zero_le _, Nat.zero_le _⟩) G (fun H locs G => ?_)
              refine lv_goto (tgt := 85) hx hb dX9_turns_80 (by decide) ?_
              obtain ⟨c51, h⟩ := g_chk h
              obtain ⟨σ52, e_σ52, h⟩ := g_let h
              refine g_iast C G ok.2.2.2.2.2.1 c51 dX9_turns_85 (fun H locs G => ?_)
              rw [e_σ52] at G
              refine lv_aload_n hx hb dX9_turns_86 rfl (lv_at hl 2 rfl) ?_
              refine gg9_6 C G ok.1 ok.2.1.2.2.2.2.1 u_fl_RX9_23 dX9_turns_87 ?_
              refine lv_iload hx hb dX9_turns_90 (lv_at hl 6 rfl) ?_
              refine lv_iload_n hx hb dX9_turns_92 rfl (lv_at hl 5 rfl) ?_
              refine lv_if_eq (tgt := 112) hx hb dX9_turns_93 (by decide) (fun c53 => absurd c53 c33) (fun _ => ?_)
              refine lv_aload_n hx hb dX9_turns_96 rfl (lv_at hl 2 rfl) ?_
              refine gg9_0 C G ok.1 ok.2.1.1 u_fl_RX9_7 dX9_turns_97 ?_
              refine lv_bipush (v := 99) hx hb dX9_turns_100 (by decide) ?_
              refine lv_iload_n hx hb dX9_turns_102 rfl (lv_at hl 3 rfl) ?_
              refine lv_iadd hx hb dX9_turns_103 ?_
              obtain ⟨c54, h⟩ := g_chk h
              refine g_iald C G ok.2.2.1 c54 dX9_turns_104 ?_
              refine lv_if_ne (tgt := 112) hx hb dX9_turns_105 (by decide) (fun c55 => ?_) (fun c55 => ?_)
              · have h := g_if h c55
                refine lv_aload_n hx hb dX9_turns_112 rfl (lv_at hl 2 rfl) ?_
                refine gg9_0 C G ok.1 ok.2.1.1 u_fl_RX9_7 dX9_turns_113 ?_
                refine lv_bipush (v := 51) hx hb dX9_turns_116 (by decide) ?_
                refine lv_iconst (v := 4) hx hb dX9_turns_118 (by decide) ?_
                refine lv_iload_n hx hb dX9_turns_119 rfl (lv_at hl 3 rfl) ?_
                refine lv_imul hx hb dX9_turns_120 ?_
                refine lv_iadd hx hb dX9_turns_121 ?_
                refine lv_iload hx hb dX9_turns_122 (lv_at hl 1 rfl) ?_
                refine lv_iadd hx hb dX9_turns_124 ?_
                obtain ⟨c59, h⟩ := g_chk h
                refine g_iald C G ok.2.2.1 c59 dX9_turns_125 ?_
                obtain ⟨c60, h⟩ := g_chk h
                obtain ⟨σ61, e_σ61, h⟩ := g_let h
                refine g_iast C G ok.2.2.2.2.2.2.1 c60 dX9_turns_126 (fun H locs G => ?_)
                rw [e_σ61] at G
                obtain ⟨w62, e_w62⟩ : ∃ y : Int32, y = x4 + 1 := ⟨_, rfl⟩
                have h := g_let2 e_w62 h
                refine lv_iinc (v := w62) (lv' := [(4, .int w62), (6, .int w47), (5, .int w45), (0, .ref (xN X + t)), (1, .int a1), (2, .int a2), (3, .int x3)]) hx hb dX9_turns_127 hl (k := 6) rfl (by rw [e_w62]; rfl) (by decide) rfl (fun ls hl => ?_)
                refine lv_goto (tgt := 14) hx hb dX9_turns_130 (by decide) ?_
                exact ih _ _ _ σ61 x3 w62 G (lv_sub hl [3, 4, 5, 6, 0] rfl) h
              · have h := g_it h c55
                refine lv_iconst (v := 0) hx hb dX9_turns_108 (by decide) ?_
                refine lv_goto (tgt := 126) hx hb dX9_turns_109 (by decide) ?_
                obtain ⟨c56, h⟩ := g_chk h
                obtain ⟨σ57, e_σ57, h⟩ := g_let h
                refine g_iast C G ok.2.2.2.2.2.2.1 c56 dX9_turns_126 (fun H locs G => ?_)
                rw [e_σ57] at G
                obtain ⟨w58, e_w58⟩ : ∃ y : Int32, y = x4 + 1 := ⟨_, rfl⟩
                have h := g_let2 e_w58 h
                refine lv_iinc (v := w58) (lv' := [(4, .int w58), (6, .int w47), (5, .int w45), (0, .ref (xN X + t)), (1, .int a1), (2, .int a2), (3, .int x3)]) hx hb dX9_turns_127 hl (k := 6) rfl (by rw [e_w58]; rfl) (by decide) rfl (fun ls hl => ?_)
                refine lv_goto (tgt := 14) hx hb dX9_turns_130 (by decide) ?_
                exact ih _ _ _ σ57 x3 w58 G (lv_sub hl [3, 4, 5, 6, 0] rfl) h
  unfold fX9_turns at h
  refine lv_iload_n hx hb dX9_turns_0 rfl (lv_at hl 2 rfl) ?_
  refine lv_iconst (v := 3) hx hb dX9_turns_1 (by decide) ?_
  refine lv_icmp_le (tgt := 9) hx hb dX9_turns_2 (by decide) (fun c1 => ?_) (fun c1 => ?_)
  · have h := g_it h c1
    refine lv_iconst (v := 0) hx hb dX9_turns_9 (by decide) ?_
    refine lv_istore_n (lv' := [(3, .int 0), (0, .ref (xN X + t)), (1, .int a1), (2, .int a2)]) hx hb dX9_turns_10 rfl hl (by decide) rfl (fun ls hl => ?_)
    refine lv_iconst (v := 0) hx hb dX9_turns_11 (by decide) ?_
    refine lv_istore (lv' := [(4, .int 0), (3, .int 0), (0, .ref (xN X + t)), (1, .int a1), (2, .int a2)]) hx hb dX9_turns_12 hl (by decide) rfl (fun ls hl => ?_)
    exact L14  gF _ _ _ σ 0 0 G (lv_sub hl [2, 3, 4, 1, 0] rfl) h
  · have h := g_if h c1
    refine lv_iconst (v := 1) hx hb dX9_turns_5 (by decide) ?_
    refine lv_goto (tgt := 10) hx hb dX9_turns_6 (by decide) ?_
    refine lv_istore_n (lv' := [(3, .int 1), (0, .ref (xN X + t)), (1, .int a1), (2, .int a2)]) hx hb dX9_turns_10 rfl hl (by decide) rfl (fun ls hl => ?_)
    refine lv_iconst (v := 0) hx hb dX9_turns_11 (by decide) ?_
    refine lv_istore (lv' := [(4, .int 0), (3, .int 1), (0, .ref (xN X + t)), (1, .int a1), (2, .int a2)]) hx hb dX9_turns_12 hl (by decide) rfl (fun ls hl => ?_)
    exact L14  gF _ _ _ σ 1 0 G (lv_sub hl [2, 3, 4, 1, 0] rfl) h

def fX9_profileOf (σ : gM) (t : Nat) (a1 : Int32) (a2 : Int32) (a3 : Int32) : Option (Int32 × gM) :=
  ((fX9_turns σ t a1 a2).bind fun σ2 =>
  (if ¬ (a3 < 0 ∨ gln (t + 4) ≤ a3.toNatClampNeg) then
  some ((σ2 (t + 4) a3.toNatClampNeg), σ2)
  else none))
set_option maxHeartbeats 4000000 in
set_option maxRecDepth 100000 in
theorem mX9_profileOf (l : Launch) (X : gX) (σ σ' : gM) (t : Nat) (a1 : Int32) (a2 : Int32) (a3 : Int32) (r : Int32) (ok : gok9 X t) (h : fX9_profileOf σ t a1 a2 a3 = some (r, σ')) : Met l yX9_profileOf (Cond.code yX9_profileOf cX9_profileOf 4 (some .int) :: gBig) ({ frames := 2, cells := 0, slots := 0, locals := 46 }) (gPc X σ [.ref (xN X + t), .int a1, .int a2, .int a3]) (gQi X σ' r) 0 0 (xA X) := by
  refine g_meti (cc := cX9_profileOf) (maxL := 4) (own := RX9) (by decide) rfl rfl (Nat.le_of_ble_eq_true rfl) ?_
  intro p ev s m args below meth c Q C G ret ls hl
  obtain ⟨⟨hx, hb, hml, hown, hts⟩, hK⟩ := id C
  have hl : lv_has ls 4 [(0, .ref (xN X + t)), (1, .int a1), (2, .int a2), (3, .int a3)] := hl
  unfold fX9_profileOf at h
  refine lv_aload_n hx hb dX9_profileOf_0 rfl (lv_at hl 0 rfl) ?_
  refine lv_iload_n hx hb dX9_profileOf_1 rfl (lv_at hl 1 rfl) ?_
  refine lv_iload_n hx hb dX9_profileOf_2 rfl (lv_at hl 2 rfl) ?_
  obtain ⟨σ2, e_σ2, h⟩ := g_bind h
  refine g_callv (g_runV (n := 2) (As := [.int a1, .int a2]) (rest := []) C G (mX9_turns l X σ σ2 t a1 a2 ok e_σ2) ok.1.2 (gE_9 ok.1.1) rfl (g_goodV u_ml_RX9_54 u_im_yX9_turns u_se_yX9_turns u_in_RX9 u_co_yX9_turns) rfl rfl rfl (by decide +kernel) ⟨Nat.le_of_ble_eq_true rfl, Nat.le_of_ble_eq_true rfl⟩ rfl hl.1 rfl (Nat.le_of_ble_eq_true rfl) dX9_profileOf_3 ⟨Nat.zero_le _, Nat.zero_le _⟩) G (fun H locs G => ?_)
  refine lv_aload_n hx hb dX9_profileOf_6 rfl (lv_at hl 0 rfl) ?_
  refine gg9_5 C G ok.1 ok.2.1.2.2.2.1 u_fl_RX9_20 dX9_profileOf_7 ?_
  refine lv_iload_n hx hb dX9_profileOf_10 rfl (lv_at hl 3 rfl) ?_
  obtain ⟨c3, h⟩ := g_chk h
  refine g_iald C G ok.2.2.2.2.2.1 c3 dX9_profileOf_11 ?_
  exact ret dX9_profileOf_12 rfl G (Prod.mk.inj (Option.some.inj h))

def fX9_lineOf (σ : gM) (t : Nat) (a1 : Int32) (a2 : Int32) (a3 : Int32) : Option (Int32 × gM) :=
  ((fX9_turns σ t a1 a2).bind fun σ2 =>
  (if ¬ (a3 < 0 ∨ gln (t + 5) ≤ a3.toNatClampNeg) then
  some ((σ2 (t + 5) a3.toNatClampNeg), σ2)
  else none))
set_option maxHeartbeats 4000000 in
set_option maxRecDepth 100000 in
theorem mX9_lineOf (l : Launch) (X : gX) (σ σ' : gM) (t : Nat) (a1 : Int32) (a2 : Int32) (a3 : Int32) (r : Int32) (ok : gok9 X t) (h : fX9_lineOf σ t a1 a2 a3 = some (r, σ')) : Met l yX9_lineOf (Cond.code yX9_lineOf cX9_lineOf 4 (some .int) :: gBig) ({ frames := 2, cells := 0, slots := 0, locals := 46 }) (gPc X σ [.ref (xN X + t), .int a1, .int a2, .int a3]) (gQi X σ' r) 0 0 (xA X) := by
  refine g_meti (cc := cX9_lineOf) (maxL := 4) (own := RX9) (by decide) rfl rfl (Nat.le_of_ble_eq_true rfl) ?_
  intro p ev s m args below meth c Q C G ret ls hl
  obtain ⟨⟨hx, hb, hml, hown, hts⟩, hK⟩ := id C
  have hl : lv_has ls 4 [(0, .ref (xN X + t)), (1, .int a1), (2, .int a2), (3, .int a3)] := hl
  unfold fX9_lineOf at h
  refine lv_aload_n hx hb dX9_lineOf_0 rfl (lv_at hl 0 rfl) ?_
  refine lv_iload_n hx hb dX9_lineOf_1 rfl (lv_at hl 1 rfl) ?_
  refine lv_iload_n hx hb dX9_lineOf_2 rfl (lv_at hl 2 rfl) ?_
  obtain ⟨σ2, e_σ2, h⟩ := g_bind h
  refine g_callv (g_runV (n := 2) (As := [.int a1, .int a2]) (rest := []) C G (mX9_turns l X σ σ2 t a1 a2 ok e_σ2) ok.1.2 (gE_9 ok.1.1) rfl (g_goodV u_ml_RX9_54 u_im_yX9_turns u_se_yX9_turns u_in_RX9 u_co_yX9_turns) rfl rfl rfl (by decide +kernel) ⟨Nat.le_of_ble_eq_true rfl, Nat.le_of_ble_eq_true rfl⟩ rfl hl.1 rfl (Nat.le_of_ble_eq_true rfl) dX9_lineOf_3 ⟨Nat.zero_le _, Nat.zero_le _⟩) G (fun H locs G => ?_)
  refine lv_aload_n hx hb dX9_lineOf_6 rfl (lv_at hl 0 rfl) ?_
  refine gg9_6 C G ok.1 ok.2.1.2.2.2.2.1 u_fl_RX9_23 dX9_lineOf_7 ?_
  refine lv_iload_n hx hb dX9_lineOf_10 rfl (lv_at hl 3 rfl) ?_
  obtain ⟨c3, h⟩ := g_chk h
  refine g_iald C G ok.2.2.2.2.2.2.1 c3 dX9_lineOf_11 ?_
  exact ret dX9_lineOf_12 rfl G (Prod.mk.inj (Option.some.inj h))

def fX9_behind (σ : gM) (t : Nat) (a1 : Int32) (a2 : Int32) : Option (Int32) :=
  (if ¬ ((0 : Int32) < 0 ∨ gln (t + 1) ≤ (0 : Int32).toNatClampNeg) then
  (if ¬ (σ (t + 1) (0 : Int32).toNatClampNeg) = 0 then
  (if a2 = 1 then
    (gl ((a1 - a1 / (σ (t + 1) (0 : Int32).toNatClampNeg) * (σ (t + 1) (0 : Int32).toNatClampNeg)) + 1) fun w4 =>
    (if ¬ ((0 : Int32) < 0 ∨ gln (t + 1) ≤ (0 : Int32).toNatClampNeg) then
    (if ¬ (σ (t + 1) (0 : Int32).toNatClampNeg) = 0 then
    (if a2 = 2 then
      (gl ((a1 / (σ (t + 1) (0 : Int32).toNatClampNeg)) + 1) fun w8 =>
      (if ¬ ((0 : Int32) < 0 ∨ gln (t + 1) ≤ (0 : Int32).toNatClampNeg) then
      ((fX9_in σ w4 0 ((σ (t + 1) (0 : Int32).toNatClampNeg) - 1)).bind fun v10 =>
      (if v10 = 0 then
        some (-1)
      else
        (if ¬ ((1 : Int32) < 0 ∨ gln (t + 1) ≤ (1 : Int32).toNatClampNeg) then
        ((fX9_in σ w8 0 ((σ (t + 1) (1 : Int32).toNatClampNeg) - 1)).bind fun v13 =>
        (if v13 = 0 then
          some (-1)
        else
          (if ¬ ((0 : Int32) < 0 ∨ gln (t + 1) ≤ (0 : Int32).toNatClampNeg) then
          some ((w8 * (σ (t + 1) (0 : Int32).toNatClampNeg)) + w4)
          else none)))
        else none)))
      else none))
    else
      (if a2 = 0 then
        (gl ((a1 / (σ (t + 1) (0 : Int32).toNatClampNeg)) + (-1)) fun w17 =>
        (if ¬ ((0 : Int32) < 0 ∨ gln (t + 1) ≤ (0 : Int32).toNatClampNeg) then
        ((fX9_in σ w4 0 ((σ (t + 1) (0 : Int32).toNatClampNeg) - 1)).bind fun v19 =>
        (if v19 = 0 then
          some (-1)
        else
          (if ¬ ((1 : Int32) < 0 ∨ gln (t + 1) ≤ (1 : Int32).toNatClampNeg) then
          ((fX9_in σ w17 0 ((σ (t + 1) (1 : Int32).toNatClampNeg) - 1)).bind fun v22 =>
          (if v22 = 0 then
            some (-1)
          else
            (if ¬ ((0 : Int32) < 0 ∨ gln (t + 1) ≤ (0 : Int32).toNatClampNeg) then
            some ((w17 * (σ (t + 1) (0 : Int32).toNatClampNeg)) + w4)
            else none)))
          else none)))
        else none))
      else
        (gl ((a1 / (σ (t + 1) (0 : Int32).toNatClampNeg)) + 0) fun w25 =>
        (if ¬ ((0 : Int32) < 0 ∨ gln (t + 1) ≤ (0 : Int32).toNatClampNeg) then
        ((fX9_in σ w4 0 ((σ (t + 1) (0 : Int32).toNatClampNeg) - 1)).bind fun v27 =>
        (if v27 = 0 then
          some (-1)
        else
          (if ¬ ((1 : Int32) < 0 ∨ gln (t + 1) ≤ (1 : Int32).toNatClampNeg) then
          ((fX9_in σ w25 0 ((σ (t + 1) (1 : Int32).toNatClampNeg) - 1)).bind fun v30 =>
          (if v30 = 0 then
            some (-1)
          else
            (if ¬ ((0 : Int32) < 0 ∨ gln (t + 1) ≤ (0 : Int32).toNatClampNeg) then
            some ((w25 * (σ (t + 1) (0 : Int32).toNatClampNeg)) + w4)
            else none)))
          else none)))
        else none))))
    else none)
    else none))
  else
    (if a2 = 3 then
      (gl ((a1 - a1 / (σ (t + 1) (0 : Int32).toNatClampNeg) * (σ (t + 1) (0 : Int32).toNatClampNeg)) + (-1)) fun w34 =>
      (if ¬ ((0 : Int32) < 0 ∨ gln (t + 1) ≤ (0 : Int32).toNatClampNeg) then
      (if ¬ (σ (t + 1) (0 : Int32).toNatClampNeg) = 0 then
      (if a2 = 2 then
        (gl ((a1 / (σ (t + 1) (0 : Int32).toNatClampNeg)) + 1) fun w38 =>
        (if ¬ ((0 : Int32) < 0 ∨ gln (t + 1) ≤ (0 : Int32).toNatClampNeg) then
        ((fX9_in σ w34 0 ((σ (t + 1) (0 : Int32).toNatClampNeg) - 1)).bind fun v40 =>
        (if v40 = 0 then
          some (-1)
        else
          (if ¬ ((1 : Int32) < 0 ∨ gln (t + 1) ≤ (1 : Int32).toNatClampNeg) then
          ((fX9_in σ w38 0 ((σ (t + 1) (1 : Int32).toNatClampNeg) - 1)).bind fun v43 =>
          (if v43 = 0 then
            some (-1)
          else
            (if ¬ ((0 : Int32) < 0 ∨ gln (t + 1) ≤ (0 : Int32).toNatClampNeg) then
            some ((w38 * (σ (t + 1) (0 : Int32).toNatClampNeg)) + w34)
            else none)))
          else none)))
        else none))
      else
        (if a2 = 0 then
          (gl ((a1 / (σ (t + 1) (0 : Int32).toNatClampNeg)) + (-1)) fun w47 =>
          (if ¬ ((0 : Int32) < 0 ∨ gln (t + 1) ≤ (0 : Int32).toNatClampNeg) then
          ((fX9_in σ w34 0 ((σ (t + 1) (0 : Int32).toNatClampNeg) - 1)).bind fun v49 =>
          (if v49 = 0 then
            some (-1)
          else
            (if ¬ ((1 : Int32) < 0 ∨ gln (t + 1) ≤ (1 : Int32).toNatClampNeg) then
            ((fX9_in σ w47 0 ((σ (t + 1) (1 : Int32).toNatClampNeg) - 1)).bind fun v52 =>
            (if v52 = 0 then
              some (-1)
            else
              (if ¬ ((0 : Int32) < 0 ∨ gln (t + 1) ≤ (0 : Int32).toNatClampNeg) then
              some ((w47 * (σ (t + 1) (0 : Int32).toNatClampNeg)) + w34)
              else none)))
            else none)))
          else none))
        else
          (gl ((a1 / (σ (t + 1) (0 : Int32).toNatClampNeg)) + 0) fun w55 =>
          (if ¬ ((0 : Int32) < 0 ∨ gln (t + 1) ≤ (0 : Int32).toNatClampNeg) then
          ((fX9_in σ w34 0 ((σ (t + 1) (0 : Int32).toNatClampNeg) - 1)).bind fun v57 =>
          (if v57 = 0 then
            some (-1)
          else
            (if ¬ ((1 : Int32) < 0 ∨ gln (t + 1) ≤ (1 : Int32).toNatClampNeg) then
            ((fX9_in σ w55 0 ((σ (t + 1) (1 : Int32).toNatClampNeg) - 1)).bind fun v60 =>
            (if v60 = 0 then
              some (-1)
            else
              (if ¬ ((0 : Int32) < 0 ∨ gln (t + 1) ≤ (0 : Int32).toNatClampNeg) then
              some ((w55 * (σ (t + 1) (0 : Int32).toNatClampNeg)) + w34)
              else none)))
            else none)))
          else none))))
      else none)
      else none))
    else
      (gl ((a1 - a1 / (σ (t + 1) (0 : Int32).toNatClampNeg) * (σ (t + 1) (0 : Int32).toNatClampNeg)) + 0) fun w63 =>
      (if ¬ ((0 : Int32) < 0 ∨ gln (t + 1) ≤ (0 : Int32).toNatClampNeg) then
      (if ¬ (σ (t + 1) (0 : Int32).toNatClampNeg) = 0 then
      (if a2 = 2 then
        (gl ((a1 / (σ (t + 1) (0 : Int32).toNatClampNeg)) + 1) fun w67 =>
        (if ¬ ((0 : Int32) < 0 ∨ gln (t + 1) ≤ (0 : Int32).toNatClampNeg) then
        ((fX9_in σ w63 0 ((σ (t + 1) (0 : Int32).toNatClampNeg) - 1)).bind fun v69 =>
        (if v69 = 0 then
          some (-1)
        else
          (if ¬ ((1 : Int32) < 0 ∨ gln (t + 1) ≤ (1 : Int32).toNatClampNeg) then
          ((fX9_in σ w67 0 ((σ (t + 1) (1 : Int32).toNatClampNeg) - 1)).bind fun v72 =>
          (if v72 = 0 then
            some (-1)
          else
            (if ¬ ((0 : Int32) < 0 ∨ gln (t + 1) ≤ (0 : Int32).toNatClampNeg) then
            some ((w67 * (σ (t + 1) (0 : Int32).toNatClampNeg)) + w63)
            else none)))
          else none)))
        else none))
      else
        (if a2 = 0 then
          (gl ((a1 / (σ (t + 1) (0 : Int32).toNatClampNeg)) + (-1)) fun w76 =>
          (if ¬ ((0 : Int32) < 0 ∨ gln (t + 1) ≤ (0 : Int32).toNatClampNeg) then
          ((fX9_in σ w63 0 ((σ (t + 1) (0 : Int32).toNatClampNeg) - 1)).bind fun v78 =>
          (if v78 = 0 then
            some (-1)
          else
            (if ¬ ((1 : Int32) < 0 ∨ gln (t + 1) ≤ (1 : Int32).toNatClampNeg) then
            ((fX9_in σ w76 0 ((σ (t + 1) (1 : Int32).toNatClampNeg) - 1)).bind fun v81 =>
            (if v81 = 0 then
              some (-1)
            else
              (if ¬ ((0 : Int32) < 0 ∨ gln (t + 1) ≤ (0 : Int32).toNatClampNeg) then
              some ((w76 * (σ (t + 1) (0 : Int32).toNatClampNeg)) + w63)
              else none)))
            else none)))
          else none))
        else
          (gl ((a1 / (σ (t + 1) (0 : Int32).toNatClampNeg)) + 0) fun w84 =>
          (if ¬ ((0 : Int32) < 0 ∨ gln (t + 1) ≤ (0 : Int32).toNatClampNeg) then
          ((fX9_in σ w63 0 ((σ (t + 1) (0 : Int32).toNatClampNeg) - 1)).bind fun v86 =>
          (if v86 = 0 then
            some (-1)
          else
            (if ¬ ((1 : Int32) < 0 ∨ gln (t + 1) ≤ (1 : Int32).toNatClampNeg) then
            ((fX9_in σ w84 0 ((σ (t + 1) (1 : Int32).toNatClampNeg) - 1)).bind fun v89 =>
            (if v89 = 0 then
              some (-1)
            else
              (if ¬ ((0 : Int32) < 0 ∨ gln (t + 1) ≤ (0 : Int32).toNatClampNeg) then
              some ((w84 * (σ (t + 1) (0 : Int32).toNatClampNeg)) + w63)
              else none)))
            else none)))
          else none))))
      else none)
      else none))))
  else none)
  else none)
set_option maxHeartbeats 4000000 in
set_option maxRecDepth 100000 in
theorem mX9_behind (l : Launch) (X : gX) (σ : gM) (t : Nat) (a1 : Int32) (a2 : Int32) (r : Int32) (ok : gok9 X t) (h : fX9_behind σ t a1 a2 = some r) : Met l yX9_behind (Cond.code yX9_behind cX9_behind 5 (some .int) :: gBig) ({ frames := 1, cells := 0, slots := 0, locals := 22 }) (gPc X σ [.ref (xN X + t), .int a1, .int a2]) (gQi X σ r) 0 0 (xA X) := by
  refine g_meti (cc := cX9_behind) (maxL := 5) (own := RX9) (by decide) rfl rfl (Nat.le_of_ble_eq_true rfl) ?_
  intro p ev s m args below meth c Q C G ret ls hl
  obtain ⟨⟨hx, hb, hml, hown, hts⟩, hK⟩ := id C
  have hl : lv_has ls 5 [(0, .ref (xN X + t)), (1, .int a1), (2, .int a2)] := hl
  unfold fX9_behind at h
  refine lv_iload_n hx hb dX9_behind_0 rfl (lv_at hl 1 rfl) ?_
  refine lv_aload_n hx hb dX9_behind_1 rfl (lv_at hl 0 rfl) ?_
  refine gg9_0 C G ok.1 ok.2.1.1 u_fl_RX9_7 dX9_behind_2 ?_
  refine lv_iconst (v := 0) hx hb dX9_behind_5 (by decide) ?_
  obtain ⟨c1, h⟩ := g_chk h
  refine g_iald C G ok.2.2.1 c1 dX9_behind_6 ?_
  obtain ⟨c2, h⟩ := g_chk h
  refine lv_irem hx hb dX9_behind_7 c2 ?_
  refine lv_iload_n hx hb dX9_behind_8 rfl (lv_at hl 2 rfl) ?_
  refine lv_iconst (v := 1) hx hb dX9_behind_9 (by decide) ?_
  refine lv_icmp_ne (tgt := 17) hx hb dX9_behind_10 (by decide) (fun c3 => ?_) (fun c3 => ?_)
  · have h := g_if h c3
    refine lv_iload_n hx hb dX9_behind_17 rfl (lv_at hl 2 rfl) ?_
    refine lv_iconst (v := 3) hx hb dX9_behind_18 (by decide) ?_
    refine lv_icmp_ne (tgt := 26) hx hb dX9_behind_19 (by decide) (fun c33 => ?_) (fun c33 => ?_)
    · have h := g_if h c33
      refine lv_iconst (v := 0) hx hb dX9_behind_26 (by decide) ?_
      refine lv_iadd hx hb dX9_behind_27 ?_
      refine lv_topi (fun w63 e_w63 => ?_)
      have h := g_let2 e_w63 h
      refine lv_istore_n (lv' := [(3, .int w63), (0, .ref (xN X + t)), (1, .int a1), (2, .int a2)]) hx hb dX9_behind_28 rfl hl (by decide) rfl (fun ls hl => ?_)
      refine lv_iload_n hx hb dX9_behind_29 rfl (lv_at hl 2 rfl) ?_
      refine lv_aload_n hx hb dX9_behind_30 rfl (lv_at hl 1 rfl) ?_
      refine gg9_0 C G ok.1 ok.2.1.1 u_fl_RX9_7 dX9_behind_31 ?_
      refine lv_iconst (v := 0) hx hb dX9_behind_34 (by decide) ?_
      obtain ⟨c64, h⟩ := g_chk h
      refine g_iald C G ok.2.2.1 c64 dX9_behind_35 ?_
      obtain ⟨c65, h⟩ := g_chk h
      refine lv_idiv hx hb dX9_behind_36 c65 ?_
      refine lv_iload_n hx hb dX9_behind_37 rfl (lv_at hl 3 rfl) ?_
      refine lv_iconst (v := 2) hx hb dX9_behind_38 (by decide) ?_
      refine lv_icmp_ne (tgt := 46) hx hb dX9_behind_39 (by decide) (fun c66 => ?_) (fun c66 => ?_)
      · have h := g_if h c66
        refine lv_iload_n hx hb dX9_behind_46 rfl (lv_at hl 3 rfl) ?_
        refine lv_if_ne (tgt := 54) hx hb dX9_behind_47 (by decide) (fun c75 => ?_) (fun c75 => ?_)
        · have h := g_if h c75
          refine lv_iconst (v := 0) hx hb dX9_behind_54 (by decide) ?_
          refine lv_iadd hx hb dX9_behind_55 ?_
          refine lv_topi (fun w84 e_w84 => ?_)
          have h := g_let2 e_w84 h
          refine lv_istore (lv' := [(4, .int w84), (3, .int w63), (0, .ref (xN X + t)), (1, .int a1), (2, .int a2)]) hx hb dX9_behind_56 hl (by decide) rfl (fun ls hl => ?_)
          refine lv_iload_n hx hb dX9_behind_58 rfl (lv_at hl 1 rfl) ?_
          refine lv_iconst (v := 0) hx hb dX9_behind_59 (by decide) ?_
          refine lv_aload_n hx hb dX9_behind_60 rfl (lv_at hl 2 rfl) ?_
          refine gg9_0 C G ok.1 ok.2.1.1 u_fl_RX9_7 dX9_behind_61 ?_
          refine lv_iconst (v := 0) hx hb dX9_behind_64 (by decide) ?_
          obtain ⟨c85, h⟩ := g_chk h
          refine g_iald C G ok.2.2.1 c85 dX9_behind_65 ?_
          refine lv_iconst (v := 1) hx hb dX9_behind_66 (by decide) ?_
          refine lv_isub hx hb dX9_behind_67 ?_
          obtain ⟨v86, e_v86, h⟩ := g_bind h
          refine g_calli (g_runS (n := 3) (As := [.int w63, .int 0, .int ((σ (t + 1) (0 : Int32).toNatClampNeg) - 1)]) (rest := []) C G (mX9_in l X σ w63 0 ((σ (t + 1) (0 : Int32).toNatClampNeg) - 1) v86 e_v86) (g_goodS u_ml_RX9_38 u_st_yX9_in u_in_RX9 u_co_yX9_in) rfl rfl rfl (by decide +kernel) ⟨Nat.le_of_ble_eq_true rfl, Nat.le_of_ble_eq_true rfl⟩ rfl hl.1 rfl (Nat.le_of_ble_eq_true rfl) dX9_behind_68 ⟨Nat.zero_le _, Nat.zero_le _⟩) G (fun H locs G => ?_)
          refine lv_if_eq (tgt := 105) hx hb dX9_behind_71 (by decide) (fun c87 => ?_) (fun c87 => ?_)
          · have h := g_it h c87
            refine lv_iconst (v := (-1)) hx hb dX9_behind_105 (by decide) ?_
            exact ret dX9_behind_106 rfl G ⟨Option.some.inj h, rfl⟩
          · have h := g_if h c87
            refine lv_iload hx hb dX9_behind_74 (lv_at hl 0 rfl) ?_
            refine lv_iconst (v := 0) hx hb dX9_behind_76 (by decide) ?_
            refine lv_aload_n hx hb dX9_behind_77 rfl (lv_at hl 2 rfl) ?_
            refine gg9_0 C G ok.1 ok.2.1.1 u_fl_RX9_7 dX9_behind_78 ?_
            refine lv_iconst (v := 1) hx hb dX9_behind_81 (by decide) ?_
            obtain ⟨c88, h⟩ := g_chk h
            refine g_iald C G ok.2.2.1 c88 dX9_behind_82 ?_
            refine lv_iconst (v := 1) hx hb dX9_behind_83 (by decide) ?_
            refine lv_isub hx hb dX9_behind_84 ?_
            obtain ⟨v89, e_v89, h⟩ := g_bind h
            refine g_calli (g_runS (n := 3) (As := [.int w84, .int 0, .int ((σ (t + 1) (1 : Int32).toNatClampNeg) - 1)]) (rest := []) C G (mX9_in l X σ w84 0 ((σ (t + 1) (1 : Int32).toNatClampNeg) - 1) v89 e_v89) (g_goodS u_ml_RX9_38 u_st_yX9_in u_in_RX9 u_co_yX9_in) rfl rfl rfl (by decide +kernel) ⟨Nat.le_of_ble_eq_true rfl, Nat.le_of_ble_eq_true rfl⟩ rfl hl.1 rfl (Nat.le_of_ble_eq_true rfl) dX9_behind_85 ⟨Nat.zero_le _, Nat.zero_le _⟩) G (fun H locs G => ?_)
            refine lv_if_eq (tgt := 105) hx hb dX9_behind_88 (by decide) (fun c90 => ?_) (fun c90 => ?_)
            · have h := g_it h c90
              refine lv_iconst (v := (-1)) hx hb dX9_behind_105 (by decide) ?_
              exact ret dX9_behind_106 rfl G ⟨Option.some.inj h, rfl⟩
            · have h := g_if h c90
              refine lv_iload hx hb dX9_behind_91 (lv_at hl 0 rfl) ?_
              refine lv_aload_n hx hb dX9_behind_93 rfl (lv_at hl 2 rfl) ?_
              refine gg9_0 C G ok.1 ok.2.1.1 u_fl_RX9_7 dX9_behind_94 ?_
              refine lv_iconst (v := 0) hx hb dX9_behind_97 (by decide) ?_
              obtain ⟨c91, h⟩ := g_chk h
              refine g_iald C G ok.2.2.1 c91 dX9_behind_98 ?_
              refine lv_imul hx hb dX9_behind_99 ?_
              refine lv_iload_n hx hb dX9_behind_100 rfl (lv_at hl 1 rfl) ?_
              refine lv_iadd hx hb dX9_behind_101 ?_
              refine lv_goto (tgt := 106) hx hb dX9_behind_102 (by decide) ?_
              exact ret dX9_behind_106 rfl G ⟨Option.some.inj h, rfl⟩
        · have h := g_it h c75
          refine lv_iconst (v := (-1)) hx hb dX9_behind_50 (by decide) ?_
          refine lv_goto (tgt := 55) hx hb dX9_behind_51 (by decide) ?_
          refine lv_iadd hx hb dX9_behind_55 ?_
          refine lv_topi (fun w76 e_w76 => ?_)
          have h := g_let2 e_w76 h
          refine lv_istore (lv' := [(4, .int w76), (3, .int w63), (0, .ref (xN X + t)), (1, .int a1), (2, .int a2)]) hx hb dX9_behind_56 hl (by decide) rfl (fun ls hl => ?_)
          refine lv_iload_n hx hb dX9_behind_58 rfl (lv_at hl 1 rfl) ?_
          refine lv_iconst (v := 0) hx hb dX9_behind_59 (by decide) ?_
          refine lv_aload_n hx hb dX9_behind_60 rfl (lv_at hl 2 rfl) ?_
          refine gg9_0 C G ok.1 ok.2.1.1 u_fl_RX9_7 dX9_behind_61 ?_
          refine lv_iconst (v := 0) hx hb dX9_behind_64 (by decide) ?_
          obtain ⟨c77, h⟩ := g_chk h
          refine g_iald C G ok.2.2.1 c77 dX9_behind_65 ?_
          refine lv_iconst (v := 1) hx hb dX9_behind_66 (by decide) ?_
          refine lv_isub hx hb dX9_behind_67 ?_
          obtain ⟨v78, e_v78, h⟩ := g_bind h
          refine g_calli (g_runS (n := 3) (As := [.int w63, .int 0, .int ((σ (t + 1) (0 : Int32).toNatClampNeg) - 1)]) (rest := []) C G (mX9_in l X σ w63 0 ((σ (t + 1) (0 : Int32).toNatClampNeg) - 1) v78 e_v78) (g_goodS u_ml_RX9_38 u_st_yX9_in u_in_RX9 u_co_yX9_in) rfl rfl rfl (by decide +kernel) ⟨Nat.le_of_ble_eq_true rfl, Nat.le_of_ble_eq_true rfl⟩ rfl hl.1 rfl (Nat.le_of_ble_eq_true rfl) dX9_behind_68 ⟨Nat.zero_le _, Nat.zero_le _⟩) G (fun H locs G => ?_)
          refine lv_if_eq (tgt := 105) hx hb dX9_behind_71 (by decide) (fun c79 => ?_) (fun c79 => ?_)
          · have h := g_it h c79
            refine lv_iconst (v := (-1)) hx hb dX9_behind_105 (by decide) ?_
            exact ret dX9_behind_106 rfl G ⟨Option.some.inj h, rfl⟩
          · have h := g_if h c79
            refine lv_iload hx hb dX9_behind_74 (lv_at hl 0 rfl) ?_
            refine lv_iconst (v := 0) hx hb dX9_behind_76 (by decide) ?_
            refine lv_aload_n hx hb dX9_behind_77 rfl (lv_at hl 2 rfl) ?_
            refine gg9_0 C G ok.1 ok.2.1.1 u_fl_RX9_7 dX9_behind_78 ?_
            refine lv_iconst (v := 1) hx hb dX9_behind_81 (by decide) ?_
            obtain ⟨c80, h⟩ := g_chk h
            refine g_iald C G ok.2.2.1 c80 dX9_behind_82 ?_
            refine lv_iconst (v := 1) hx hb dX9_behind_83 (by decide) ?_
            refine lv_isub hx hb dX9_behind_84 ?_
            obtain ⟨v81, e_v81, h⟩ := g_bind h
            refine g_calli (g_runS (n := 3) (As := [.int w76, .int 0, .int ((σ (t + 1) (1 : Int32).toNatClampNeg) - 1)]) (rest := []) C G (mX9_in l X σ w76 0 ((σ (t + 1) (1 : Int32).toNatClampNeg) - 1) v81 e_v81) (g_goodS u_ml_RX9_38 u_st_yX9_in u_in_RX9 u_co_yX9_in) rfl rfl rfl (by decide +kernel) ⟨Nat.le_of_ble_eq_true rfl, Nat.le_of_ble_eq_true rfl⟩ rfl hl.1 rfl (Nat.le_of_ble_eq_true rfl) dX9_behind_85 ⟨Nat.zero_le _, Nat.zero_le _⟩) G (fun H locs G => ?_)
            refine lv_if_eq (tgt := 105) hx hb dX9_behind_88 (by decide) (fun c82 => ?_) (fun c82 => ?_)
            · have h := g_it h c82
              refine lv_iconst (v := (-1)) hx hb dX9_behind_105 (by decide) ?_
              exact ret dX9_behind_106 rfl G ⟨Option.some.inj h, rfl⟩
            · have h := g_if h c82
              refine lv_iload hx hb dX9_behind_91 (lv_at hl 0 rfl) ?_
              refine lv_aload_n hx hb dX9_behind_93 rfl (lv_at hl 2 rfl) ?_
              refine gg9_0 C G ok.1 ok.2.1.1 u_fl_RX9_7 dX9_behind_94 ?_
              refine lv_iconst (v := 0) hx hb dX9_behind_97 (by decide) ?_
              obtain ⟨c83, h⟩ := g_chk h
              refine g_iald C G ok.2.2.1 c83 dX9_behind_98 ?_
              refine lv_imul hx hb dX9_behind_99 ?_
              refine lv_iload_n hx hb dX9_behind_100 rfl (lv_at hl 1 rfl) ?_
              refine lv_iadd hx hb dX9_behind_101 ?_
              refine lv_goto (tgt := 106) hx hb dX9_behind_102 (by decide) ?_
              exact ret dX9_behind_106 rfl G ⟨Option.some.inj h, rfl⟩
      · have h := g_it h c66
        refine lv_iconst (v := 1) hx hb dX9_behind_42 (by decide) ?_
        refine lv_goto (tgt := 55) hx hb dX9_behind_43 (by decide) ?_
        refine lv_iadd hx hb dX9_behind_55 ?_
        refine lv_topi (fun w67 e_w67 => ?_)
        have h := g_let2 e_w67 h
        refine lv_istore (lv' := [(4, .int w67), (3, .int w63), (0, .ref (xN X + t)), (1, .int a1), (2, .int a2)]) hx hb dX9_behind_56 hl (by decide) rfl (fun ls hl => ?_)
        refine lv_iload_n hx hb dX9_behind_58 rfl (lv_at hl 1 rfl) ?_
        refine lv_iconst (v := 0) hx hb dX9_behind_59 (by decide) ?_
        refine lv_aload_n hx hb dX9_behind_60 rfl (lv_at hl 2 rfl) ?_
        refine gg9_0 C G ok.1 ok.2.1.1 u_fl_RX9_7 dX9_behind_61 ?_
        refine lv_iconst (v := 0) hx hb dX9_behind_64 (by decide) ?_
        obtain ⟨c68, h⟩ := g_chk h
        refine g_iald C G ok.2.2.1 c68 dX9_behind_65 ?_
        refine lv_iconst (v := 1) hx hb dX9_behind_66 (by decide) ?_
        refine lv_isub hx hb dX9_behind_67 ?_
        obtain ⟨v69, e_v69, h⟩ := g_bind h
        refine g_calli (g_runS (n := 3) (As := [.int w63, .int 0, .int ((σ (t + 1) (0 : Int32).toNatClampNeg) - 1)]) (rest := []) C G (mX9_in l X σ w63 0 ((σ (t + 1) (0 : Int32).toNatClampNeg) - 1) v69 e_v69) (g_goodS u_ml_RX9_38 u_st_yX9_in u_in_RX9 u_co_yX9_in) rfl rfl rfl (by decide +kernel) ⟨Nat.le_of_ble_eq_true rfl, Nat.le_of_ble_eq_true rfl⟩ rfl hl.1 rfl (Nat.le_of_ble_eq_true rfl) dX9_behind_68 ⟨Nat.zero_le _, Nat.zero_le _⟩) G (fun H locs G => ?_)
        refine lv_if_eq (tgt := 105) hx hb dX9_behind_71 (by decide) (fun c70 => ?_) (fun c70 => ?_)
        · have h := g_it h c70
          refine lv_iconst (v := (-1)) hx hb dX9_behind_105 (by decide) ?_
          exact ret dX9_behind_106 rfl G ⟨Option.some.inj h, rfl⟩
        · have h := g_if h c70
          refine lv_iload hx hb dX9_behind_74 (lv_at hl 0 rfl) ?_
          refine lv_iconst (v := 0) hx hb dX9_behind_76 (by decide) ?_
          refine lv_aload_n hx hb dX9_behind_77 rfl (lv_at hl 2 rfl) ?_
          refine gg9_0 C G ok.1 ok.2.1.1 u_fl_RX9_7 dX9_behind_78 ?_
          refine lv_iconst (v := 1) hx hb dX9_behind_81 (by decide) ?_
          obtain ⟨c71, h⟩ := g_chk h
          refine g_iald C G ok.2.2.1 c71 dX9_behind_82 ?_
          refine lv_iconst (v := 1) hx hb dX9_behind_83 (by decide) ?_
          refine lv_isub hx hb dX9_behind_84 ?_
          obtain ⟨v72, e_v72, h⟩ := g_bind h
          refine g_calli (g_runS (n := 3) (As := [.int w67, .int 0, .int ((σ (t + 1) (1 : Int32).toNatClampNeg) - 1)]) (rest := []) C G (mX9_in l X σ w67 0 ((σ (t + 1) (1 : Int32).toNatClampNeg) - 1) v72 e_v72) (g_goodS u_ml_RX9_38 u_st_yX9_in u_in_RX9 u_co_yX9_in) rfl rfl rfl (by decide +kernel) ⟨Nat.le_of_ble_eq_true rfl, Nat.le_of_ble_eq_true rfl⟩ rfl hl.1 rfl (Nat.le_of_ble_eq_true rfl) dX9_behind_85 ⟨Nat.zero_le _, Nat.zero_le _⟩) G (fun H locs G => ?_)
          refine lv_if_eq (tgt := 105) hx hb dX9_behind_88 (by decide) (fun c73 => ?_) (fun c73 => ?_)
          · have h := g_it h c73
            refine lv_iconst (v := (-1)) hx hb dX9_behind_105 (by decide) ?_
            exact ret dX9_behind_106 rfl G ⟨Option.some.inj h, rfl⟩
          · have h := g_if h c73
            refine lv_iload hx hb dX9_behind_91 (lv_at hl 0 rfl) ?_
            refine lv_aload_n hx hb dX9_behind_93 rfl (lv_at hl 2 rfl) ?_
            refine gg9_0 C G ok.1 ok.2.1.1 u_fl_RX9_7 dX9_behind_94 ?_
            refine lv_iconst (v := 0) hx hb dX9_behind_97 (by decide) ?_
            obtain ⟨c74, h⟩ := g_chk h
            refine g_iald C G ok.2.2.1 c74 dX9_behind_98 ?_
            refine lv_imul hx hb dX9_behind_99 ?_
            refine lv_iload_n hx hb dX9_behind_100 rfl (lv_at hl 1 rfl) ?_
            refine lv_iadd hx hb dX9_behind_101 ?_
            refine lv_goto (tgt := 106) hx hb dX9_behind_102 (by decide) ?_
            exact ret dX9_behind_106 rfl G ⟨Option.some.inj h, rfl⟩
    · have h := g_it h c33
      refine lv_iconst (v := (-1)) hx hb dX9_behind_22 (by decide) ?_
      refine lv_goto (tgt := 27) hx hb dX9_behind_23 (by decide) ?_
      refine lv_iadd hx hb dX9_behind_27 ?_
      refine lv_topi (fun w34 e_w34 => ?_)
      have h := g_let2 e_w34 h
      refine lv_istore_n (lv' := [(3, .int w34), (0, .ref (xN X + t)), (1, .int a1), (2, .int a2)]) hx hb dX9_behind_28 rfl hl (by decide) rfl (fun ls hl => ?_)
      refine lv_iload_n hx hb dX9_behind_29 rfl (lv_at hl 2 rfl) ?_
      refine lv_aload_n hx hb dX9_behind_30 rfl (lv_at hl 1 rfl) ?_
      refine gg9_0 C G ok.1 ok.2.1.1 u_fl_RX9_7 dX9_behind_31 ?_
      refine lv_iconst (v := 0) hx hb dX9_behind_34 (by decide) ?_
      obtain ⟨c35, h⟩ := g_chk h
      refine g_iald C G ok.2.2.1 c35 dX9_behind_35 ?_
      obtain ⟨c36, h⟩ := g_chk h
      refine lv_idiv hx hb dX9_behind_36 c36 ?_
      refine lv_iload_n hx hb dX9_behind_37 rfl (lv_at hl 3 rfl) ?_
      refine lv_iconst (v := 2) hx hb dX9_behind_38 (by decide) ?_
      refine lv_icmp_ne (tgt := 46) hx hb dX9_behind_39 (by decide) (fun c37 => ?_) (fun c37 => ?_)
      · have h := g_if h c37
        refine lv_iload_n hx hb dX9_behind_46 rfl (lv_at hl 3 rfl) ?_
        refine lv_if_ne (tgt := 54) hx hb dX9_behind_47 (by decide) (fun c46 => ?_) (fun c46 => ?_)
        · have h := g_if h c46
          refine lv_iconst (v := 0) hx hb dX9_behind_54 (by decide) ?_
          refine lv_iadd hx hb dX9_behind_55 ?_
          refine lv_topi (fun w55 e_w55 => ?_)
          have h := g_let2 e_w55 h
          refine lv_istore (lv' := [(4, .int w55), (3, .int w34), (0, .ref (xN X + t)), (1, .int a1), (2, .int a2)]) hx hb dX9_behind_56 hl (by decide) rfl (fun ls hl => ?_)
          refine lv_iload_n hx hb dX9_behind_58 rfl (lv_at hl 1 rfl) ?_
          refine lv_iconst (v := 0) hx hb dX9_behind_59 (by decide) ?_
          refine lv_aload_n hx hb dX9_behind_60 rfl (lv_at hl 2 rfl) ?_
          refine gg9_0 C G ok.1 ok.2.1.1 u_fl_RX9_7 dX9_behind_61 ?_
          refine lv_iconst (v := 0) hx hb dX9_behind_64 (by decide) ?_
          obtain ⟨c56, h⟩ := g_chk h
          refine g_iald C G ok.2.2.1 c56 dX9_behind_65 ?_
          refine lv_iconst (v := 1) hx hb dX9_behind_66 (by decide) ?_
          refine lv_isub hx hb dX9_behind_67 ?_
          obtain ⟨v57, e_v57, h⟩ := g_bind h
          refine g_calli (g_runS (n := 3) (As := [.int w34, .int 0, .int ((σ (t + 1) (0 : Int32).toNatClampNeg) - 1)]) (rest := []) C G (mX9_in l X σ w34 0 ((σ (t + 1) (0 : Int32).toNatClampNeg) - 1) v57 e_v57) (g_goodS u_ml_RX9_38 u_st_yX9_in u_in_RX9 u_co_yX9_in) rfl rfl rfl (by decide +kernel) ⟨Nat.le_of_ble_eq_true rfl, Nat.le_of_ble_eq_true rfl⟩ rfl hl.1 rfl (Nat.le_of_ble_eq_true rfl) dX9_behind_68 ⟨Nat.zero_le _, Nat.zero_le _⟩) G (fun H locs G => ?_)
          refine lv_if_eq (tgt := 105) hx hb dX9_behind_71 (by decide) (fun c58 => ?_) (fun c58 => ?_)
          · have h := g_it h c58
            refine lv_iconst (v := (-1)) hx hb dX9_behind_105 (by decide) ?_
            exact ret dX9_behind_106 rfl G ⟨Option.some.inj h, rfl⟩
          · have h := g_if h c58
            refine lv_iload hx hb dX9_behind_74 (lv_at hl 0 rfl) ?_
            refine lv_iconst (v := 0) hx hb dX9_behind_76 (by decide) ?_
            refine lv_aload_n hx hb dX9_behind_77 rfl (lv_at hl 2 rfl) ?_
            refine gg9_0 C G ok.1 ok.2.1.1 u_fl_RX9_7 dX9_behind_78 ?_
            refine lv_iconst (v := 1) hx hb dX9_behind_81 (by decide) ?_
            obtain ⟨c59, h⟩ := g_chk h
            refine g_iald C G ok.2.2.1 c59 dX9_behind_82 ?_
            refine lv_iconst (v := 1) hx hb dX9_behind_83 (by decide) ?_
            refine lv_isub hx hb dX9_behind_84 ?_
            obtain ⟨v60, e_v60, h⟩ := g_bind h
            refine g_calli (g_runS (n := 3) (As := [.int w55, .int 0, .int ((σ (t + 1) (1 : Int32).toNatClampNeg) - 1)]) (rest := []) C G (mX9_in l X σ w55 0 ((σ (t + 1) (1 : Int32).toNatClampNeg) - 1) v60 e_v60) (g_goodS u_ml_RX9_38 u_st_yX9_in u_in_RX9 u_co_yX9_in) rfl rfl rfl (by decide +kernel) ⟨Nat.le_of_ble_eq_true rfl, Nat.le_of_ble_eq_true rfl⟩ rfl hl.1 rfl (Nat.le_of_ble_eq_true rfl) dX9_behind_85 ⟨Nat.zero_le _, Nat.zero_le _⟩) G (fun H locs G => ?_)
            refine lv_if_eq (tgt := 105) hx hb dX9_behind_88 (by decide) (fun c61 => ?_) (fun c61 => ?_)
            · have h := g_it h c61
              refine lv_iconst (v := (-1)) hx hb dX9_behind_105 (by decide) ?_
              exact ret dX9_behind_106 rfl G ⟨Option.some.inj h, rfl⟩
            · have h := g_if h c61
              refine lv_iload hx hb dX9_behind_91 (lv_at hl 0 rfl) ?_
              refine lv_aload_n hx hb dX9_behind_93 rfl (lv_at hl 2 rfl) ?_
              refine gg9_0 C G ok.1 ok.2.1.1 u_fl_RX9_7 dX9_behind_94 ?_
              refine lv_iconst (v := 0) hx hb dX9_behind_97 (by decide) ?_
              obtain ⟨c62, h⟩ := g_chk h
              refine g_iald C G ok.2.2.1 c62 dX9_behind_98 ?_
              refine lv_imul hx hb dX9_behind_99 ?_
              refine lv_iload_n hx hb dX9_behind_100 rfl (lv_at hl 1 rfl) ?_
              refine lv_iadd hx hb dX9_behind_101 ?_
              refine lv_goto (tgt := 106) hx hb dX9_behind_102 (by decide) ?_
              exact ret dX9_behind_106 rfl G ⟨Option.some.inj h, rfl⟩
        · have h := g_it h c46
          refine lv_iconst (v := (-1)) hx hb dX9_behind_50 (by decide) ?_
          refine lv_goto (tgt := 55) hx hb dX9_behind_51 (by decide) ?_
          refine lv_iadd hx hb dX9_behind_55 ?_
          refine lv_topi (fun w47 e_w47 => ?_)
          have h := g_let2 e_w47 h
          refine lv_istore (lv' := [(4, .int w47), (3, .int w34), (0, .ref (xN X + t)), (1, .int a1), (2, .int a2)]) hx hb dX9_behind_56 hl (by decide) rfl (fun ls hl => ?_)
          refine lv_iload_n hx hb dX9_behind_58 rfl (lv_at hl 1 rfl) ?_
          refine lv_iconst (v := 0) hx hb dX9_behind_59 (by decide) ?_
          refine lv_aload_n hx hb dX9_behind_60 rfl (lv_at hl 2 rfl) ?_
          refine gg9_0 C G ok.1 ok.2.1.1 u_fl_RX9_7 dX9_behind_61 ?_
          refine lv_iconst (v := 0) hx hb dX9_behind_64 (by decide) ?_
          obtain ⟨c48, h⟩ := g_chk h
          refine g_iald C G ok.2.2.1 c48 dX9_behind_65 ?_
          refine lv_iconst (v := 1) hx hb dX9_behind_66 (by decide) ?_
          refine lv_isub hx hb dX9_behind_67 ?_
          obtain ⟨v49, e_v49, h⟩ := g_bind h
          refine g_calli (g_runS (n := 3) (As := [.int w34, .int 0, .int ((σ (t + 1) (0 : Int32).toNatClampNeg) - 1)]) (rest := []) C G (mX9_in l X σ w34 0 ((σ (t + 1) (0 : Int32).toNatClampNeg) - 1) v49 e_v49) (g_goodS u_ml_RX9_38 u_st_yX9_in u_in_RX9 u_co_yX9_in) rfl rfl rfl (by decide +kernel) ⟨Nat.le_of_ble_eq_true rfl, Nat.le_of_ble_eq_true rfl⟩ rfl hl.1 rfl (Nat.le_of_ble_eq_true rfl) dX9_behind_68 ⟨Nat.zero_le _, Nat.zero_le _⟩) G (fun H locs G => ?_)
          refine lv_if_eq (tgt := 105) hx hb dX9_behind_71 (by decide) (fun c50 => ?_) (fun c50 => ?_)
          · have h := g_it h c50
            refine lv_iconst (v := (-1)) hx hb dX9_behind_105 (by decide) ?_
            exact ret dX9_behind_106 rfl G ⟨Option.some.inj h, rfl⟩
          · have h := g_if h c50
            refine lv_iload hx hb dX9_behind_74 (lv_at hl 0 rfl) ?_
            refine lv_iconst (v := 0) hx hb dX9_behind_76 (by decide) ?_
            refine lv_aload_n hx hb dX9_behind_77 rfl (lv_at hl 2 rfl) ?_
            refine gg9_0 C G ok.1 ok.2.1.1 u_fl_RX9_7 dX9_behind_78 ?_
            refine lv_iconst (v := 1) hx hb dX9_behind_81 (by decide) ?_
            obtain ⟨c51, h⟩ := g_chk h
            refine g_iald C G ok.2.2.1 c51 dX9_behind_82 ?_
            refine lv_iconst (v := 1) hx hb dX9_behind_83 (by decide) ?_
            refine lv_isub hx hb dX9_behind_84 ?_
            obtain ⟨v52, e_v52, h⟩ := g_bind h
            refine g_calli (g_runS (n := 3) (As := [.int w47, .int 0, .int ((σ (t + 1) (1 : Int32).toNatClampNeg) - 1)]) (rest := []) C G (mX9_in l X σ w47 0 ((σ (t + 1) (1 : Int32).toNatClampNeg) - 1) v52 e_v52) (g_goodS u_ml_RX9_38 u_st_yX9_in u_in_RX9 u_co_yX9_in) rfl rfl rfl (by decide +kernel) ⟨Nat.le_of_ble_eq_true rfl, Nat.le_of_ble_eq_true rfl⟩ rfl hl.1 rfl (Nat.le_of_ble_eq_true rfl) dX9_behind_85 ⟨Nat.zero_le _, Nat.zero_le _⟩) G (fun H locs G => ?_)
            refine lv_if_eq (tgt := 105) hx hb dX9_behind_88 (by decide) (fun c53 => ?_) (fun c53 => ?_)
            · have h := g_it h c53
              refine lv_iconst (v := (-1)) hx hb dX9_behind_105 (by decide) ?_
              exact ret dX9_behind_106 rfl G ⟨Option.some.inj h, rfl⟩
            · have h := g_if h c53
              refine lv_iload hx hb dX9_behind_91 (lv_at hl 0 rfl) ?_
              refine lv_aload_n hx hb dX9_behind_93 rfl (lv_at hl 2 rfl) ?_
              refine gg9_0 C G ok.1 ok.2.1.1 u_fl_RX9_7 dX9_behind_94 ?_
              refine lv_iconst (v := 0) hx hb dX9_behind_97 (by decide) ?_
              obtain ⟨c54, h⟩ := g_chk h
              refine g_iald C G ok.2.2.1 c54 dX9_behind_98 ?_
              refine lv_imul hx hb dX9_behind_99 ?_
              refine lv_iload_n hx hb dX9_behind_100 rfl (lv_at hl 1 rfl) ?_
              refine lv_iadd hx hb dX9_behind_101 ?_
              refine lv_goto (tgt := 106) hx hb dX9_behind_102 (by decide) ?_
              exact ret dX9_behind_106 rfl G ⟨Option.some.inj h, rfl⟩
      · have h := g_it h c37
        refine lv_iconst (v := 1) hx hb dX9_behind_42 (by decide) ?_
        refine lv_goto (tgt := 55) hx hb dX9_behind_43 (by decide) ?_
        refine lv_iadd hx hb dX9_behind_55 ?_
        refine lv_topi (fun w38 e_w38 => ?_)
        have h := g_let2 e_w38 h
        refine lv_istore (lv' := [(4, .int w38), (3, .int w34), (0, .ref (xN X + t)), (1, .int a1), (2, .int a2)]) hx hb dX9_behind_56 hl (by decide) rfl (fun ls hl => ?_)
        refine lv_iload_n hx hb dX9_behind_58 rfl (lv_at hl 1 rfl) ?_
        refine lv_iconst (v := 0) hx hb dX9_behind_59 (by decide) ?_
        refine lv_aload_n hx hb dX9_behind_60 rfl (lv_at hl 2 rfl) ?_
        refine gg9_0 C G ok.1 ok.2.1.1 u_fl_RX9_7 dX9_behind_61 ?_
        refine lv_iconst (v := 0) hx hb dX9_behind_64 (by decide) ?_
        obtain ⟨c39, h⟩ := g_chk h
        refine g_iald C G ok.2.2.1 c39 dX9_behind_65 ?_
        refine lv_iconst (v := 1) hx hb dX9_behind_66 (by decide) ?_
        refine lv_isub hx hb dX9_behind_67 ?_
        obtain ⟨v40, e_v40, h⟩ := g_bind h
        refine g_calli (g_runS (n := 3) (As := [.int w34, .int 0, .int ((σ (t + 1) (0 : Int32).toNatClampNeg) - 1)]) (rest := []) C G (mX9_in l X σ w34 0 ((σ (t + 1) (0 : Int32).toNatClampNeg) - 1) v40 e_v40) (g_goodS u_ml_RX9_38 u_st_yX9_in u_in_RX9 u_co_yX9_in) rfl rfl rfl (by decide +kernel) ⟨Nat.le_of_ble_eq_true rfl, Nat.le_of_ble_eq_true rfl⟩ rfl hl.1 rfl (Nat.le_of_ble_eq_true rfl) dX9_behind_68 ⟨Nat.zero_le _, Nat.zero_le _⟩) G (fun H locs G => ?_)
        refine lv_if_eq (tgt := 105) hx hb dX9_behind_71 (by decide) (fun c41 => ?_) (fun c41 => ?_)
        · have h := g_it h c41
          refine lv_iconst (v := (-1)) hx hb dX9_behind_105 (by decide) ?_
          exact ret dX9_behind_106 rfl G ⟨Option.some.inj h, rfl⟩
        · have h := g_if h c41
          refine lv_iload hx hb dX9_behind_74 (lv_at hl 0 rfl) ?_
          refine lv_iconst (v := 0) hx hb dX9_behind_76 (by decide) ?_
          refine lv_aload_n hx hb dX9_behind_77 rfl (lv_at hl 2 rfl) ?_
          refine gg9_0 C G ok.1 ok.2.1.1 u_fl_RX9_7 dX9_behind_78 ?_
          refine lv_iconst (v := 1) hx hb dX9_behind_81 (by decide) ?_
          obtain ⟨c42, h⟩ := g_chk h
          refine g_iald C G ok.2.2.1 c42 dX9_behind_82 ?_
          refine lv_iconst (v := 1) hx hb dX9_behind_83 (by decide) ?_
          refine lv_isub hx hb dX9_behind_84 ?_
          obtain ⟨v43, e_v43, h⟩ := g_bind h
          refine g_calli (g_runS (n := 3) (As := [.int w38, .int 0, .int ((σ (t + 1) (1 : Int32).toNatClampNeg) - 1)]) (rest := []) C G (mX9_in l X σ w38 0 ((σ (t + 1) (1 : Int32).toNatClampNeg) - 1) v43 e_v43) (g_goodS u_ml_RX9_38 u_st_yX9_in u_in_RX9 u_co_yX9_in) rfl rfl rfl (by decide +kernel) ⟨Nat.le_of_ble_eq_true rfl, Nat.le_of_ble_eq_true rfl⟩ rfl hl.1 rfl (Nat.le_of_ble_eq_true rfl) dX9_behind_85 ⟨Nat.zero_le _, Nat.zero_le _⟩) G (fun H locs G => ?_)
          refine lv_if_eq (tgt := 105) hx hb dX9_behind_88 (by decide) (fun c44 => ?_) (fun c44 => ?_)
          · have h := g_it h c44
            refine lv_iconst (v := (-1)) hx hb dX9_behind_105 (by decide) ?_
            exact ret dX9_behind_106 rfl G ⟨Option.some.inj h, rfl⟩
          · have h := g_if h c44
            refine lv_iload hx hb dX9_behind_91 (lv_at hl 0 rfl) ?_
            refine lv_aload_n hx hb dX9_behind_93 rfl (lv_at hl 2 rfl) ?_
            refine gg9_0 C G ok.1 ok.2.1.1 u_fl_RX9_7 dX9_behind_94 ?_
            refine lv_iconst (v := 0) hx hb dX9_behind_97 (by decide) ?_
            obtain ⟨c45, h⟩ := g_chk h
            refine g_iald C G ok.2.2.1 c45 dX9_behind_98 ?_
            refine lv_imul hx hb dX9_behind_99 ?_
            refine lv_iload_n hx hb dX9_behind_100 rfl (lv_at hl 1 rfl) ?_
            refine lv_iadd hx hb dX9_behind_101 ?_
            refine lv_goto (tgt := 106) hx hb dX9_behind_102 (by decide) ?_
            exact ret dX9_behind_106 rfl G ⟨Option.some.inj h, rfl⟩
  · have h := g_it h c3
    refine lv_iconst (v := 1) hx hb dX9_behind_13 (by decide) ?_
    refine lv_goto (tgt := 27) hx hb dX9_behind_14 (by decide) ?_
    refine lv_iadd hx hb dX9_behind_27 ?_
    refine lv_topi (fun w4 e_w4 => ?_)
    have h := g_let2 e_w4 h
    refine lv_istore_n (lv' := [(3, .int w4), (0, .ref (xN X + t)), (1, .int a1), (2, .int a2)]) hx hb dX9_behind_28 rfl hl (by decide) rfl (fun ls hl => ?_)
    refine lv_iload_n hx hb dX9_behind_29 rfl (lv_at hl 2 rfl) ?_
    refine lv_aload_n hx hb dX9_behind_30 rfl (lv_at hl 1 rfl) ?_
    refine gg9_0 C G ok.1 ok.2.1.1 u_fl_RX9_7 dX9_behind_31 ?_
    refine lv_iconst (v := 0) hx hb dX9_behind_34 (by decide) ?_
    obtain ⟨c5, h⟩ := g_chk h
    refine g_iald C G ok.2.2.1 c5 dX9_behind_35 ?_
    obtain ⟨c6, h⟩ := g_chk h
    refine lv_idiv hx hb dX9_behind_36 c6 ?_
    refine lv_iload_n hx hb dX9_behind_37 rfl (lv_at hl 3 rfl) ?_
    refine lv_iconst (v := 2) hx hb dX9_behind_38 (by decide) ?_
    refine lv_icmp_ne (tgt := 46) hx hb dX9_behind_39 (by decide) (fun c7 => ?_) (fun c7 => ?_)
    · have h := g_if h c7
      refine lv_iload_n hx hb dX9_behind_46 rfl (lv_at hl 3 rfl) ?_
      refine lv_if_ne (tgt := 54) hx hb dX9_behind_47 (by decide) (fun c16 => ?_) (fun c16 => ?_)
      · have h := g_if h c16
        refine lv_iconst (v := 0) hx hb dX9_behind_54 (by decide) ?_
        refine lv_iadd hx hb dX9_behind_55 ?_
        refine lv_topi (fun w25 e_w25 => ?_)
        have h := g_let2 e_w25 h
        refine lv_istore (lv' := [(4, .int w25), (3, .int w4), (0, .ref (xN X + t)), (1, .int a1), (2, .int a2)]) hx hb dX9_behind_56 hl (by decide) rfl (fun ls hl => ?_)
        refine lv_iload_n hx hb dX9_behind_58 rfl (lv_at hl 1 rfl) ?_
        refine lv_iconst (v := 0) hx hb dX9_behind_59 (by decide) ?_
        refine lv_aload_n hx hb dX9_behind_60 rfl (lv_at hl 2 rfl) ?_
        refine gg9_0 C G ok.1 ok.2.1.1 u_fl_RX9_7 dX9_behind_61 ?_
        refine lv_iconst (v := 0) hx hb dX9_behind_64 (by decide) ?_
        obtain ⟨c26, h⟩ := g_chk h
        refine g_iald C G ok.2.2.1 c26 dX9_behind_65 ?_
        refine lv_iconst (v := 1) hx hb dX9_behind_66 (by decide) ?_
        refine lv_isub hx hb dX9_behind_67 ?_
        obtain ⟨v27, e_v27, h⟩ := g_bind h
        refine g_calli (g_runS (n := 3) (As := [.int w4, .int 0, .int ((σ (t + 1) (0 : Int32).toNatClampNeg) - 1)]) (rest := []) C G (mX9_in l X σ w4 0 ((σ (t + 1) (0 : Int32).toNatClampNeg) - 1) v27 e_v27) (g_goodS u_ml_RX9_38 u_st_yX9_in u_in_RX9 u_co_yX9_in) rfl rfl rfl (by decide +kernel) ⟨Nat.le_of_ble_eq_true rfl, Nat.le_of_ble_eq_true rfl⟩ rfl hl.1 rfl (Nat.le_of_ble_eq_true rfl) dX9_behind_68 ⟨Nat.zero_le _, Nat.zero_le _⟩) G (fun H locs G => ?_)
        refine lv_if_eq (tgt := 105) hx hb dX9_behind_71 (by decide) (fun c28 => ?_) (fun c28 => ?_)
        · have h := g_it h c28
          refine lv_iconst (v := (-1)) hx hb dX9_behind_105 (by decide) ?_
          exact ret dX9_behind_106 rfl G ⟨Option.some.inj h, rfl⟩
        · have h := g_if h c28
          refine lv_iload hx hb dX9_behind_74 (lv_at hl 0 rfl) ?_
          refine lv_iconst (v := 0) hx hb dX9_behind_76 (by decide) ?_
          refine lv_aload_n hx hb dX9_behind_77 rfl (lv_at hl 2 rfl) ?_
          refine gg9_0 C G ok.1 ok.2.1.1 u_fl_RX9_7 dX9_behind_78 ?_
          refine lv_iconst (v := 1) hx hb dX9_behind_81 (by decide) ?_
          obtain ⟨c29, h⟩ := g_chk h
          refine g_iald C G ok.2.2.1 c29 dX9_behind_82 ?_
          refine lv_iconst (v := 1) hx hb dX9_behind_83 (by decide) ?_
          refine lv_isub hx hb dX9_behind_84 ?_
          obtain ⟨v30, e_v30, h⟩ := g_bind h
          refine g_calli (g_runS (n := 3) (As := [.int w25, .int 0, .int ((σ (t + 1) (1 : Int32).toNatClampNeg) - 1)]) (rest := []) C G (mX9_in l X σ w25 0 ((σ (t + 1) (1 : Int32).toNatClampNeg) - 1) v30 e_v30) (g_goodS u_ml_RX9_38 u_st_yX9_in u_in_RX9 u_co_yX9_in) rfl rfl rfl (by decide +kernel) ⟨Nat.le_of_ble_eq_true rfl, Nat.le_of_ble_eq_true rfl⟩ rfl hl.1 rfl (Nat.le_of_ble_eq_true rfl) dX9_behind_85 ⟨Nat.zero_le _, Nat.zero_le _⟩) G (fun H locs G => ?_)
          refine lv_if_eq (tgt := 105) hx hb dX9_behind_88 (by decide) (fun c31 => ?_) (fun c31 => ?_)
          · have h := g_it h c31
            refine lv_iconst (v := (-1)) hx hb dX9_behind_105 (by decide) ?_
            exact ret dX9_behind_106 rfl G ⟨Option.some.inj h, rfl⟩
          · have h := g_if h c31
            refine lv_iload hx hb dX9_behind_91 (lv_at hl 0 rfl) ?_
            refine lv_aload_n hx hb dX9_behind_93 rfl (lv_at hl 2 rfl) ?_
            refine gg9_0 C G ok.1 ok.2.1.1 u_fl_RX9_7 dX9_behind_94 ?_
            refine lv_iconst (v := 0) hx hb dX9_behind_97 (by decide) ?_
            obtain ⟨c32, h⟩ := g_chk h
            refine g_iald C G ok.2.2.1 c32 dX9_behind_98 ?_
            refine lv_imul hx hb dX9_behind_99 ?_
            refine lv_iload_n hx hb dX9_behind_100 rfl (lv_at hl 1 rfl) ?_
            refine lv_iadd hx hb dX9_behind_101 ?_
            refine lv_goto (tgt := 106) hx hb dX9_behind_102 (by decide) ?_
            exact ret dX9_behind_106 rfl G ⟨Option.some.inj h, rfl⟩
      · have h := g_it h c16
        refine lv_iconst (v := (-1)) hx hb dX9_behind_50 (by decide) ?_
        refine lv_goto (tgt := 55) hx hb dX9_behind_51 (by decide) ?_
        refine lv_iadd hx hb dX9_behind_55 ?_
        refine lv_topi (fun w17 e_w17 => ?_)
        have h := g_let2 e_w17 h
        refine lv_istore (lv' := [(4, .int w17), (3, .int w4), (0, .ref (xN X + t)), (1, .int a1), (2, .int a2)]) hx hb dX9_behind_56 hl (by decide) rfl (fun ls hl => ?_)
        refine lv_iload_n hx hb dX9_behind_58 rfl (lv_at hl 1 rfl) ?_
        refine lv_iconst (v := 0) hx hb dX9_behind_59 (by decide) ?_
        refine lv_aload_n hx hb dX9_behind_60 rfl (lv_at hl 2 rfl) ?_
        refine gg9_0 C G ok.1 ok.2.1.1 u_fl_RX9_7 dX9_behind_61 ?_
        refine lv_iconst (v := 0) hx hb dX9_behind_64 (by decide) ?_
        obtain ⟨c18, h⟩ := g_chk h
        refine g_iald C G ok.2.2.1 c18 dX9_behind_65 ?_
        refine lv_iconst (v := 1) hx hb dX9_behind_66 (by decide) ?_
        refine lv_isub hx hb dX9_behind_67 ?_
        obtain ⟨v19, e_v19, h⟩ := g_bind h
        refine g_calli (g_runS (n := 3) (As := [.int w4, .int 0, .int ((σ (t + 1) (0 : Int32).toNatClampNeg) - 1)]) (rest := []) C G (mX9_in l X σ w4 0 ((σ (t + 1) (0 : Int32).toNatClampNeg) - 1) v19 e_v19) (g_goodS u_ml_RX9_38 u_st_yX9_in u_in_RX9 u_co_yX9_in) rfl rfl rfl (by decide +kernel) ⟨Nat.le_of_ble_eq_true rfl, Nat.le_of_ble_eq_true rfl⟩ rfl hl.1 rfl (Nat.le_of_ble_eq_true rfl) dX9_behind_68 ⟨Nat.zero_le _, Nat.zero_le _⟩) G (fun H locs G => ?_)
        refine lv_if_eq (tgt := 105) hx hb dX9_behind_71 (by decide) (fun c20 => ?_) (fun c20 => ?_)
        · have h := g_it h c20
          refine lv_iconst (v := (-1)) hx hb dX9_behind_105 (by decide) ?_
          exact ret dX9_behind_106 rfl G ⟨Option.some.inj h, rfl⟩
        · have h := g_if h c20
          refine lv_iload hx hb dX9_behind_74 (lv_at hl 0 rfl) ?_
          refine lv_iconst (v := 0) hx hb dX9_behind_76 (by decide) ?_
          refine lv_aload_n hx hb dX9_behind_77 rfl (lv_at hl 2 rfl) ?_
          refine gg9_0 C G ok.1 ok.2.1.1 u_fl_RX9_7 dX9_behind_78 ?_
          refine lv_iconst (v := 1) hx hb dX9_behind_81 (by decide) ?_
          obtain ⟨c21, h⟩ := g_chk h
          refine g_iald C G ok.2.2.1 c21 dX9_behind_82 ?_
          refine lv_iconst (v := 1) hx hb dX9_behind_83 (by decide) ?_
          refine lv_isub hx hb dX9_behind_84 ?_
          obtain ⟨v22, e_v22, h⟩ := g_bind h
          refine g_calli (g_runS (n := 3) (As := [.int w17, .int 0, .int ((σ (t + 1) (1 : Int32).toNatClampNeg) - 1)]) (rest := []) C G (mX9_in l X σ w17 0 ((σ (t + 1) (1 : Int32).toNatClampNeg) - 1) v22 e_v22) (g_goodS u_ml_RX9_38 u_st_yX9_in u_in_RX9 u_co_yX9_in) rfl rfl rfl (by decide +kernel) ⟨Nat.le_of_ble_eq_true rfl, Nat.le_of_ble_eq_true rfl⟩ rfl hl.1 rfl (Nat.le_of_ble_eq_true rfl) dX9_behind_85 ⟨Nat.zero_le _, Nat.zero_le _⟩) G (fun H locs G => ?_)
          refine lv_if_eq (tgt := 105) hx hb dX9_behind_88 (by decide) (fun c23 => ?_) (fun c23 => ?_)
          · have h := g_it h c23
            refine lv_iconst (v := (-1)) hx hb dX9_behind_105 (by decide) ?_
            exact ret dX9_behind_106 rfl G ⟨Option.some.inj h, rfl⟩
          · have h := g_if h c23
            refine lv_iload hx hb dX9_behind_91 (lv_at hl 0 rfl) ?_
            refine lv_aload_n hx hb dX9_behind_93 rfl (lv_at hl 2 rfl) ?_
            refine gg9_0 C G ok.1 ok.2.1.1 u_fl_RX9_7 dX9_behind_94 ?_
            refine lv_iconst (v := 0) hx hb dX9_behind_97 (by decide) ?_
            obtain ⟨c24, h⟩ := g_chk h
            refine g_iald C G ok.2.2.1 c24 dX9_behind_98 ?_
            refine lv_imul hx hb dX9_behind_99 ?_
            refine lv_iload_n hx hb dX9_behind_100 rfl (lv_at hl 1 rfl) ?_
            refine lv_iadd hx hb dX9_behind_101 ?_
            refine lv_goto (tgt := 106) hx hb dX9_behind_102 (by decide) ?_
            exact ret dX9_behind_106 rfl G ⟨Option.some.inj h, rfl⟩
    · have h := g_it h c7
      refine lv_iconst (v := 1) hx hb dX9_behind_42 (by decide) ?_
      refine lv_goto (tgt := 55) hx hb dX9_behind_43 (by decide) ?_
      refine lv_iadd hx hb dX9_behind_55 ?_
      refine lv_topi (fun w8 e_w8 => ?_)
      have h := g_let2 e_w8 h
      refine lv_istore (lv' := [(4, .int w8), (3, .int w4), (0, .ref (xN X + t)), (1, .int a1), (2, .int a2)]) hx hb dX9_behind_56 hl (by decide) rfl (fun ls hl => ?_)
      refine lv_iload_n hx hb dX9_behind_58 rfl (lv_at hl 1 rfl) ?_
      refine lv_iconst (v := 0) hx hb dX9_behind_59 (by decide) ?_
      refine lv_aload_n hx hb dX9_behind_60 rfl (lv_at hl 2 rfl) ?_
      refine gg9_0 C G ok.1 ok.2.1.1 u_fl_RX9_7 dX9_behind_61 ?_
      refine lv_iconst (v := 0) hx hb dX9_behind_64 (by decide) ?_
      obtain ⟨c9, h⟩ := g_chk h
      refine g_iald C G ok.2.2.1 c9 dX9_behind_65 ?_
      refine lv_iconst (v := 1) hx hb dX9_behind_66 (by decide) ?_
      refine lv_isub hx hb dX9_behind_67 ?_
      obtain ⟨v10, e_v10, h⟩ := g_bind h
      refine g_calli (g_runS (n := 3) (As := [.int w4, .int 0, .int ((σ (t + 1) (0 : Int32).toNatClampNeg) - 1)]) (rest := []) C G (mX9_in l X σ w4 0 ((σ (t + 1) (0 : Int32).toNatClampNeg) - 1) v10 e_v10) (g_goodS u_ml_RX9_38 u_st_yX9_in u_in_RX9 u_co_yX9_in) rfl rfl rfl (by decide +kernel) ⟨Nat.le_of_ble_eq_true rfl, Nat.le_of_ble_eq_true rfl⟩ rfl hl.1 rfl (Nat.le_of_ble_eq_true rfl) dX9_behind_68 ⟨Nat.zero_le _, Nat.zero_le _⟩) G (fun H locs G => ?_)
      refine lv_if_eq (tgt := 105) hx hb dX9_behind_71 (by decide) (fun c11 => ?_) (fun c11 => ?_)
      · have h := g_it h c11
        refine lv_iconst (v := (-1)) hx hb dX9_behind_105 (by decide) ?_
        exact ret dX9_behind_106 rfl G ⟨Option.some.inj h, rfl⟩
      · have h := g_if h c11
        refine lv_iload hx hb dX9_behind_74 (lv_at hl 0 rfl) ?_
        refine lv_iconst (v := 0) hx hb dX9_behind_76 (by decide) ?_
        refine lv_aload_n hx hb dX9_behind_77 rfl (lv_at hl 2 rfl) ?_
        refine gg9_0 C G ok.1 ok.2.1.1 u_fl_RX9_7 dX9_behind_78 ?_
        refine lv_iconst (v := 1) hx hb dX9_behind_81 (by decide) ?_
        obtain ⟨c12, h⟩ := g_chk h
        refine g_iald C G ok.2.2.1 c12 dX9_behind_82 ?_
        refine lv_iconst (v := 1) hx hb dX9_behind_83 (by decide) ?_
        refine lv_isub hx hb dX9_behind_84 ?_
        obtain ⟨v13, e_v13, h⟩ := g_bind h
        refine g_calli (g_runS (n := 3) (As := [.int w8, .int 0, .int ((σ (t + 1) (1 : Int32).toNatClampNeg) - 1)]) (rest := []) C G (mX9_in l X σ w8 0 ((σ (t + 1) (1 : Int32).toNatClampNeg) - 1) v13 e_v13) (g_goodS u_ml_RX9_38 u_st_yX9_in u_in_RX9 u_co_yX9_in) rfl rfl rfl (by decide +kernel) ⟨Nat.le_of_ble_eq_true rfl, Nat.le_of_ble_eq_true rfl⟩ rfl hl.1 rfl (Nat.le_of_ble_eq_true rfl) dX9_behind_85 ⟨Nat.zero_le _, Nat.zero_le _⟩) G (fun H locs G => ?_)
        refine lv_if_eq (tgt := 105) hx hb dX9_behind_88 (by decide) (fun c14 => ?_) (fun c14 => ?_)
        · have h := g_it h c14
          refine lv_iconst (v := (-1)) hx hb dX9_behind_105 (by decide) ?_
          exact ret dX9_behind_106 rfl G ⟨Option.some.inj h, rfl⟩
        · have h := g_if h c14
          refine lv_iload hx hb dX9_behind_91 (lv_at hl 0 rfl) ?_
          refine lv_aload_n hx hb dX9_behind_93 rfl (lv_at hl 2 rfl) ?_
          refine gg9_0 C G ok.1 ok.2.1.1 u_fl_RX9_7 dX9_behind_94 ?_
          refine lv_iconst (v := 0) hx hb dX9_behind_97 (by decide) ?_
          obtain ⟨c15, h⟩ := g_chk h
          refine g_iald C G ok.2.2.1 c15 dX9_behind_98 ?_
          refine lv_imul hx hb dX9_behind_99 ?_
          refine lv_iload_n hx hb dX9_behind_100 rfl (lv_at hl 1 rfl) ?_
          refine lv_iadd hx hb dX9_behind_101 ?_
          refine lv_goto (tgt := 106) hx hb dX9_behind_102 (by decide) ?_
          exact ret dX9_behind_106 rfl G ⟨Option.some.inj h, rfl⟩

def fX9_scrapAt_2 (σ : gM) (t : Nat) (a1 : Int32) : Nat → Int32 → Option (Int32)
  | 0, _ => none
  | n + 1, x2 =>
    (if ¬ ((2 : Int32) < 0 ∨ gln (t + 1) ≤ (2 : Int32).toNatClampNeg) then
    (if (σ (t + 1) (2 : Int32).toNatClampNeg) ≤ x2 then
      some (-1)
    else
      (if ¬ ((123 + x2) < 0 ∨ gln (t + 1) ≤ (123 + x2).toNatClampNeg) then
      (if (σ (t + 1) (123 + x2).toNatClampNeg) = a1 then
        some x2
      else
        (gl (x2 + 1) fun w5 =>
        fX9_scrapAt_2 σ t a1 n w5))
      else none))
    else none)

def fX9_scrapAt (σ : gM) (t : Nat) (a1 : Int32) : Option (Int32) :=
  fX9_scrapAt_2 σ t a1 gF 0
set_option maxHeartbeats 4000000 in
set_option maxRecDepth 100000 in
theorem mX9_scrapAt (l : Launch) (X : gX) (σ : gM) (t : Nat) (a1 : Int32) (r : Int32) (ok : gok9 X t) (h : fX9_scrapAt σ t a1 = some r) : Met l yX9_scrapAt (Cond.code yX9_scrapAt cX9_scrapAt 3 (some .int) :: gBig) ({ frames := 0, cells := 0, slots := 0, locals := 0 }) (gPc X σ [.ref (xN X + t), .int a1]) (gQi X σ r) 0 0 (xA X) := by
  refine g_meti (cc := cX9_scrapAt) (maxL := 3) (own := RX9) (by decide) rfl rfl (Nat.le_of_ble_eq_true rfl) ?_
  intro p ev s m args below meth c Q C G ret ls hl
  obtain ⟨⟨hx, hb, hml, hown, hts⟩, hK⟩ := id C
  have hl : lv_has ls 3 [(0, .ref (xN X + t)), (1, .int a1)] := hl
  have L2 : ∀ (n : Nat) (H : Heap) (locs : List Loc) (ls : Array Slot) (x2 : Int32), gG X σ s H locs → lv_has ls 3 [(0, .ref (xN X + t)), (1, .int a1), (2, .int x2)] → fX9_scrapAt_2 σ t a1 n x2 = some r → W p l ev ({ frames := 0, cells := 0, slots := 0, locals := 0 }) s m args below meth c H locs 0 0 Q (F0 m 2 ls []) := by
    intro n
    induction n with
    | zero =>
      intro H locs ls x2 G hl h
      rw [fX9_scrapAt_2] at h
      cases h
    | succ n ih =>
      intro H locs ls x2 G hl h
      rw [fX9_scrapAt_2] at h
      refine lv_iload_n hx hb dX9_scrapAt_2 rfl (lv_at hl 2 rfl) ?_
      refine lv_aload_n hx hb dX9_scrapAt_3 rfl (lv_at hl 0 rfl) ?_
      refine gg9_0 C G ok.1 ok.2.1.1 u_fl_RX9_7 dX9_scrapAt_4 ?_
      refine lv_iconst (v := 2) hx hb dX9_scrapAt_7 (by decide) ?_
      obtain ⟨c1, h⟩ := g_chk h
      refine g_iald C G ok.2.2.1 c1 dX9_scrapAt_8 ?_
      refine lv_icmp_ge (tgt := 33) hx hb dX9_scrapAt_9 (by decide) (fun c2 => ?_) (fun c2 => ?_)
      · have h := g_it h c2
        refine lv_iconst (v := (-1)) hx hb dX9_scrapAt_33 (by decide) ?_
        exact ret dX9_scrapAt_34 rfl G ⟨Option.some.inj h, rfl⟩
      · have h := g_if h c2
        refine lv_aload_n hx hb dX9_scrapAt_12 rfl (lv_at hl 0 rfl) ?_
        refine gg9_0 C G ok.1 ok.2.1.1 u_fl_RX9_7 dX9_scrapAt_13 ?_
        refine lv_bipush (v := 123) hx hb dX9_scrapAt_16 (by decide) ?_
        refine lv_iload_n hx hb dX9_scrapAt_18 rfl (lv_at hl 2 rfl) ?_
        refine lv_iadd hx hb dX9_scrapAt_19 ?_
        obtain ⟨c3, h⟩ := g_chk h
        refine g_iald C G ok.2.2.1 c3 dX9_scrapAt_20 ?_
        refine lv_iload_n hx hb dX9_scrapAt_21 rfl (lv_at hl 1 rfl) ?_
        refine lv_icmp_ne (tgt := 27) hx hb dX9_scrapAt_22 (by decide) (fun c4 => ?_) (fun c4 => ?_)
        · have h := g_if h c4
          obtain ⟨w5, e_w5⟩ : ∃ y : Int32, y = x2 + 1 := ⟨_, rfl⟩
          have h := g_let2 e_w5 h
          refine lv_iinc (v := w5) (lv' := [(2, .int w5), (0, .ref (xN X + t)), (1, .int a1)]) hx hb dX9_scrapAt_27 hl (k := 2) rfl (by rw [e_w5]; rfl) (by decide) rfl (fun ls hl => ?_)
          refine lv_goto (tgt := 2) hx hb dX9_scrapAt_30 (by decide) ?_
          exact ih _ _ _ w5 G (lv_sub hl [1, 2, 0] rfl) h
        · have h := g_it h c4
          refine lv_iload_n hx hb dX9_scrapAt_25 rfl (lv_at hl 2 rfl) ?_
          exact ret dX9_scrapAt_26 rfl G ⟨Option.some.inj h, rfl⟩
  unfold fX9_scrapAt at h
  refine lv_iconst (v := 0) hx hb dX9_scrapAt_0 (by decide) ?_
  refine lv_istore_n (lv' := [(2, .int 0), (0, .ref (xN X + t)), (1, .int a1)]) hx hb dX9_scrapAt_1 rfl hl (by decide) rfl (fun ls hl => ?_)
  exact L2  gF _ _ _ 0 G (lv_sub hl [1, 2, 0] rfl) h
