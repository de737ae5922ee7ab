def fL_holds_486 (K347 : gM → Int32 → Int32 → Int32 → Int32 → Int32 → Option (Int32 × gM)) (o1 : Nat) : Nat → gM → Int32 → Int32 → Int32 → Int32 → Int32 → Option (Int32 × gM)
  | 0, _, _, _, _, _, _ => none
  | n + 1, σ, x3, x4, x5, x7, x8 =>
    (gl (x8 + 1) fun w52 =>
    K347 σ x3 x4 x5 x7 w52)

def fL_holds_432 (K347 : gM → Int32 → Int32 → Int32 → Int32 → Int32 → Option (Int32 × gM)) (K365 : gM → Int32 → Int32 → Int32 → Int32 → Int32 → Int32 → Option (Int32 × gM)) (o1 : Nat) : Nat → gM → Int32 → Int32 → Int32 → Int32 → Int32 → Int32 → Option (Int32 × gM)
  | 0, _, _, _, _, _, _, _ => none
  | n + 1, σ, x3, x4, x5, x7, x8, x9 =>
    (gl (x9 + 1) fun w65 =>
    K365 σ x3 x4 x5 x7 x8 w65)

def fL_holds_365 (K347 : gM → Int32 → Int32 → Int32 → Int32 → Int32 → Option (Int32 × gM)) (o1 : Nat) : Nat → gM → Int32 → Int32 → Int32 → Int32 → Int32 → Int32 → Option (Int32 × gM)
  | 0, _, _, _, _, _, _, _ => none
  | n + 1, σ, x3, x4, x5, x7, x8, x9 =>
    ((fX8_member σ o1 x8 x9).bind fun pv45 => gl pv45.1 fun v45 => gl pv45.2 fun σ46 =>
    (if v45 < 0 then
      (gl (x7 + x9) fun w48 =>
      (if x9 ≤ 0 then
        none
      else
        (if x8 = 0 then
          fL_holds_486 K347 o1 gF σ46 x3 x4 x5 w48 x8
        else
          ((fX8_member σ46 o1 x8 0).bind fun pv53 => gl pv53.1 fun v53 => gl pv53.2 fun σ54 =>
          ((fX8_member σ54 o1 (x8 - 1) 0).bind fun pv55 => gl pv55.1 fun v55 => gl pv55.2 fun σ56 =>
          (if v53 ≤ v55 then
            none
          else
            fL_holds_486 K347 o1 gF σ56 x3 x4 x5 w48 x8))))))
    else
      ((fX8_member σ46 o1 x8 x9).bind fun pv59 => gl pv59.1 fun v59 => gl pv59.2 fun σ60 =>
      ((fX8_scrap σ60 o1 v59 3).bind fun pv61 => gl pv61.1 fun v61 => gl pv61.2 fun σ62 =>
      (if v61 = x8 then
        (if x9 = 0 then
          fL_holds_432 K347 (fun σ2 y3 y4 y5 y7 y8 y9 => fL_holds_365 K347 o1 n σ2 y3 y4 y5 y7 y8 y9) o1 gF σ62 x3 x4 x5 x7 x8 x9
        else
          ((fX8_member σ62 o1 x8 x9).bind fun pv66 => gl pv66.1 fun v66 => gl pv66.2 fun σ67 =>
          ((fX8_member σ67 o1 x8 (x9 - 1)).bind fun pv68 => gl pv68.1 fun v68 => gl pv68.2 fun σ69 =>
          (if v66 ≤ v68 then
            none
          else
            fL_holds_432 K347 (fun σ2 y3 y4 y5 y7 y8 y9 => fL_holds_365 K347 o1 n σ2 y3 y4 y5 y7 y8 y9) o1 gF σ69 x3 x4 x5 x7 x8 x9))))
      else
        none)))))

def fL_holds_347 (o1 : Nat) : Nat → gM → Int32 → Int32 → Int32 → Int32 → Int32 → Option (Int32 × gM)
  | 0, _, _, _, _, _, _ => none
  | n + 1, σ, x3, x4, x5, x7, x8 =>
    ((fX8_count σ o1 4).bind fun pv24 => gl pv24.1 fun v24 => gl pv24.2 fun σ25 =>
    (if v24 ≤ x8 then
      ((fX8_count σ25 o1 1).bind fun pv28 => gl pv28.1 fun v28 => gl pv28.2 fun σ29 =>
      (if x3 = v28 then
        (if x7 = x3 then
          ((fX8_count σ29 o1 6).bind fun pv32 => gl pv32.1 fun v32 => gl pv32.2 fun σ33 =>
          ((fX8_count σ33 o1 7).bind fun pv34 => gl pv34.1 fun v34 => gl pv34.2 fun σ35 =>
          (if x4 = ((2 * v32) + v34) then
            ((fX8_count σ35 o1 5).bind fun pv37 => gl pv37.1 fun v37 => gl pv37.2 fun σ38 =>
            ((fX8_count σ38 o1 6).bind fun pv39 => gl pv39.1 fun v39 => gl pv39.2 fun σ40 =>
            ((fX8_count σ40 o1 8).bind fun pv41 => gl pv41.1 fun v41 => gl pv41.2 fun σ42 =>
            (if x5 = ((2 * (v37 - v39)) + v41) then
              some (1, σ42)
            else
              none))))
          else
            none)))
        else
          none)
      else
        none))
    else
      fL_holds_365 (fun σ2 y3 y4 y5 y7 y8 => fL_holds_347 o1 n σ2 y3 y4 y5 y7 y8) o1 gF σ25 x3 x4 x5 x7 x8 0))

def fL_holds_338 (K271 : gM → Int32 → Int32 → Int32 → Int32 → Int32 → Option (Int32 × gM)) (o1 : Nat) : Nat → gM → Int32 → Int32 → Int32 → Int32 → Int32 → Option (Int32 × gM)
  | 0, _, _, _, _, _, _ => none
  | n + 1, σ, x3, x4, x5, x7, x8 =>
    (gl (x8 + 1) fun w84 =>
    K271 σ x3 x4 x5 x7 w84)

def fL_holds_312 (K271 : gM → Int32 → Int32 → Int32 → Int32 → Int32 → Option (Int32 × gM)) (o1 : Nat) : Nat → gM → Int32 → Int32 → Int32 → Int32 → Int32 → Option (Int32 × gM)
  | 0, _, _, _, _, _, _ => none
  | n + 1, σ, x3, x4, x5, x7, x8 =>
    ((fX8_scrap σ o1 x8 2).bind fun pv78 => gl pv78.1 fun v78 => gl pv78.2 fun σ79 =>
    (if 0 ≤ v78 then
      ((fX8_scrap σ79 o1 x8 5).bind fun pv81 => gl pv81.1 fun v81 => gl pv81.2 fun σ82 =>
      (gl (x5 + v81) fun w83 =>
      fL_holds_338 K271 o1 gF σ82 x3 x4 w83 x7 x8))
    else
      (gl (x5 + 0) fun w85 =>
      fL_holds_338 K271 o1 gF σ79 x3 x4 w85 x7 x8)))

def fL_holds_271 (o1 : Nat) : Nat → gM → Int32 → Int32 → Int32 → Int32 → Int32 → Option (Int32 × gM)
  | 0, _, _, _, _, _, _ => none
  | n + 1, σ, x3, x4, x5, x7, x8 =>
    ((fX8_count σ o1 0).bind fun pv21 => gl pv21.1 fun v21 => gl pv21.2 fun σ22 =>
    (if v21 ≤ x8 then
      fL_holds_347 o1 gF σ22 x3 x4 x5 x7 0
    else
      ((fX8_scrap σ22 o1 x8 2).bind fun pv72 => gl pv72.1 fun v72 => gl pv72.2 fun σ73 =>
      (if 0 ≤ v72 then
        ((fX8_scrap σ73 o1 x8 4).bind fun pv75 => gl pv75.1 fun v75 => gl pv75.2 fun σ76 =>
        (gl (x4 + v75) fun w77 =>
        fL_holds_312 (fun σ2 y3 y4 y5 y7 y8 => fL_holds_271 o1 n σ2 y3 y4 y5 y7 y8) o1 gF σ76 x3 w77 x5 x7 x8))
      else
        (gl (x4 + 0) fun w86 =>
        fL_holds_312 (fun σ2 y3 y4 y5 y7 y8 => fL_holds_271 o1 n σ2 y3 y4 y5 y7 y8) o1 gF σ73 x3 w86 x5 x7 x8)))))

def fL_holds_259 (K75 : gM → Int32 → Int32 → Int32 → Int32 → Int32 → Int32 → Option (Int32 × gM)) (o1 : Nat) : Nat → gM → Int32 → Int32 → Int32 → Int32 → Int32 → Int32 → Option (Int32 × gM)
  | 0, _, _, _, _, _, _, _ => none
  | n + 1, σ, x1, x2, x3, x4, x5, x7 =>
    (gl (x7 + 1) fun w96 =>
    K75 σ x1 x2 x3 x4 x5 w96)

def fL_holds_196 (K75 : gM → Int32 → Int32 → Int32 → Int32 → Int32 → Int32 → Option (Int32 × gM)) (o1 : Nat) : Nat → gM → Int32 → Int32 → Int32 → Int32 → Int32 → Int32 → Int32 → Option (Int32 × gM)
  | 0, _, _, _, _, _, _, _, _ => none
  | n + 1, σ, x1, x2, x3, x4, x5, x7, x8 =>
    (if x8 < 0 then
      fL_holds_259 K75 o1 gF σ x1 x2 x3 x4 x5 x7
    else
      (if (x1 * x2) ≤ (x7 + x1) then
        fL_holds_259 K75 o1 gF σ x1 x2 x3 x4 x5 x7
      else
        ((fX8_reason σ o1 x7 2).bind fun v99 =>
        ((fX8_at σ o1 (x7 + x1)).bind fun v100 =>
        (if 0 ≤ v100 then
          ((fX8_reason σ o1 (x7 + x1) 0).bind fun v102 =>
          (if v99 = v102 then
            fL_holds_259 K75 o1 gF σ x1 x2 x3 x4 x5 x7
          else
            none))
        else
          (if v99 = (-1004) then
            fL_holds_259 K75 o1 gF σ x1 x2 x3 x4 x5 x7
          else
            none))))))

def fL_holds_133 (K75 : gM → Int32 → Int32 → Int32 → Int32 → Int32 → Int32 → Option (Int32 × gM)) (o1 : Nat) : Nat → gM → Int32 → Int32 → Int32 → Int32 → Int32 → Int32 → Int32 → Option (Int32 × gM)
  | 0, _, _, _, _, _, _, _, _ => none
  | n + 1, σ, x1, x2, x3, x4, x5, x7, x8 =>
    (if x8 < 0 then
      fL_holds_196 K75 o1 gF σ x1 x2 x3 x4 x5 x7 x8
    else
      (if ¬ x1 = 0 then
      (if (x1 - 1) ≤ (x7 - x7 / x1 * x1) then
        fL_holds_196 K75 o1 gF σ x1 x2 x3 x4 x5 x7 x8
      else
        ((fX8_reason σ o1 x7 1).bind fun v108 =>
        ((fX8_at σ o1 (x7 + 1)).bind fun v109 =>
        (if 0 ≤ v109 then
          ((fX8_reason σ o1 (x7 + 1) 3).bind fun v111 =>
          (if v108 = v111 then
            fL_holds_196 K75 o1 gF σ x1 x2 x3 x4 x5 x7 x8
          else
            none))
        else
          (if v108 = (-1004) then
            fL_holds_196 K75 o1 gF σ x1 x2 x3 x4 x5 x7 x8
          else
            none)))))
      else none))

def fL_holds_109 (K75 : gM → Int32 → Int32 → Int32 → Int32 → Int32 → Int32 → Option (Int32 × gM)) (o1 : Nat) : Nat → gM → Int32 → Int32 → Int32 → Int32 → Int32 → Int32 → Int32 → Option (Int32 × gM)
  | 0, _, _, _, _, _, _, _, _ => none
  | n + 1, σ, x1, x2, x3, x4, x5, x7, x8 =>
    (if x8 < 0 then
      fL_holds_133 K75 o1 gF σ x1 x2 x3 x4 x5 x7 x8
    else
      ((fX8_scrap σ o1 x8 2).bind fun pv114 => gl pv114.1 fun v114 => gl pv114.2 fun σ115 =>
      (if v114 = x7 then
        fL_holds_133 K75 o1 gF σ115 x1 x2 x3 x4 x5 x7 x8
      else
        none)))

def fL_holds_75 (o1 : Nat) : Nat → gM → Int32 → Int32 → Int32 → Int32 → Int32 → Int32 → Option (Int32 × gM)
  | 0, _, _, _, _, _, _, _ => none
  | n + 1, σ, x1, x2, x3, x4, x5, x7 =>
    (if (x1 * x2) ≤ x7 then
      fL_holds_271 o1 gF σ x3 x4 x5 0 0
    else
      ((fX8_at σ o1 x7).bind fun v88 =>
      (gl (if 0 ≤ v88 then (1 : Int32) else (0 : Int32)) fun w89 =>
      (gl (x3 + w89) fun w92 =>
      fL_holds_109 (fun σ2 y1 y2 y3 y4 y5 y7 => fL_holds_75 o1 n σ2 y1 y2 y3 y4 y5 y7) o1 gF σ x1 x2 w92 x4 x5 x7 v88))))

def fL_holds (σ : gM) (o1 : Nat) : Option (Int32 × gM) :=
  ((fX8_count σ o1 2).bind fun pv1 => gl pv1.1 fun v1 => gl pv1.2 fun σ2 =>
  ((fX8_count σ2 o1 3).bind fun pv3 => gl pv3.1 fun v3 => gl pv3.2 fun σ4 =>
  ((fX8_count σ4 o1 1).bind fun pv5 => gl pv5.1 fun v5 => gl pv5.2 fun σ6 =>
  ((fX8_count σ6 o1 9).bind fun pv7 => gl pv7.1 fun v7 => gl pv7.2 fun σ8 =>
  (if (v5 + v7) = (v1 * v3) then
    ((fX8_count σ8 o1 6).bind fun pv10 => gl pv10.1 fun v10 => gl pv10.2 fun σ11 =>
    ((fX8_count σ11 o1 5).bind fun pv12 => gl pv12.1 fun v12 => gl pv12.2 fun σ13 =>
    (if v12 < v10 then
      none
    else
      ((fX8_count σ13 o1 4).bind fun pv15 => gl pv15.1 fun v15 => gl pv15.2 fun σ16 =>
      ((fX8_count σ16 o1 1).bind fun pv17 => gl pv17.1 fun v17 => gl pv17.2 fun σ18 =>
      (if v17 < v15 then
        none
      else
        fL_holds_75 o1 gF σ18 v1 v3 0 0 0 0))))))
  else
    none)))))
set_option maxHeartbeats 4000000 in
set_option maxRecDepth 100000 in
theorem mL_holds (l : Launch) (X : gX) (σ σ' : gM) (o1 : Nat) (r : Int32) (ok1 : gok8 X o1) (h : fL_holds σ o1 = some (r, σ')) : Met l yL_holds (Cond.code yL_holds cL_holds 10 (some .boolean) :: gBig) ({ frames := 7, cells := 0, slots := 0, locals := 169 }) (gPc X σ [.ref (xN X + o1)]) (gQi X σ' r) 0 0 (xA X) := by
  refine g_meti (cc := cL_holds) (maxL := 10) (own := RL) (by decide) rfl rfl (Nat.le_of_ble_eq_true rfl) ?_
  intro p ev s m args below meth c Q C G ret ls hl
  obtain ⟨⟨hx, hb, hml, hown, hts⟩, hK⟩ := id C
  have hl : lv_has ls 10 [(0, .ref (xN X + o1))] := hl
  have L486 : ∀ (K347 : gM → Int32 → Int32 → Int32 → Int32 → Int32 → Option (Int32 × gM)), (∀ (H : Heap) (locs : List Loc) (ls : Array Slot) (σ : gM) (x3 : Int32) (x4 : Int32) (x5 : Int32) (x7 : Int32) (x8 : Int32), gG X σ s H locs → lv_has ls 10 [(0, .ref (xN X + o1)), (6, .int 1), (3, .int x3), (4, .int x4), (5, .int x5), (7, .int x7), (8, .int x8)] → K347 σ x3 x4 x5 x7 x8 = some (r, σ') → W p l ev ({ frames := 7, cells := 0, slots := 0, locals := 169 }) s m args below meth c H locs 0 0 Q (F0 m 347 ls [])) → ∀ (n : Nat) (H : Heap) (locs : List Loc) (ls : Array Slot) (σ : gM) (x3 : Int32) (x4 : Int32) (x5 : Int32) (x7 : Int32) (x8 : Int32), gG X σ s H locs → lv_has ls 10 [(0, .ref (xN X + o1)), (6, .int 1), (3, .int x3), (4, .int x4), (5, .int x5), (7, .int x7), (8, .int x8)] → fL_holds_486 K347 o1 n σ x3 x4 x5 x7 x8 = some (r, σ') → W p l ev ({ frames := 7, cells := 0, slots := 0, locals := 169 }) s m args below meth c H locs 0 0 Q (F0 m 486 ls []) := by
    intro K347 hK347 n
    induction n with
    | zero =>
      intro H locs ls σ x3 x4 x5 x7 x8 G hl h
      rw [fL_holds_486] at h
      cases h
    | succ n ih =>
      intro H locs ls σ x3 x4 x5 x7 x8 G hl h
      rw [fL_holds_486] at h
      obtain ⟨w52, e_w52⟩ : ∃ y : Int32, y = x8 + 1 := ⟨_, rfl⟩
      have h := g_let2 e_w52 h
      refine lv_iinc (v := w52) (lv' := [(8, .int w52), (0, .ref (xN X + o1)), (6, .int 1), (3, .int x3), (4, .int x4), (5, .int x5), (7, .int x7)]) hx hb dL_holds_486 hl (k := 6) rfl (by rw [e_w52]; rfl) (by decide) rfl (fun ls hl => ?_)
      refine lv_goto (tgt := 347) hx hb dL_holds_489 (by decide) ?_
      exact hK347 _ _ _ σ x3 x4 x5 x7 w52 G (lv_sub hl [1, 2, 3, 4, 5, 6, 0] rfl) h
  have L432 : ∀ (K347 : gM → Int32 → Int32 → Int32 → Int32 → Int32 → Option (Int32 × gM)), (∀ (H : Heap) (locs : List Loc) (ls : Array Slot) (σ : gM) (x3 : Int32) (x4 : Int32) (x5 : Int32) (x7 : Int32) (x8 : Int32), gG X σ s H locs → lv_has ls 10 [(0, .ref (xN X + o1)), (6, .int 1), (3, .int x3), (4, .int x4), (5, .int x5), (7, .int x7), (8, .int x8)] → K347 σ x3 x4 x5 x7 x8 = some (r, σ') → W p l ev ({ frames := 7, cells := 0, slots := 0, locals := 169 }) s m args below meth c H locs 0 0 Q (F0 m 347 ls [])) → ∀ (K365 : gM → Int32 → Int32 → Int32 → Int32 → Int32 → Int32 → Option (Int32 × gM)), (∀ (H : Heap) (locs : List Loc) (ls : Array Slot) (σ : gM) (x3 : Int32) (x4 : Int32) (x5 : Int32) (x7 : Int32) (x8 : Int32) (x9 : Int32), gG X σ s H locs → lv_has ls 10 [(0, .ref (xN X + o1)), (6, .int 1), (3, .int x3), (4, .int x4), (5, .int x5), (7, .int x7), (8, .int x8), (9, .int x9)] → K365 σ x3 x4 x5 x7 x8 x9 = some (r, σ') → W p l ev ({ frames := 7, cells := 0, slots := 0, locals := 169 }) s m args below meth c H locs 0 0 Q (F0 m 365 ls [])) → ∀ (n : Nat) (H : Heap) (locs : List Loc) (ls : Array Slot) (σ : gM) (x3 : Int32) (x4 : Int32) (x5 : Int32) (x7 : Int32) (x8 : Int32) (x9 : Int32), gG X σ s H locs → lv_has ls 10 [(0, .ref (xN X + o1)), (6, .int 1), (3, .int x3), (4, .int x4), (5, .int x5), (7, .int x7), (8, .int x8), (9, .int x9)] → fL_holds_432 K347 K365 o1 n σ x3 x4 x5 x7 x8 x9 = some (r, σ') → W p l ev ({ frames := 7, cells := 0, slots := 0, locals := 169 }) s m args below meth c H locs 0 0 Q (F0 m 432 ls []) := by
    intro K347 hK347 K365 hK365 n
    induction n with
    | zero =>
      intro H locs ls σ x3 x4 x5 x7 x8 x9 G hl h
      rw [fL_holds_432] at h
      cases h
    | succ n ih =>
      intro H locs ls σ x3 x4 x5 x7 x8 x9 G hl h
      rw [fL_holds_432] at h
      obtain ⟨w65, e_w65⟩ : ∃ y : Int32, y = x9 + 1 := ⟨_, rfl⟩
      have h := g_let2 e_w65 h
      refine lv_iinc (v := w65) (lv' := [(9, .int w65), (0, .ref (xN X + o1)), (6, .int 1), (3, .int x3), (4, .int x4), (5, .int x5), (7, .int x7), (8, .int x8)]) hx hb dL_holds_432 hl (k := 7) rfl (by rw [e_w65]; rfl) (by decide) rfl (fun ls hl => ?_)
      refine lv_goto (tgt := 365) hx hb dL_holds_435 (by decide) ?_
      exact hK365 _ _ _ σ x3 x4 x5 x7 x8 w65 G (lv_sub hl [1, 2, 3, 4, 5, 6, 7, 0] rfl) h
  have L365 : ∀ (K347 : gM → Int32 → Int32 → Int32 → Int32 → Int32 → Option (Int32 × gM)), (∀ (H : Heap) (locs : List Loc) (ls : Array Slot) (σ : gM) (x3 : Int32) (x4 : Int32) (x5 : Int32) (x7 : Int32) (x8 : Int32), gG X σ s H locs → lv_has ls 10 [(0, .ref (xN X + o1)), (6, .int 1), (3, .int x3), (4, .int x4), (5, .int x5), (7, .int x7), (8, .int x8)] → K347 σ x3 x4 x5 x7 x8 = some (r, σ') → W p l ev ({ frames := 7, cells := 0, slots := 0, locals := 169 }) s m args below meth c H locs 0 0 Q (F0 m 347 ls [])) → ∀ (n : Nat) (H : Heap) (locs : List Loc) (ls : Array Slot) (σ : gM) (x3 : Int32) (x4 : Int32) (x5 : Int32) (x7 : Int32) (x8 : Int32) (x9 : Int32), gG X σ s H locs → lv_has ls 10 [(0, .ref (xN X + o1)), (6, .int 1), (3, .int x3), (4, .int x4), (5, .int x5), (7, .int x7), (8, .int x8), (9, .int x9)] → fL_holds_365 K347 o1 n σ x3 x4 x5 x7 x8 x9 = some (r, σ') → W p l ev ({ frames := 7, cells := 0, slots := 0, locals := 169 }) s m args below meth c H locs 0 0 Q (F0 m 365 ls []) := by
    intro K347 hK347 n
    induction n with
    | zero =>
      intro H locs ls σ x3 x4 x5 x7 x8 x9 G hl h
      rw [fL_holds_365] at h
      cases h
    | succ n ih =>
      intro H locs ls σ x3 x4 x5 x7 x8 x9 G hl h
      rw [fL_holds_365] at h
      refine lv_aload_n hx hb dL_holds_365 rfl (lv_at hl 0 rfl) ?_
      refine lv_iload hx hb dL_holds_366 (lv_at hl 6 rfl) ?_
      refine lv_iload hx hb dL_holds_368 (lv_at hl 7 rfl) ?_
      obtain ⟨⟨v45, σ46⟩, e_v45, h⟩ := g_bind h
      have h := g_let2 (v := v45) rfl h
      have h := g_let2 (v := σ46) rfl h
      refine g_calli (g_runV (n := 2) (As := [.int x8, .int x9]) (rest := []) C G (mX8_member l X σ σ46 o1 x8 x9 v45 ok1 e_v45) ok1.1.2 (gE_8 ok1.1.1) rfl (g_goodV u_ml_RL_34 u_im_yX8_member u_se_yX8_member u_in_RX8 u_co_yX8_member) rfl rfl rfl (by decide +kernel) ⟨Nat.le_of_ble_eq_true rfl, Nat.le_of_ble_eq_true rfl⟩ rfl hl.1 rfl (Nat.le_of_ble_eq_true rfl) dL_holds_370 ⟨Nat.zero_le _, Nat.zero_le _⟩) G (fun H locs G => ?_)
      refine lv_if_lt (tgt := 438) hx hb dL_holds_373 (by decide) (fun c47 => ?_) (fun c47 => ?_)
      · have h := g_it h c47
        refine lv_iload hx hb dL_holds_438 (lv_at hl 5 rfl) ?_
        refine lv_iload hx hb dL_holds_440 (lv_at hl 7 rfl) ?_
        refine lv_iadd hx hb dL_holds_442 ?_
        refine lv_topi (fun w48 e_w48 => ?_)
        have h := g_let2 e_w48 h
        refine lv_istore (lv' := [(7, .int w48), (0, .ref (xN X + o1)), (6, .int 1), (3, .int x3), (4, .int x4), (5, .int x5), (8, .int x8), (9, .int x9)]) hx hb dL_holds_443 hl (by decide) rfl (fun ls hl => ?_)
        refine lv_iload hx hb dL_holds_445 (lv_at hl 2 rfl) ?_
        refine lv_if_eq (tgt := 483) hx hb dL_holds_447 (by decide) (fun c49 => absurd c49 (by decide)) (fun _ => ?_)
        refine lv_iload hx hb dL_holds_450 (lv_at hl 7 rfl) ?_
        refine lv_if_le (tgt := 483) hx hb dL_holds_452 (by decide) (fun c50 => ?_) (fun c50 => ?_)
        · have h := g_it h c50
          cases h
        · have h := g_if h c50
          refine lv_iload hx hb dL_holds_455 (lv_at hl 6 rfl) ?_
          refine lv_if_eq (tgt := 479) hx hb dL_holds_457 (by decide) (fun c51 => ?_) (fun c51 => ?_)
          · have h := g_it h c51
            refine lv_iconst (v := 1) hx hb dL_holds_479 (by decide) ?_
            refine lv_goto (tgt := 484) hx hb dL_holds_480 (by decide) ?_
            refine lv_istore (lv' := [(6, .int 1), (7, .int w48), (0, .ref (xN X + o1)), (3, .int x3), (4, .int x4), (5, .int x5), (8, .int x8), (9, .int x9)]) hx hb dL_holds_484 hl (by decide) rfl (fun ls hl => ?_)
            exact L486 K347 hK347 gF _ _ _ σ46 x3 x4 x5 w48 x8 G (lv_sub hl [2, 0, 3, 4, 5, 1, 6] rfl) h
          · have h := g_if h c51
            refine lv_aload_n hx hb dL_holds_460 rfl (lv_at hl 1 rfl) ?_
            refine lv_iload hx hb dL_holds_461 (lv_at hl 6 rfl) ?_
            refine lv_iconst (v := 0) hx hb dL_holds_463 (by decide) ?_
            obtain ⟨⟨v53, σ54⟩, e_v53, h⟩ := g_bind h
            have h := g_let2 (v := v53) rfl h
            have h := g_let2 (v := σ54) rfl h
            refine g_calli (g_runV (n := 2) (As := [.int x8, .int 0]) (rest := []) C G (mX8_member l X σ46 σ54 o1 x8 0 v53 ok1 e_v53) ok1.1.2 (gE_8 ok1.1.1) rfl (g_goodV u_ml_RL_34 u_im_yX8_member u_se_yX8_member u_in_RX8 u_co_yX8_member) rfl rfl rfl (by decide +kernel) ⟨Nat.le_of_ble_eq_true rfl, Nat.le_of_ble_eq_true rfl⟩ rfl hl.1 rfl (Nat.le_of_ble_eq_true rfl) dL_holds_464 ⟨Nat.zero_le _, Nat.zero_le _⟩) G (fun H locs G => ?_)
            refine lv_aload_n hx hb dL_holds_467 rfl (lv_at hl 1 rfl) ?_
            refine lv_iload hx hb dL_holds_468 (lv_at hl 6 rfl) ?_
            refine lv_iconst (v := 1) hx hb dL_holds_470 (by decide) ?_
            refine lv_isub hx hb dL_holds_471 ?_
            refine lv_iconst (v := 0) hx hb dL_holds_472 (by decide) ?_
            obtain ⟨⟨v55, σ56⟩, e_v55, h⟩ := g_bind h
            have h := g_let2 (v := v55) rfl h
            have h := g_let2 (v := σ56) rfl h
            refine g_calli (g_runV (n := 2) (As := [.int (x8 - 1), .int 0]) (rest := [.int v53]) C G (mX8_member l X σ54 σ56 o1 (x8 - 1) 0 v55 ok1 e_v55) ok1.1.2 (gE_8 ok1.1.1) rfl (g_goodV u_ml_RL_34 u_im_yX8_member u_se_yX8_member u_in_RX8 u_co_yX8_member) rfl rfl rfl (by decide +kernel) ⟨Nat.le_of_ble_eq_true rfl, Nat.le_of_ble_eq_true rfl⟩ rfl hl.1 rfl (Nat.le_of_ble_eq_true rfl) dL_holds_473 ⟨Nat.zero_le _, Nat.zero_le _⟩) G (fun H locs G => ?_)
            refine lv_icmp_le (tgt := 483) hx hb dL_holds_476 (by decide) (fun c57 => ?_) (fun c57 => ?_)
            · have h := g_it h c57
              cases h
            · have h := g_if h c57
              refine lv_iconst (v := 1) hx hb dL_holds_479 (by decide) ?_
              refine lv_goto (tgt := 484) hx hb dL_holds_480 (by decide) ?_
              refine lv_istore (lv' := [(6, .int 1), (7, .int w48), (0, .ref (xN X + o1)), (3, .int x3), (4, .int x4), (5, .int x5), (8, .int x8), (9, .int x9)]) hx hb dL_holds_484 hl (by decide) rfl (fun ls hl => ?_)
              exact L486 K347 hK347 gF _ _ _ σ56 x3 x4 x5 w48 x8 G (lv_sub hl [2, 0, 3, 4, 5, 1, 6] rfl) h
      · have h := g_if h c47
        refine lv_iload hx hb dL_holds_376 (lv_at hl 1 rfl) ?_
        refine lv_if_eq (tgt := 429) hx hb dL_holds_378 (by decide) (fun c58 => absurd c58 (by decide)) (fun _ => ?_)
        refine lv_aload_n hx hb dL_holds_381 rfl (lv_at hl 0 rfl) ?_
        refine lv_aload_n hx hb dL_holds_382 rfl (lv_at hl 0 rfl) ?_
        refine lv_iload hx hb dL_holds_383 (lv_at hl 6 rfl) ?_
        refine lv_iload hx hb dL_holds_385 (lv_at hl 7 rfl) ?_
        obtain ⟨⟨v59, σ60⟩, e_v59, h⟩ := g_bind h
        have h := g_let2 (v := v59) rfl h
        have h := g_let2 (v := σ60) rfl h
        refine g_calli (g_runV (n := 2) (As := [.int x8, .int x9]) (rest := [.ref (xN X + o1)]) C G (mX8_member l X σ46 σ60 o1 x8 x9 v59 ok1 e_v59) ok1.1.2 (gE_8 ok1.1.1) rfl (g_goodV u_ml_RL_34 u_im_yX8_member u_se_yX8_member u_in_RX8 u_co_yX8_member) rfl rfl rfl (by decide +kernel) ⟨Nat.le_of_ble_eq_true rfl, Nat.le_of_ble_eq_true rfl⟩ rfl hl.1 rfl (Nat.le_of_ble_eq_true rfl) dL_holds_387 ⟨Nat.zero_le _, Nat.zero_le _⟩) G (fun H locs G => ?_)
        refine lv_iconst (v := 3) hx hb dL_holds_390 (by decide) ?_
        obtain ⟨⟨v61, σ62⟩, e_v61, h⟩ := g_bind h
        have h := g_let2 (v := v61) rfl h
        have h := g_let2 (v := σ62) rfl h
        refine g_calli (g_runV (n := 2) (As := [.int v59, .int 3]) (rest := []) C G (mX8_scrap l X σ60 σ62 o1 v59 3 v61 ok1 e_v61) ok1.1.2 (gE_8 ok1.1.1) rfl (g_goodV u_ml_RL_21 u_im_yX8_scrap u_se_yX8_scrap u_in_RX8 u_co_yX8_scrap) rfl rfl rfl (by decide +kernel) ⟨Nat.le_of_ble_eq_true rfl, Nat.le_of_ble_eq_true rfl⟩ rfl hl.1 rfl (Nat.le_of_ble_eq_true rfl) dL_holds_391 ⟨Nat.zero_le _, Nat.zero_le _⟩) G (fun H locs G => ?_)
        refine lv_iload hx hb dL_holds_394 (lv_at hl 6 rfl) ?_
        refine lv_icmp_ne (tgt := 429) hx hb dL_holds_396 (by decide) (fun c63 => ?_) (fun c63 => ?_)
        · have h := g_if h c63
          cases h
        · have h := g_it h c63
          refine lv_iload hx hb dL_holds_399 (lv_at hl 7 rfl) ?_
          refine lv_if_eq (tgt := 425) hx hb dL_holds_401 (by decide) (fun c64 => ?_) (fun c64 => ?_)
          · have h := g_it h c64
            refine lv_iconst (v := 1) hx hb dL_holds_425 (by decide) ?_
            refine lv_goto (tgt := 430) hx hb dL_holds_426 (by decide) ?_
            refine lv_istore (lv' := [(6, .int 1), (0, .ref (xN X + o1)), (3, .int x3), (4, .int x4), (5, .int x5), (7, .int x7), (8, .int x8), (9, .int x9)]) hx hb dL_holds_430 hl (by decide) rfl (fun ls hl => ?_)
            exact L432 K347 hK347 (fun σ2 y3 y4 y5 y7 y8 y9 => fL_holds_365 K347 o1 n σ2 y3 y4 y5 y7 y8 y9) (fun H locs ls σ2 y3 y4 y5 y7 y8 y9 G hl h => ih H locs ls σ2 y3 y4 y5 y7 y8 y9 G hl h) gF _ _ _ σ62 x3 x4 x5 x7 x8 x9 G (lv_sub hl [1, 0, 2, 3, 4, 5, 6, 7] rfl) h
          · have h := g_if h c64
            refine lv_aload_n hx hb dL_holds_404 rfl (lv_at hl 0 rfl) ?_
            refine lv_iload hx hb dL_holds_405 (lv_at hl 6 rfl) ?_
            refine lv_iload hx hb dL_holds_407 (lv_at hl 7 rfl) ?_
            obtain ⟨⟨v66, σ67⟩, e_v66, h⟩ := g_bind h
            have h := g_let2 (v := v66) rfl h
            have h := g_let2 (v := σ67) rfl h
            refine g_calli (g_runV (n := 2) (As := [.int x8, .int x9]) (rest := []) C G (mX8_member l X σ62 σ67 o1 x8 x9 v66 ok1 e_v66) ok1.1.2 (gE_8 ok1.1.1) rfl (g_goodV u_ml_RL_34 u_im_yX8_member u_se_yX8_member u_in_RX8 u_co_yX8_member) rfl rfl rfl (by decide +kernel) ⟨Nat.le_of_ble_eq_true rfl, Nat.le_of_ble_eq_true rfl⟩ rfl hl.1 rfl (Nat.le_of_ble_eq_true rfl) dL_holds_409 ⟨Nat.zero_le _, Nat.zero_le _⟩) G (fun H locs G => ?_)
            refine lv_aload_n hx hb dL_holds_412 rfl (lv_at hl 0 rfl) ?_
            refine lv_iload hx hb dL_holds_413 (lv_at hl 6 rfl) ?_
            refine lv_iload hx hb dL_holds_415 (lv_at hl 7 rfl) ?_
            refine lv_iconst (v := 1) hx hb dL_holds_417 (by decide) ?_
            refine lv_isub hx hb dL_holds_418 ?_
            obtain ⟨⟨v68, σ69⟩, e_v68, h⟩ := g_bind h
            have h := g_let2 (v := v68) rfl h
            have h := g_let2 (v := σ69) rfl h
            refine g_calli (g_runV (n := 2) (As := [.int x8, .int (x9 - 1)]) (rest := [.int v66]) C G (mX8_member l X σ67 σ69 o1 x8 (x9 - 1) v68 ok1 e_v68) ok1.1.2 (gE_8 ok1.1.1) rfl (g_goodV u_ml_RL_34 u_im_yX8_member u_se_yX8_member u_in_RX8 u_co_yX8_member) rfl rfl rfl (by decide +kernel) ⟨Nat.le_of_ble_eq_true rfl, Nat.le_of_ble_eq_true rfl⟩ rfl hl.1 rfl (Nat.le_of_ble_eq_true rfl) dL_holds_419 ⟨Nat.zero_le _, Nat.zero_le _⟩) G (fun H locs G => ?_)
            refine lv_icmp_le (tgt := 429) hx hb dL_holds_422 (by decide) (fun c70 => ?_) (fun c70 => ?_)
            · have h := g_it h c70
              cases h
            · have h := g_if h c70
              refine lv_iconst (v := 1) hx hb dL_holds_425 (by decide) ?_
              refine lv_goto (tgt := 430) hx hb dL_holds_426 (by decide) ?_
              refine lv_istore (lv' := [(6, .int 1), (0, .ref (xN X + o1)), (3, .int x3), (4, .int x4), (5, .int x5), (7, .int x7), (8, .int x8), (9, .int x9)]) hx hb dL_holds_430 hl (by decide) rfl (fun ls hl => ?_)
              exact L432 K347 hK347 (fun σ2 y3 y4 y5 y7 y8 y9 => fL_holds_365 K347 o1 n σ2 y3 y4 y5 y7 y8 y9) (fun H locs ls σ2 y3 y4 y5 y7 y8 y9 G hl h => ih H locs ls σ2 y3 y4 y5 y7 y8 y9 G hl h) gF _ _ _ σ69 x3 x4 x5 x7 x8 x9 G (lv_sub hl [1, 0, 2, 3, 4, 5, 6, 7] rfl) h
  have L347 : ∀ (n : Nat) (H : Heap) (locs : List Loc) (ls : Array Slot) (σ : gM) (x3 : Int32) (x4 : Int32) (x5 : Int32) (x7 : Int32) (x8 : Int32), gG X σ s H locs → lv_has ls 10 [(0, .ref (xN X + o1)), (6, .int 1), (3, .int x3), (4, .int x4), (5, .int x5), (7, .int x7), (8, .int x8)] → fL_holds_347 o1 n σ x3 x4 x5 x7 x8 = some (r, σ') → W p l ev ({ frames := 7, cells := 0, slots := 0, locals := 169 }) s m args below meth c H locs 0 0 Q (F0 m 347 ls []) := by
    intro n
    induction n with
    | zero =>
      intro H locs ls σ x3 x4 x5 x7 x8 G hl h
      rw [fL_holds_347] at h
      cases h
    | succ n ih =>
      intro H locs ls σ x3 x4 x5 x7 x8 G hl h
      rw [fL_holds_347] at h
      refine lv_iload hx hb dL_holds_347 (lv_at hl 6 rfl) ?_
      refine lv_aload_n hx hb dL_holds_349 rfl (lv_at hl 0 rfl) ?_
      refine lv_iconst (v := 4) hx hb dL_holds_350 (by decide) ?_
      obtain ⟨⟨v24, σ25⟩, e_v24, h⟩ := g_bind h
      have h := g_let2 (v := v24) rfl h
      have h := g_let2 (v := σ25) rfl h
      refine g_calli (g_runV (n := 1) (As := [.int 4]) (rest := [.int x8]) C G (mX8_count l X σ σ25 o1 4 v24 ok1 e_v24) ok1.1.2 (gE_8 ok1.1.1) rfl (g_goodV u_ml_RL_25 u_im_yX8_count u_se_yX8_count u_in_RX8 u_co_yX8_count) rfl rfl rfl (by decide +kernel) ⟨Nat.le_of_ble_eq_true rfl, Nat.le_of_ble_eq_true rfl⟩ rfl hl.1 rfl (Nat.le_of_ble_eq_true rfl) dL_holds_351 ⟨Nat.zero_le _, Nat.zero_le _⟩) G (fun H locs G => ?_)
      refine lv_icmp_ge (tgt := 492) hx hb dL_holds_354 (by decide) (fun c26 => ?_) (fun c26 => ?_)
      · have h := g_it h c26
        refine lv_iload hx hb dL_holds_492 (lv_at hl 1 rfl) ?_
        refine lv_if_eq (tgt := 562) hx hb dL_holds_494 (by decide) (fun c27 => absurd c27 (by decide)) (fun _ => ?_)
        refine lv_iload_n hx hb dL_holds_497 rfl (lv_at hl 2 rfl) ?_
        refine lv_aload_n hx hb dL_holds_498 rfl (lv_at hl 0 rfl) ?_
        refine lv_iconst (v := 1) hx hb dL_holds_499 (by decide) ?_
        obtain ⟨⟨v28, σ29⟩, e_v28, h⟩ := g_bind h
        have h := g_let2 (v := v28) rfl h
        have h := g_let2 (v := σ29) rfl h
        refine g_calli (g_runV (n := 1) (As := [.int 1]) (rest := [.int x3]) C G (mX8_count l X σ25 σ29 o1 1 v28 ok1 e_v28) ok1.1.2 (gE_8 ok1.1.1) rfl (g_goodV u_ml_RL_25 u_im_yX8_count u_se_yX8_count u_in_RX8 u_co_yX8_count) rfl rfl rfl (by decide +kernel) ⟨Nat.le_of_ble_eq_true rfl, Nat.le_of_ble_eq_true rfl⟩ rfl hl.1 rfl (Nat.le_of_ble_eq_true rfl) dL_holds_500 ⟨Nat.zero_le _, Nat.zero_le _⟩) G (fun H locs G => ?_)
        refine lv_icmp_ne (tgt := 562) hx hb dL_holds_503 (by decide) (fun c30 => ?_) (fun c30 => ?_)
        · have h := g_if h c30
          cases h
        · have h := g_it h c30
          refine lv_iload hx hb dL_holds_506 (lv_at hl 5 rfl) ?_
          refine lv_iload_n hx hb dL_holds_508 rfl (lv_at hl 2 rfl) ?_
          refine lv_icmp_ne (tgt := 562) hx hb dL_holds_509 (by decide) (fun c31 => ?_) (fun c31 => ?_)
          · have h := g_if h c31
            cases h
          · have h := g_it h c31
            refine lv_iload hx hb dL_holds_512 (lv_at hl 3 rfl) ?_
            refine lv_iconst (v := 2) hx hb dL_holds_514 (by decide) ?_
            refine lv_aload_n hx hb dL_holds_515 rfl (lv_at hl 0 rfl) ?_
            refine lv_bipush (v := 6) hx hb dL_holds_516 (by decide) ?_
            obtain ⟨⟨v32, σ33⟩, e_v32, h⟩ := g_bind h
            have h := g_let2 (v := v32) rfl h
            have h := g_let2 (v := σ33) rfl h
            refine g_calli (g_runV (n := 1) (As := [.int 6]) (rest := [.int 2, .int x4]) C G (mX8_count l X σ29 σ33 o1 6 v32 ok1 e_v32) ok1.1.2 (gE_8 ok1.1.1) rfl (g_goodV u_ml_RL_25 u_im_yX8_count u_se_yX8_count u_in_RX8 u_co_yX8_count) rfl rfl rfl (by decide +kernel) ⟨Nat.le_of_ble_eq_true rfl, Nat.le_of_ble_eq_true rfl⟩ rfl hl.1 rfl (Nat.le_of_ble_eq_true rfl) dL_holds_518 ⟨Nat.zero_le _, Nat.zero_le _⟩) G (fun H locs G => ?_)
            refine lv_imul hx hb dL_holds_521 ?_
            refine lv_aload_n hx hb dL_holds_522 rfl (lv_at hl 0 rfl) ?_
            refine lv_bipush (v := 7) hx hb dL_holds_523 (by decide) ?_
            obtain ⟨⟨v34, σ35⟩, e_v34, h⟩ := g_bind h
            have h := g_let2 (v := v34) rfl h
            have h := g_let2 (v := σ35) rfl h
            refine g_calli (g_runV (n := 1) (As := [.int 7]) (rest := [.int (2 * v32), .int x4]) C G (mX8_count l X σ33 σ35 o1 7 v34 ok1 e_v34) ok1.1.2 (gE_8 ok1.1.1) rfl (g_goodV u_ml_RL_25 u_im_yX8_count u_se_yX8_count u_in_RX8 u_co_yX8_count) rfl rfl rfl (by decide +kernel) ⟨Nat.le_of_ble_eq_true rfl, Nat.le_of_ble_eq_true rfl⟩ rfl hl.1 rfl (Nat.le_of_ble_eq_true rfl) dL_holds_525 ⟨Nat.zero_le _, Nat.zero_le _⟩) G (fun H locs G => ?_)
            refine lv_iadd hx hb dL_holds_528 ?_
            refine lv_icmp_ne (tgt := 562) hx hb dL_holds_529 (by decide) (fun c36 => ?_) (fun c36 => ?_)
            · have h := g_if h c36
              cases h
            · have h := g_it h c36
              refine lv_iload hx hb dL_holds_532 (lv_at hl 4 rfl) ?_
              refine lv_iconst (v := 2) hx hb dL_holds_534 (by decide) ?_
              refine lv_aload_n hx hb dL_holds_535 rfl (lv_at hl 0 rfl) ?_
              refine lv_iconst (v := 5) hx hb dL_holds_536 (by decide) ?_
              obtain ⟨⟨v37, σ38⟩, e_v37, h⟩ := g_bind h
              have h := g_let2 (v := v37) rfl h
              have h := g_let2 (v := σ38) rfl h
              refine g_calli (g_runV (n := 1) (As := [.int 5]) (rest := [.int 2, .int x5]) C G (mX8_count l X σ35 σ38 o1 5 v37 ok1 e_v37) ok1.1.2 (gE_8 ok1.1.1) rfl (g_goodV u_ml_RL_25 u_im_yX8_count u_se_yX8_count u_in_RX8 u_co_yX8_count) rfl rfl rfl (by decide +kernel) ⟨Nat.le_of_ble_eq_true rfl, Nat.le_of_ble_eq_true rfl⟩ rfl hl.1 rfl (Nat.le_of_ble_eq_true rfl) dL_holds_537 ⟨Nat.zero_le _, Nat.zero_le _⟩) G (fun H locs G => ?_)
              refine lv_aload_n hx hb dL_holds_540 rfl (lv_at hl 0 rfl) ?_
              refine lv_bipush (v := 6) hx hb dL_holds_541 (by decide) ?_
              obtain ⟨⟨v39, σ40⟩, e_v39, h⟩ := g_bind h
              have h := g_let2 (v := v39) rfl h
              have h := g_let2 (v := σ40) rfl h
              refine g_calli (g_runV (n := 1) (As := [.int 6]) (rest := [.int v37, .int 2, .int x5]) C G (mX8_count l X σ38 σ40 o1 6 v39 ok1 e_v39) ok1.1.2 (gE_8 ok1.1.1) rfl (g_goodV u_ml_RL_25 u_im_yX8_count u_se_yX8_count u_in_RX8 u_co_yX8_count) rfl rfl rfl (by decide +kernel) ⟨Nat.le_of_ble_eq_true rfl, Nat.le_of_ble_eq_true rfl⟩ rfl hl.1 rfl (Nat.le_of_ble_eq_true rfl) dL_holds_543 ⟨Nat.zero_le _, Nat.zero_le _⟩) G (fun H locs G => ?_)
              refine lv_isub hx hb dL_holds_546 ?_
              refine lv_imul hx hb dL_holds_547 ?_
              refine lv_aload_n hx hb dL_holds_548 rfl (lv_at hl 0 rfl) ?_
              refine lv_bipush (v := 8) hx hb dL_holds_549 (by decide) ?_
              obtain ⟨⟨v41, σ42⟩, e_v41, h⟩ := g_bind h
              have h := g_let2 (v := v41) rfl h
              have h := g_let2 (v := σ42) rfl h
              refine g_calli (g_runV (n := 1) (As := [.int 8]) (rest := [.int (2 * (v37 - v39)), .int x5]) C G (mX8_count l X σ40 σ42 o1 8 v41 ok1 e_v41) ok1.1.2 (gE_8 ok1.1.1) rfl (g_goodV u_ml_RL_25 u_im_yX8_count u_se_yX8_count u_in_RX8 u_co_yX8_count) rfl rfl rfl (by decide +kernel) ⟨Nat.le_of_ble_eq_true rfl, Nat.le_of_ble_eq_true rfl⟩ rfl hl.1 rfl (Nat.le_of_ble_eq_true rfl) dL_holds_551 ⟨Nat.zero_le _, Nat.zero_le _⟩) G (fun H locs G => ?_)
              refine lv_iadd hx hb dL_holds_554 ?_
              refine lv_icmp_ne (tgt := 562) hx hb dL_holds_555 (by decide) (fun c43 => ?_) (fun c43 => ?_)
              · have h := g_if h c43
                cases h
              · have h := g_it h c43
                refine lv_iconst (v := 1) hx hb dL_holds_558 (by decide) ?_
                refine lv_goto (tgt := 563) hx hb dL_holds_559 (by decide) ?_
                exact ret dL_holds_563 rfl G (Prod.mk.inj (Option.some.inj h))
      · have h := g_if h c26
        refine lv_iload hx hb dL_holds_357 (lv_at hl 1 rfl) ?_
        refine lv_if_eq (tgt := 492) hx hb dL_holds_359 (by decide) (fun c44 => absurd c44 (by decide)) (fun _ => ?_)
        refine lv_iconst (v := 0) hx hb dL_holds_362 (by decide) ?_
        refine lv_istore (lv' := [(9, .int 0), (0, .ref (xN X + o1)), (6, .int 1), (3, .int x3), (4, .int x4), (5, .int x5), (7, .int x7), (8, .int x8)]) hx hb dL_holds_363 hl (by decide) rfl (fun ls hl => ?_)
        exact L365 (fun σ2 y3 y4 y5 y7 y8 => fL_holds_347 o1 n σ2 y3 y4 y5 y7 y8) (fun H locs ls σ2 y3 y4 y5 y7 y8 G hl h => ih H locs ls σ2 y3 y4 y5 y7 y8 G hl h) gF _ _ _ σ25 x3 x4 x5 x7 x8 0 G (lv_sub hl [1, 2, 3, 4, 5, 6, 7, 0] rfl) h
  have L338 : ∀ (K271 : gM → Int32 → Int32 → Int32 → Int32 → Int32 → Option (Int32 × gM)), (∀ (H : Heap) (locs : List Loc) (ls : Array Slot) (σ : gM) (x3 : Int32) (x4 : Int32) (x5 : Int32) (x7 : Int32) (x8 : Int32), gG X σ s H locs → lv_has ls 10 [(0, .ref (xN X + o1)), (6, .int 1), (3, .int x3), (4, .int x4), (5, .int x5), (7, .int x7), (8, .int x8)] → K271 σ x3 x4 x5 x7 x8 = some (r, σ') → W p l ev ({ frames := 7, cells := 0, slots := 0, locals := 169 }) s m args below meth c H locs 0 0 Q (F0 m 271 ls [])) → ∀ (n : Nat) (H : Heap) (locs : List Loc) (ls : Array Slot) (σ : gM) (x3 : Int32) (x4 : Int32) (x5 : Int32) (x7 : Int32) (x8 : Int32), gG X σ s H locs → lv_has ls 10 [(0, .ref (xN X + o1)), (6, .int 1), (3, .int x3), (4, .int x4), (5, .int x5), (7, .int x7), (8, .int x8)] → fL_holds_338 K271 o1 n σ x3 x4 x5 x7 x8 = some (r, σ') → W p l ev ({ frames := 7, cells := 0, slots := 0, locals := 169 }) s m args below meth c H locs 0 0 Q (F0 m 338 ls []) := by
    intro K271 hK271 n
    induction n with
    | zero =>
      intro H locs ls σ x3 x4 x5 x7 x8 G hl h
      rw [fL_holds_338] at h
      cases h
    | succ n ih =>
      intro H locs ls σ x3 x4 x5 x7 x8 G hl h
      rw [fL_holds_338] at h
      obtain ⟨w84, e_w84⟩ : ∃ y : Int32, y = x8 + 1 := ⟨_, rfl⟩
      have h := g_let2 e_w84 h
      refine lv_iinc (v := w84) (lv' := [(8, .int w84), (0, .ref (xN X + o1)), (6, .int 1), (3, .int x3), (4, .int x4), (5, .int x5), (7, .int x7)]) hx hb dL_holds_338 hl (k := 6) rfl (by rw [e_w84]; rfl) (by decide) rfl (fun ls hl => ?_)
      refine lv_goto (tgt := 271) hx hb dL_holds_341 (by decide) ?_
      exact hK271 _ _ _ σ x3 x4 x5 x7 w84 G (lv_sub hl [1, 2, 3, 4, 5, 6, 0] rfl) h
  have L312 : ∀ (K271 : gM → Int32 → Int32 → Int32 → Int32 → Int32 → Option (Int32 × gM)), (∀ (H : Heap) (locs : List Loc) (ls : Array Slot) (σ : gM) (x3 : Int32) (x4 : Int32) (x5 : Int32) (x7 : Int32) (x8 : Int32), gG X σ s H locs → lv_has ls 10 [(0, .ref (xN X + o1)), (6, .int 1), (3, .int x3), (4, .int x4), (5, .int x5), (7, .int x7), (8, .int x8)] → K271 σ x3 x4 x5 x7 x8 = some (r, σ') → W p l ev ({ frames := 7, cells := 0, slots := 0, locals := 169 }) s m args below meth c H locs 0 0 Q (F0 m 271 ls [])) → ∀ (n : Nat) (H : Heap) (locs : List Loc) (ls : Array Slot) (σ : gM) (x3 : Int32) (x4 : Int32) (x5 : Int32) (x7 : Int32) (x8 : Int32), gG X σ s H locs → lv_has ls 10 [(0, .ref (xN X + o1)), (6, .int 1), (3, .int x3), (4, .int x4), (5, .int x5), (7, .int x7), (8, .int x8)] → fL_holds_312 K271 o1 n σ x3 x4 x5 x7 x8 = some (r, σ') → W p l ev ({ frames := 7, cells := 0, slots := 0, locals := 169 }) s m args below meth c H locs 0 0 Q (F0 m 312 ls []) := by
    intro K271 hK271 n
    induction n with
    | zero =>
      intro H locs ls σ x3 x4 x5 x7 x8 G hl h
      rw [fL_holds_312] at h
      cases h
    | succ n ih =>
      intro H locs ls σ x3 x4 x5 x7 x8 G hl h
      rw [fL_holds_312] at h
      refine lv_iload hx hb dL_holds_312 (lv_at hl 4 rfl) ?_
      refine lv_aload_n hx hb dL_holds_314 rfl (lv_at hl 0 rfl) ?_
      refine lv_iload hx hb dL_holds_315 (lv_at hl 6 rfl) ?_
      refine lv_iconst (v := 2) hx hb dL_holds_317 (by decide) ?_
      obtain ⟨⟨v78, σ79⟩, e_v78, h⟩ := g_bind h
      have h := g_let2 (v := v78) rfl h
      have h := g_let2 (v := σ79) rfl h
      refine g_calli (g_runV (n := 2) (As := [.int x8, .int 2]) (rest := [.int x5]) C G (mX8_scrap l X σ σ79 o1 x8 2 v78 ok1 e_v78) ok1.1.2 (gE_8 ok1.1.1) rfl (g_goodV u_ml_RL_21 u_im_yX8_scrap u_se_yX8_scrap u_in_RX8 u_co_yX8_scrap) rfl rfl rfl (by decide +kernel) ⟨Nat.le_of_ble_eq_true rfl, Nat.le_of_ble_eq_true rfl⟩ rfl hl.1 rfl (Nat.le_of_ble_eq_true rfl) dL_holds_318 ⟨Nat.zero_le _, Nat.zero_le _⟩) G (fun H locs G => ?_)
      refine lv_if_ge (tgt := 328) hx hb dL_holds_321 (by decide) (fun c80 => ?_) (fun c80 => ?_)
      · have h := g_it h c80
        refine lv_aload_n hx hb dL_holds_328 rfl (lv_at hl 0 rfl) ?_
        refine lv_iload hx hb dL_holds_329 (lv_at hl 6 rfl) ?_
        refine lv_iconst (v := 5) hx hb dL_holds_331 (by decide) ?_
        obtain ⟨⟨v81, σ82⟩, e_v81, h⟩ := g_bind h
        have h := g_let2 (v := v81) rfl h
        have h := g_let2 (v := σ82) rfl h
        refine g_calli (g_runV (n := 2) (As := [.int x8, .int 5]) (rest := [.int x5]) C G (mX8_scrap l X σ79 σ82 o1 x8 5 v81 ok1 e_v81) ok1.1.2 (gE_8 ok1.1.1) rfl (g_goodV u_ml_RL_21 u_im_yX8_scrap u_se_yX8_scrap u_in_RX8 u_co_yX8_scrap) rfl rfl rfl (by decide +kernel) ⟨Nat.le_of_ble_eq_true rfl, Nat.le_of_ble_eq_true rfl⟩ rfl hl.1 rfl (Nat.le_of_ble_eq_true rfl) dL_holds_332 ⟨Nat.zero_le _, Nat.zero_le _⟩) G (fun H locs G => ?_)
        refine lv_iadd hx hb dL_holds_335 ?_
        refine lv_topi (fun w83 e_w83 => ?_)
        have h := g_let2 e_w83 h
        refine lv_istore (lv' := [(5, .int w83), (0, .ref (xN X + o1)), (6, .int 1), (3, .int x3), (4, .int x4), (7, .int x7), (8, .int x8)]) hx hb dL_holds_336 hl (by decide) rfl (fun ls hl => ?_)
        exact L338 K271 hK271 gF _ _ _ σ82 x3 x4 w83 x7 x8 G (lv_sub hl [1, 2, 3, 4, 0, 5, 6] rfl) h
      · have h := g_if h c80
        refine lv_iconst (v := 0) hx hb dL_holds_324 (by decide) ?_
        refine lv_goto (tgt := 335) hx hb dL_holds_325 (by decide) ?_
        refine lv_iadd hx hb dL_holds_335 ?_
        refine lv_topi (fun w85 e_w85 => ?_)
        have h := g_let2 e_w85 h
        refine lv_istore (lv' := [(5, .int w85), (0, .ref (xN X + o1)), (6, .int 1), (3, .int x3), (4, .int x4), (7, .int x7), (8, .int x8)]) hx hb dL_holds_336 hl (by decide) rfl (fun ls hl => ?_)
        exact L338 K271 hK271 gF _ _ _ σ79 x3 x4 w85 x7 x8 G (lv_sub hl [1, 2, 3, 4, 0, 5, 6] rfl) h
  have L271 : ∀ (n : Nat) (H : Heap) (locs : List Loc) (ls : Array Slot) (σ : gM) (x3 : Int32) (x4 : Int32) (x5 : Int32) (x7 : Int32) (x8 : Int32), gG X σ s H locs → lv_has ls 10 [(0, .ref (xN X + o1)), (6, .int 1), (3, .int x3), (4, .int x4), (5, .int x5), (7, .int x7), (8, .int x8)] → fL_holds_271 o1 n σ x3 x4 x5 x7 x8 = some (r, σ') → W p l ev ({ frames := 7, cells := 0, slots := 0, locals := 169 }) s m args below meth c H locs 0 0 Q (F0 m 271 ls []) := by
    intro n
    induction n with
    | zero =>
      intro H locs ls σ x3 x4 x5 x7 x8 G hl h
      rw [fL_holds_271] at h
      cases h
    | succ n ih =>
      intro H locs ls σ x3 x4 x5 x7 x8 G hl h
      rw [fL_holds_271] at h
      refine lv_iload hx hb dL_holds_271 (lv_at hl 6 rfl) ?_
      refine lv_aload_n hx hb dL_holds_273 rfl (lv_at hl 0 rfl) ?_
      refine lv_iconst (v := 0) hx hb dL_holds_274 (by decide) ?_
      obtain ⟨⟨v21, σ22⟩, e_v21, h⟩ := g_bind h
      have h := g_let2 (v := v21) rfl h
      have h := g_let2 (v := σ22) rfl h
      refine g_calli (g_runV (n := 1) (As := [.int 0]) (rest := [.int x8]) C G (mX8_count l X σ σ22 o1 0 v21 ok1 e_v21) ok1.1.2 (gE_8 ok1.1.1) rfl (g_goodV u_ml_RL_25 u_im_yX8_count u_se_yX8_count u_in_RX8 u_co_yX8_count) rfl rfl rfl (by decide +kernel) ⟨Nat.le_of_ble_eq_true rfl, Nat.le_of_ble_eq_true rfl⟩ rfl hl.1 rfl (Nat.le_of_ble_eq_true rfl) dL_holds_275 ⟨Nat.zero_le _, Nat.zero_le _⟩) G (fun H locs G => ?_)
      refine lv_icmp_ge (tgt := 344) hx hb dL_holds_278 (by decide) (fun c23 => ?_) (fun c23 => ?_)
      · have h := g_it h c23
        refine lv_iconst (v := 0) hx hb dL_holds_344 (by decide) ?_
        refine lv_istore (lv' := [(8, .int 0), (0, .ref (xN X + o1)), (6, .int 1), (3, .int x3), (4, .int x4), (5, .int x5), (7, .int x7)]) hx hb dL_holds_345 hl (by decide) rfl (fun ls hl => ?_)
        exact L347  gF _ _ _ σ22 x3 x4 x5 x7 0 G (lv_sub hl [1, 2, 3, 4, 5, 6, 0] rfl) h
      · have h := g_if h c23
        refine lv_iload hx hb dL_holds_281 (lv_at hl 1 rfl) ?_
        refine lv_if_eq (tgt := 344) hx hb dL_holds_283 (by decide) (fun c71 => absurd c71 (by decide)) (fun _ => ?_)
        refine lv_iload hx hb dL_holds_286 (lv_at hl 3 rfl) ?_
        refine lv_aload_n hx hb dL_holds_288 rfl (lv_at hl 0 rfl) ?_
        refine lv_iload hx hb dL_holds_289 (lv_at hl 6 rfl) ?_
        refine lv_iconst (v := 2) hx hb dL_holds_291 (by decide) ?_
        obtain ⟨⟨v72, σ73⟩, e_v72, h⟩ := g_bind h
        have h := g_let2 (v := v72) rfl h
        have h := g_let2 (v := σ73) rfl h
        refine g_calli (g_runV (n := 2) (As := [.int x8, .int 2]) (rest := [.int x4]) C G (mX8_scrap l X σ22 σ73 o1 x8 2 v72 ok1 e_v72) ok1.1.2 (gE_8 ok1.1.1) rfl (g_goodV u_ml_RL_21 u_im_yX8_scrap u_se_yX8_scrap u_in_RX8 u_co_yX8_scrap) rfl rfl rfl (by decide +kernel) ⟨Nat.le_of_ble_eq_true rfl, Nat.le_of_ble_eq_true rfl⟩ rfl hl.1 rfl (Nat.le_of_ble_eq_true rfl) dL_holds_292 ⟨Nat.zero_le _, Nat.zero_le _⟩) G (fun H locs G => ?_)
        refine lv_if_ge (tgt := 302) hx hb dL_holds_295 (by decide) (fun c74 => ?_) (fun c74 => ?_)
        · have h := g_it h c74
          refine lv_aload_n hx hb dL_holds_302 rfl (lv_at hl 0 rfl) ?_
          refine lv_iload hx hb dL_holds_303 (lv_at hl 6 rfl) ?_
          refine lv_iconst (v := 4) hx hb dL_holds_305 (by decide) ?_
          obtain ⟨⟨v75, σ76⟩, e_v75, h⟩ := g_bind h
          have h := g_let2 (v := v75) rfl h
          have h := g_let2 (v := σ76) rfl h
          refine g_calli (g_runV (n := 2) (As := [.int x8, .int 4]) (rest := [.int x4]) C G (mX8_scrap l X σ73 σ76 o1 x8 4 v75 ok1 e_v75) ok1.1.2 (gE_8 ok1.1.1) rfl (g_goodV u_ml_RL_21 u_im_yX8_scrap u_se_yX8_scrap u_in_RX8 u_co_yX8_scrap) rfl rfl rfl (by decide +kernel) ⟨Nat.le_of_ble_eq_true rfl, Nat.le_of_ble_eq_true rfl⟩ rfl hl.1 rfl (Nat.le_of_ble_eq_true rfl) dL_holds_306 ⟨Nat.zero_le _, Nat.zero_le _⟩) G (fun H locs G => ?_)
          refine lv_iadd hx hb dL_holds_309 ?_
          refine lv_topi (fun w77 e_w77 => ?_)
          have h := g_let2 e_w77 h
          refine lv_istore (lv' := [(4, .int w77), (0, .ref (xN X + o1)), (6, .int 1), (3, .int x3), (5, .int x5), (7, .int x7), (8, .int x8)]) hx hb dL_holds_310 hl (by decide) rfl (fun ls hl => ?_)
          exact L312 (fun σ2 y3 y4 y5 y7 y8 => fL_holds_271 o1 n σ2 y3 y4 y5 y7 y8) (fun H locs ls σ2 y3 y4 y5 y7 y8 G hl h => ih H locs ls σ2 y3 y4 y5 y7 y8 G hl h) gF _ _ _ σ76 x3 w77 x5 x7 x8 G (lv_sub hl [1, 2, 3, 0, 4, 5, 6] rfl) h
        · have h := g_if h c74
          refine lv_iconst (v := 0) hx hb dL_holds_298 (by decide) ?_
          refine lv_goto (tgt := 309) hx hb dL_holds_299 (by decide) ?_
          refine lv_iadd hx hb dL_holds_309 ?_
          refine lv_topi (fun w86 e_w86 => ?_)
          have h := g_let2 e_w86 h
          refine lv_istore (lv' := [(4, .int w86), (0, .ref (xN X + o1)), (6, .int 1), (3, .int x3), (5, .int x5), (7, .int x7), (8, .int x8)]) hx hb dL_holds_310 hl (by decide) rfl (fun ls hl => ?_)
          exact L312 (fun σ2 y3 y4 y5 y7 y8 => fL_holds_271 o1 n σ2 y3 y4 y5 y7 y8) (fun H locs ls σ2 y3 y4 y5 y7 y8 G hl h => ih H locs ls σ2 y3 y4 y5 y7 y8 G hl h) gF _ _ _ σ73 x3 w86 x5 x7 x8 G (lv_sub hl [1, 2, 3, 0, 4, 5, 6] rfl) h
  have L259 : ∀ (K75 : gM → Int32 → Int32 → Int32 → Int32 → Int32 → Int32 → Option (Int32 × gM)), (∀ (H : Heap) (locs : List Loc) (ls : Array Slot) (σ : gM) (x1 : Int32) (x2 : Int32) (x3 : Int32) (x4 : Int32) (x5 : Int32) (x7 : Int32), gG X σ s H locs → lv_has ls 10 [(0, .ref (xN X + o1)), (6, .int 1), (1, .int x1), (2, .int x2), (3, .int x3), (4, .int x4), (5, .int x5), (7, .int x7)] → K75 σ x1 x2 x3 x4 x5 x7 = some (r, σ') → W p l ev ({ frames := 7, cells := 0, slots := 0, locals := 169 }) s m args below meth c H locs 0 0 Q (F0 m 75 ls [])) → ∀ (n : Nat) (H : Heap) (locs : List Loc) (ls : Array Slot) (σ : gM) (x1 : Int32) (x2 : Int32) (x3 : Int32) (x4 : Int32) (x5 : Int32) (x7 : Int32), gG X σ s H locs → lv_has ls 10 [(0, .ref (xN X + o1)), (6, .int 1), (1, .int x1), (2, .int x2), (3, .int x3), (4, .int x4), (5, .int x5), (7, .int x7)] → fL_holds_259 K75 o1 n σ x1 x2 x3 x4 x5 x7 = some (r, σ') → W p l ev ({ frames := 7, cells := 0, slots := 0, locals := 169 }) s m args below meth c H locs 0 0 Q (F0 m 259 ls []) := by
    intro K75 hK75 n
    induction n with
    | zero =>
      intro H locs ls σ x1 x2 x3 x4 x5 x7 G hl h
      rw [fL_holds_259] at h
      cases h
    | succ n ih =>
      intro H locs ls σ x1 x2 x3 x4 x5 x7 G hl h
      rw [fL_holds_259] at h
      obtain ⟨w96, e_w96⟩ : ∃ y : Int32, y = x7 + 1 := ⟨_, rfl⟩
      have h := g_let2 e_w96 h
      refine lv_iinc (v := w96) (lv' := [(7, .int w96), (0, .ref (xN X + o1)), (6, .int 1), (1, .int x1), (2, .int x2), (3, .int x3), (4, .int x4), (5, .int x5)]) hx hb dL_holds_259 hl (k := 7) rfl (by rw [e_w96]; rfl) (by decide) rfl (fun ls hl => ?_)
      refine lv_goto (tgt := 75) hx hb dL_holds_262 (by decide) ?_
      exact hK75 _ _ _ σ x1 x2 x3 x4 x5 w96 G (lv_sub hl [1, 2, 3, 4, 5, 6, 7, 0] rfl) h
  have L196 : ∀ (K75 : gM → Int32 → Int32 → Int32 → Int32 → Int32 → Int32 → Option (Int32 × gM)), (∀ (H : Heap) (locs : List Loc) (ls : Array Slot) (σ : gM) (x1 : Int32) (x2 : Int32) (x3 : Int32) (x4 : Int32) (x5 : Int32) (x7 : Int32), gG X σ s H locs → lv_has ls 10 [(0, .ref (xN X + o1)), (6, .int 1), (1, .int x1), (2, .int x2), (3, .int x3), (4, .int x4), (5, .int x5), (7, .int x7)] → K75 σ x1 x2 x3 x4 x5 x7 = some (r, σ') → W p l ev ({ frames := 7, cells := 0, slots := 0, locals := 169 }) s m args below meth c H locs 0 0 Q (F0 m 75 ls [])) → ∀ (n : Nat) (H : Heap) (locs : List Loc) (ls : Array Slot) (σ : gM) (x1 : Int32) (x2 : Int32) (x3 : Int32) (x4 : Int32) (x5 : Int32) (x7 : Int32) (x8 : Int32), gG X σ s H locs → lv_has ls 10 [(0, .ref (xN X + o1)), (6, .int 1), (1, .int x1), (2, .int x2), (3, .int x3), (4, .int x4), (5, .int x5), (7, .int x7), (8, .int x8)] → fL_holds_196 K75 o1 n σ x1 x2 x3 x4 x5 x7 x8 = some (r, σ') → W p l ev ({ frames := 7, cells := 0, slots := 0, locals := 169 }) s m args below meth c H locs 0 0 Q (F0 m 196 ls []) := by
    intro K75 hK75 n
    induction n with
    | zero =>
      intro H locs ls σ x1 x2 x3 x4 x5 x7 x8 G hl h
      rw [fL_holds_196] at h
      cases h
    | succ n ih =>
      intro H locs ls σ x1 x2 x3 x4 x5 x7 x8 G hl h
      rw [fL_holds_196] at h
      refine lv_iload hx hb dL_holds_196 (lv_at hl 8 rfl) ?_
      refine lv_if_lt (tgt := 259) hx hb dL_holds_198 (by decide) (fun c95 => ?_) (fun c95 => ?_)
      · have h := g_it h c95
        exact L259 K75 hK75 gF _ _ _ σ x1 x2 x3 x4 x5 x7 G (lv_sub hl [0, 1, 2, 3, 4, 5, 6, 7] rfl) h
      · have h := g_if h c95
        refine lv_iload hx hb dL_holds_201 (lv_at hl 7 rfl) ?_
        refine lv_iload_n hx hb dL_holds_203 rfl (lv_at hl 2 rfl) ?_
        refine lv_iadd hx hb dL_holds_204 ?_
        refine lv_iload_n hx hb dL_holds_205 rfl (lv_at hl 2 rfl) ?_
        refine lv_iload_n hx hb dL_holds_206 rfl (lv_at hl 3 rfl) ?_
        refine lv_imul hx hb dL_holds_207 ?_
        refine lv_icmp_ge (tgt := 259) hx hb dL_holds_208 (by decide) (fun c97 => ?_) (fun c97 => ?_)
        · have h := g_it h c97
          exact L259 K75 hK75 gF _ _ _ σ x1 x2 x3 x4 x5 x7 G (lv_sub hl [0, 1, 2, 3, 4, 5, 6, 7] rfl) h
        · have h := g_if h c97
          refine lv_iload hx hb dL_holds_211 (lv_at hl 1 rfl) ?_
          refine lv_if_eq (tgt := 256) hx hb dL_holds_213 (by decide) (fun c98 => absurd c98 (by decide)) (fun _ => ?_)
          refine lv_aload_n hx hb dL_holds_216 rfl (lv_at hl 0 rfl) ?_
          refine lv_iload hx hb dL_holds_217 (lv_at hl 7 rfl) ?_
          refine lv_iconst (v := 2) hx hb dL_holds_219 (by decide) ?_
          obtain ⟨v99, e_v99, h⟩ := g_bind h
          refine g_calli (g_runV (n := 2) (As := [.int x7, .int 2]) (rest := []) C G (mX8_reason l X σ o1 x7 2 v99 ok1 e_v99) ok1.1.2 (gE_8 ok1.1.1) rfl (g_goodV u_ml_RL_31 u_im_yX8_reason u_se_yX8_reason u_in_RX8 u_co_yX8_reason) rfl rfl rfl (by decide +kernel) ⟨Nat.le_of_ble_eq_true rfl, Nat.le_of_ble_eq_true rfl⟩ rfl hl.1 rfl (Nat.le_of_ble_eq_true rfl) dL_holds_220 ⟨Nat.zero_le _, Nat.zero_le _⟩) G (fun H locs G => ?_)
          refine lv_aload_n hx hb dL_holds_223 rfl (lv_at hl 0 rfl) ?_
          refine lv_iload hx hb dL_holds_224 (lv_at hl 7 rfl) ?_
          refine lv_iload_n hx hb dL_holds_226 rfl (lv_at hl 2 rfl) ?_
          refine lv_iadd hx hb dL_holds_227 ?_
          obtain ⟨v100, e_v100, h⟩ := g_bind h
          refine g_calli (g_runV (n := 1) (As := [.int (x7 + x1)]) (rest := [.int v99]) C G (mX8_at l X σ o1 (x7 + x1) v100 ok1 e_v100) ok1.1.2 (gE_8 ok1.1.1) rfl (g_goodV u_ml_RL_28 u_im_yX8_at u_se_yX8_at u_in_RX8 u_co_yX8_at) rfl rfl rfl (by decide +kernel) ⟨Nat.le_of_ble_eq_true rfl, Nat.le_of_ble_eq_true rfl⟩ rfl hl.1 rfl (Nat.le_of_ble_eq_true rfl) dL_holds_228 ⟨Nat.zero_le _, Nat.zero_le _⟩) G (fun H locs G => ?_)
          refine lv_if_ge (tgt := 240) hx hb dL_holds_231 (by decide) (fun c101 => ?_) (fun c101 => ?_)
          · have h := g_it h c101
            refine lv_aload_n hx hb dL_holds_240 rfl (lv_at hl 0 rfl) ?_
            refine lv_iload hx hb dL_holds_241 (lv_at hl 7 rfl) ?_
            refine lv_iload_n hx hb dL_holds_243 rfl (lv_at hl 2 rfl) ?_
            refine lv_iadd hx hb dL_holds_244 ?_
            refine lv_iconst (v := 0) hx hb dL_holds_245 (by decide) ?_
            obtain ⟨v102, e_v102, h⟩ := g_bind h
            refine g_calli (g_runV (n := 2) (As := [.int (x7 + x1), .int 0]) (rest := [.int v99]) C G (mX8_reason l X σ o1 (x7 + x1) 0 v102 ok1 e_v102) ok1.1.2 (gE_8 ok1.1.1) rfl (g_goodV u_ml_RL_31 u_im_yX8_reason u_se_yX8_reason u_in_RX8 u_co_yX8_reason) rfl rfl rfl (by decide +kernel) ⟨Nat.le_of_ble_eq_true rfl, Nat.le_of_ble_eq_true rfl⟩ rfl hl.1 rfl (Nat.le_of_ble_eq_true rfl) dL_holds_246 ⟨Nat.zero_le _, Nat.zero_le _⟩) G (fun H locs G => ?_)
            refine lv_icmp_ne (tgt := 256) hx hb dL_holds_249 (by decide) (fun c103 => ?_) (fun c103 => ?_)
            · have h := g_if h c103
              cases h
            · have h := g_it h c103
              refine lv_iconst (v := 1) hx hb dL_holds_252 (by decide) ?_
              refine lv_goto (tgt := 257) hx hb dL_holds_253 (by decide) ?_
              refine lv_istore (lv' := [(6, .int 1), (0, .ref (xN X + o1)), (1, .int x1), (2, .int x2), (3, .int x3), (4, .int x4), (5, .int x5), (7, .int x7), (8, .int x8)]) hx hb dL_holds_257 hl (by decide) rfl (fun ls hl => ?_)
              exact L259 K75 hK75 gF _ _ _ σ x1 x2 x3 x4 x5 x7 G (lv_sub hl [1, 0, 2, 3, 4, 5, 6, 7] rfl) h
          · have h := g_if h c101
            refine lv_sipush (v := (-1004)) hx hb dL_holds_234 (by decide) ?_
            refine lv_goto (tgt := 249) hx hb dL_holds_237 (by decide) ?_
            refine lv_icmp_ne (tgt := 256) hx hb dL_holds_249 (by decide) (fun c104 => ?_) (fun c104 => ?_)
            · have h := g_if h c104
              cases h
            · have h := g_it h c104
              refine lv_iconst (v := 1) hx hb dL_holds_252 (by decide) ?_
              refine lv_goto (tgt := 257) hx hb dL_holds_253 (by decide) ?_
              refine lv_istore (lv' := [(6, .int 1), (0, .ref (xN X + o1)), (1, .int x1), (2, .int x2), (3, .int x3), (4, .int x4), (5, .int x5), (7, .int x7), (8, .int x8)]) hx hb dL_holds_257 hl (by decide) rfl (fun ls hl => ?_)
              exact L259 K75 hK75 gF _ _ _ σ x1 x2 x3 x4 x5 x7 G (lv_sub hl [1, 0, 2, 3, 4, 5, 6, 7] rfl) h
  have L133 : ∀ (K75 : gM → Int32 → Int32 → Int32 → Int32 → Int32 → Int32 → Option (Int32 × gM)), (∀ (H : Heap) (locs : List Loc) (ls : Array Slot) (σ : gM) (x1 : Int32) (x2 : Int32) (x3 : Int32) (x4 : Int32) (x5 : Int32) (x7 : Int32), gG X σ s H locs → lv_has ls 10 [(0, .ref (xN X + o1)), (6, .int 1), (1, .int x1), (2, .int x2), (3, .int x3), (4, .int x4), (5, .int x5), (7, .int x7)] → K75 σ x1 x2 x3 x4 x5 x7 = some (r, σ') → W p l ev ({ frames := 7, cells := 0, slots := 0, locals := 169 }) s m args below meth c H locs 0 0 Q (F0 m 75 ls [])) → ∀ (n : Nat) (H : Heap) (locs : List Loc) (ls : Array Slot) (σ : gM) (x1 : Int32) (x2 : Int32) (x3 : Int32) (x4 : Int32) (x5 : Int32) (x7 : Int32) (x8 : Int32), gG X σ s H locs → lv_has ls 10 [(0, .ref (xN X + o1)), (6, .int 1), (1, .int x1), (2, .int x2), (3, .int x3), (4, .int x4), (5, .int x5), (7, .int x7), (8, .int x8)] → fL_holds_133 K75 o1 n σ x1 x2 x3 x4 x5 x7 x8 = some (r, σ') → W p l ev ({ frames := 7, cells := 0, slots := 0, locals := 169 }) s m args below meth c H locs 0 0 Q (F0 m 133 ls []) := by
    intro K75 hK75 n
    induction n with
    | zero =>
      intro H locs ls σ x1 x2 x3 x4 x5 x7 x8 G hl h
      rw [fL_holds_133] at h
      cases h
    | succ n ih =>
      intro H locs ls σ x1 x2 x3 x4 x5 x7 x8 G hl h
      rw [fL_holds_133] at h
      refine lv_iload hx hb dL_holds_133 (lv_at hl 8 rfl) ?_
      refine lv_if_lt (tgt := 196) hx hb dL_holds_135 (by decide) (fun c94 => ?_) (fun c94 => ?_)
      · have h := g_it h c94
        exact L196 K75 hK75 gF _ _ _ σ x1 x2 x3 x4 x5 x7 x8 G (lv_sub hl [0, 1, 2, 3, 4, 5, 6, 7, 8] rfl) h
      · have h := g_if h c94
        refine lv_iload hx hb dL_holds_138 (lv_at hl 7 rfl) ?_
        refine lv_iload_n hx hb dL_holds_140 rfl (lv_at hl 2 rfl) ?_
        obtain ⟨c105, h⟩ := g_chk h
        refine lv_irem hx hb dL_holds_141 c105 ?_
        refine lv_iload_n hx hb dL_holds_142 rfl (lv_at hl 2 rfl) ?_
        refine lv_iconst (v := 1) hx hb dL_holds_143 (by decide) ?_
        refine lv_isub hx hb dL_holds_144 ?_
        refine lv_icmp_ge (tgt := 196) hx hb dL_holds_145 (by decide) (fun c106 => ?_) (fun c106 => ?_)
        · have h := g_it h c106
          exact L196 K75 hK75 gF _ _ _ σ x1 x2 x3 x4 x5 x7 x8 G (lv_sub hl [0, 1, 2, 3, 4, 5, 6, 7, 8] rfl) h
        · have h := g_if h c106
          refine lv_iload hx hb dL_holds_148 (lv_at hl 1 rfl) ?_
          refine lv_if_eq (tgt := 193) hx hb dL_holds_150 (by decide) (fun c107 => absurd c107 (by decide)) (fun _ => ?_)
          refine lv_aload_n hx hb dL_holds_153 rfl (lv_at hl 0 rfl) ?_
          refine lv_iload hx hb dL_holds_154 (lv_at hl 7 rfl) ?_
          refine lv_iconst (v := 1) hx hb dL_holds_156 (by decide) ?_
          obtain ⟨v108, e_v108, h⟩ := g_bind h
          refine g_calli (g_runV (n := 2) (As := [.int x7, .int 1]) (rest := []) C G (mX8_reason l X σ o1 x7 1 v108 ok1 e_v108) ok1.1.2 (gE_8 ok1.1.1) rfl (g_goodV u_ml_RL_31 u_im_yX8_reason u_se_yX8_reason u_in_RX8 u_co_yX8_reason) rfl rfl rfl (by decide +kernel) ⟨Nat.le_of_ble_eq_true rfl, Nat.le_of_ble_eq_true rfl⟩ rfl hl.1 rfl (Nat.le_of_ble_eq_true rfl) dL_holds_157 ⟨Nat.zero_le _, Nat.zero_le _⟩) G (fun H locs G => ?_)
          refine lv_aload_n hx hb dL_holds_160 rfl (lv_at hl 0 rfl) ?_
          refine lv_iload hx hb dL_holds_161 (lv_at hl 7 rfl) ?_
          refine lv_iconst (v := 1) hx hb dL_holds_163 (by decide) ?_
          refine lv_iadd hx hb dL_holds_164 ?_
          obtain ⟨v109, e_v109, h⟩ := g_bind h
          refine g_calli (g_runV (n := 1) (As := [.int (x7 + 1)]) (rest := [.int v108]) C G (mX8_at l X σ o1 (x7 + 1) v109 ok1 e_v109) ok1.1.2 (gE_8 ok1.1.1) rfl (g_goodV u_ml_RL_28 u_im_yX8_at u_se_yX8_at u_in_RX8 u_co_yX8_at) rfl rfl rfl (by decide +kernel) ⟨Nat.le_of_ble_eq_true rfl, Nat.le_of_ble_eq_true rfl⟩ rfl hl.1 rfl (Nat.le_of_ble_eq_true rfl) dL_holds_165 ⟨Nat.zero_le _, Nat.zero_le _⟩) G (fun H locs G => ?_)
          refine lv_if_ge (tgt := 177) hx hb dL_holds_168 (by decide) (fun c110 => ?_) (fun c110 => ?_)
          · have h := g_it h c110
            refine lv_aload_n hx hb dL_holds_177 rfl (lv_at hl 0 rfl) ?_
            refine lv_iload hx hb dL_holds_178 (lv_at hl 7 rfl) ?_
            refine lv_iconst (v := 1) hx hb dL_holds_180 (by decide) ?_
            refine lv_iadd hx hb dL_holds_181 ?_
            refine lv_iconst (v := 3) hx hb dL_holds_182 (by decide) ?_
            obtain ⟨v111, e_v111, h⟩ := g_bind h
            refine g_calli (g_runV (n := 2) (As := [.int (x7 + 1), .int 3]) (rest := [.int v108]) C G (mX8_reason l X σ o1 (x7 + 1) 3 v111 ok1 e_v111) ok1.1.2 (gE_8 ok1.1.1) rfl (g_goodV u_ml_RL_31 u_im_yX8_reason u_se_yX8_reason u_in_RX8 u_co_yX8_reason) rfl rfl rfl (by decide +kernel) ⟨Nat.le_of_ble_eq_true rfl, Nat.le_of_ble_eq_true rfl⟩ rfl hl.1 rfl (Nat.le_of_ble_eq_true rfl) dL_holds_183 ⟨Nat.zero_le _, Nat.zero_le _⟩) G (fun H locs G => ?_)
            refine lv_icmp_ne (tgt := 193) hx hb dL_holds_186 (by decide) (fun c112 => ?_) (fun c112 => ?_)
            · have h := g_if h c112
              cases h
            · have h := g_it h c112
              refine lv_iconst (v := 1) hx hb dL_holds_189 (by decide) ?_
              refine lv_goto (tgt := 194) hx hb dL_holds_190 (by decide) ?_
              refine lv_istore (lv' := [(6, .int 1), (0, .ref (xN X + o1)), (1, .int x1), (2, .int x2), (3, .int x3), (4, .int x4), (5, .int x5), (7, .int x7), (8, .int x8)]) hx hb dL_holds_194 hl (by decide) rfl (fun ls hl => ?_)
              exact L196 K75 hK75 gF _ _ _ σ x1 x2 x3 x4 x5 x7 x8 G (lv_sub hl [1, 0, 2, 3, 4, 5, 6, 7, 8] rfl) h
          · have h := g_if h c110
            refine lv_sipush (v := (-1004)) hx hb dL_holds_171 (by decide) ?_
            refine lv_goto (tgt := 186) hx hb dL_holds_174 (by decide) ?_
            refine lv_icmp_ne (tgt := 193) hx hb dL_holds_186 (by decide) (fun c113 => ?_) (fun c113 => ?_)
            · have h := g_if h c113
              cases h
            · have h := g_it h c113
              refine lv_iconst (v := 1) hx hb dL_holds_189 (by decide) ?_
              refine lv_goto (tgt := 194) hx hb dL_holds_190 (by decide) ?_
              refine lv_istore (lv' := [(6, .int 1), (0, .ref (xN X + o1)), (1, .int x1), (2, .int x2), (3, .int x3), (4, .int x4), (5, .int x5), (7, .int x7), (8, .int x8)]) hx hb dL_holds_194 hl (by decide) rfl (fun ls hl => ?_)
              exact L196 K75 hK75 gF _ _ _ σ x1 x2 x3 x4 x5 x7 x8 G (lv_sub hl [1, 0, 2, 3, 4, 5, 6, 7, 8] rfl) h
  have L109 : ∀ (K75 : gM → Int32 → Int32 → Int32 → Int32 → Int32 → Int32 → Option (Int32 × gM)), (∀ (H : Heap) (locs : List Loc) (ls : Array Slot) (σ : gM) (x1 : Int32) (x2 : Int32) (x3 : Int32) (x4 : Int32) (x5 : Int32) (x7 : Int32), gG X σ s H locs → lv_has ls 10 [(0, .ref (xN X + o1)), (6, .int 1), (1, .int x1), (2, .int x2), (3, .int x3), (4, .int x4), (5, .int x5), (7, .int x7)] → K75 σ x1 x2 x3 x4 x5 x7 = some (r, σ') → W p l ev ({ frames := 7, cells := 0, slots := 0, locals := 169 }) s m args below meth c H locs 0 0 Q (F0 m 75 ls [])) → ∀ (n : Nat) (H : Heap) (locs : List Loc) (ls : Array Slot) (σ : gM) (x1 : Int32) (x2 : Int32) (x3 : Int32) (x4 : Int32) (x5 : Int32) (x7 : Int32) (x8 : Int32), gG X σ s H locs → lv_has ls 10 [(0, .ref (xN X + o1)), (1, .int x1), (2, .int x2), (3, .int x3), (4, .int x4), (5, .int x5), (7, .int x7), (8, .int x8)] → fL_holds_109 K75 o1 n σ x1 x2 x3 x4 x5 x7 x8 = some (r, σ') → W p l ev ({ frames := 7, cells := 0, slots := 0, locals := 169 }) s m args below meth c H locs 0 0 Q (F0 m 109 ls []) := by
    intro K75 hK75 n
    induction n with
    | zero =>
      intro H locs ls σ x1 x2 x3 x4 x5 x7 x8 G hl h
      rw [fL_holds_109] at h
      cases h
    | succ n ih =>
      intro H locs ls σ x1 x2 x3 x4 x5 x7 x8 G hl h
      rw [fL_holds_109] at h
      refine lv_iload hx hb dL_holds_109 (lv_at hl 7 rfl) ?_
      refine lv_if_lt (tgt := 126) hx hb dL_holds_111 (by decide) (fun c93 => ?_) (fun c93 => ?_)
      · have h := g_it h c93
        refine lv_iconst (v := 1) hx hb dL_holds_126 (by decide) ?_
        refine lv_goto (tgt := 131) hx hb dL_holds_127 (by decide) ?_
        refine lv_istore (lv' := [(6, .int 1), (0, .ref (xN X + o1)), (1, .int x1), (2, .int x2), (3, .int x3), (4, .int x4), (5, .int x5), (7, .int x7), (8, .int x8)]) hx hb dL_holds_131 hl (by decide) rfl (fun ls hl => ?_)
        exact L133 K75 hK75 gF _ _ _ σ x1 x2 x3 x4 x5 x7 x8 G (lv_sub hl [1, 0, 2, 3, 4, 5, 6, 7, 8] rfl) h
      · have h := g_if h c93
        refine lv_aload_n hx hb dL_holds_114 rfl (lv_at hl 0 rfl) ?_
        refine lv_iload hx hb dL_holds_115 (lv_at hl 7 rfl) ?_
        refine lv_iconst (v := 2) hx hb dL_holds_117 (by decide) ?_
        obtain ⟨⟨v114, σ115⟩, e_v114, h⟩ := g_bind h
        have h := g_let2 (v := v114) rfl h
        have h := g_let2 (v := σ115) rfl h
        refine g_calli (g_runV (n := 2) (As := [.int x8, .int 2]) (rest := []) C G (mX8_scrap l X σ σ115 o1 x8 2 v114 ok1 e_v114) ok1.1.2 (gE_8 ok1.1.1) rfl (g_goodV u_ml_RL_21 u_im_yX8_scrap u_se_yX8_scrap u_in_RX8 u_co_yX8_scrap) rfl rfl rfl (by decide +kernel) ⟨Nat.le_of_ble_eq_true rfl, Nat.le_of_ble_eq_true rfl⟩ rfl hl.1 rfl (Nat.le_of_ble_eq_true rfl) dL_holds_118 ⟨Nat.zero_le _, Nat.zero_le _⟩) G (fun H locs G => ?_)
        refine lv_iload hx hb dL_holds_121 (lv_at hl 6 rfl) ?_
        refine lv_icmp_ne (tgt := 130) hx hb dL_holds_123 (by decide) (fun c116 => ?_) (fun c116 => ?_)
        · have h := g_if h c116
          cases h
        · have h := g_it h c116
          refine lv_iconst (v := 1) hx hb dL_holds_126 (by decide) ?_
          refine lv_goto (tgt := 131) hx hb dL_holds_127 (by decide) ?_
          refine lv_istore (lv' := [(6, .int 1), (0, .ref (xN X + o1)), (1, .int x1), (2, .int x2), (3, .int x3), (4, .int x4), (5, .int x5), (7, .int x7), (8, .int x8)]) hx hb dL_holds_131 hl (by decide) rfl (fun ls hl => ?_)
          exact L133 K75 hK75 gF _ _ _ σ115 x1 x2 x3 x4 x5 x7 x8 G (lv_sub hl [1, 0, 2, 3, 4, 5, 6, 7, 8] rfl) h
  have L75 : ∀ (n : Nat) (H : Heap) (locs : List Loc) (ls : Array Slot) (σ : gM) (x1 : Int32) (x2 : Int32) (x3 : Int32) (x4 : Int32) (x5 : Int32) (x7 : Int32), gG X σ s H locs → lv_has ls 10 [(0, .ref (xN X + o1)), (6, .int 1), (1, .int x1), (2, .int x2), (3, .int x3), (4, .int x4), (5, .int x5), (7, .int x7)] → fL_holds_75 o1 n σ x1 x2 x3 x4 x5 x7 = some (r, σ') → W p l ev ({ frames := 7, cells := 0, slots := 0, locals := 169 }) s m args below meth c H locs 0 0 Q (F0 m 75 ls []) := by
    intro n
    induction n with
    | zero =>
      intro H locs ls σ x1 x2 x3 x4 x5 x7 G hl h
      rw [fL_holds_75] at h
      cases h
    | succ n ih =>
      intro H locs ls σ x1 x2 x3 x4 x5 x7 G hl h
      rw [fL_holds_75] at h
      refine lv_iload hx hb dL_holds_75 (lv_at hl 7 rfl) ?_
      refine lv_iload_n hx hb dL_holds_77 rfl (lv_at hl 2 rfl) ?_
      refine lv_iload_n hx hb dL_holds_78 rfl (lv_at hl 3 rfl) ?_
      refine lv_imul hx hb dL_holds_79 ?_
      refine lv_icmp_ge (tgt := 265) hx hb dL_holds_80 (by decide) (fun c20 => ?_) (fun c20 => ?_)
      · have h := g_it h c20
        refine lv_iconst (v := 0) hx hb dL_holds_265 (by decide) ?_
        refine lv_istore (lv' := [(7, .int 0), (0, .ref (xN X + o1)), (6, .int 1), (1, .int x1), (2, .int x2), (3, .int x3), (4, .int x4), (5, .int x5)]) hx hb dL_holds_266 hl (by decide) rfl (fun ls hl => ?_)
        refine lv_iconst (v := 0) hx hb dL_holds_268 (by decide) ?_
        refine lv_istore (lv' := [(8, .int 0), (7, .int 0), (0, .ref (xN X + o1)), (6, .int 1), (1, .int x1), (2, .int x2), (3, .int x3), (4, .int x4), (5, .int x5)]) hx hb dL_holds_269 hl (by decide) rfl (fun ls hl => ?_)
        exact L271  gF _ _ _ σ x3 x4 x5 0 0 G (lv_sub hl [2, 3, 6, 7, 8, 1, 0] rfl) h
      · have h := g_if h c20
        refine lv_iload hx hb dL_holds_83 (lv_at hl 1 rfl) ?_
        refine lv_if_eq (tgt := 265) hx hb dL_holds_85 (by decide) (fun c87 => absurd c87 (by decide)) (fun _ => ?_)
        refine lv_aload_n hx hb dL_holds_88 rfl (lv_at hl 0 rfl) ?_
        refine lv_iload hx hb dL_holds_89 (lv_at hl 7 rfl) ?_
        obtain ⟨v88, e_v88, h⟩ := g_bind h
        refine g_calli (g_runV (n := 1) (As := [.int x7]) (rest := []) C G (mX8_at l X σ o1 x7 v88 ok1 e_v88) ok1.1.2 (gE_8 ok1.1.1) rfl (g_goodV u_ml_RL_28 u_im_yX8_at u_se_yX8_at u_in_RX8 u_co_yX8_at) rfl rfl rfl (by decide +kernel) ⟨Nat.le_of_ble_eq_true rfl, Nat.le_of_ble_eq_true rfl⟩ rfl hl.1 rfl (Nat.le_of_ble_eq_true rfl) dL_holds_91 ⟨Nat.zero_le _, Nat.zero_le _⟩) G (fun H locs G => ?_)
        refine lv_istore (lv' := [(8, .int v88), (0, .ref (xN X + o1)), (6, .int 1), (1, .int x1), (2, .int x2), (3, .int x3), (4, .int x4), (5, .int x5), (7, .int x7)]) hx hb dL_holds_94 hl (by decide) rfl (fun ls hl => ?_)
        refine lv_iload_n hx hb dL_holds_96 rfl (lv_at hl 5 rfl) ?_
        refine lv_iload hx hb dL_holds_97 (lv_at hl 0 rfl) ?_
        have J90 : ∀ (w89 : Int32) (H : Heap) (locs : List Loc), gG X σ s H locs → w89 = (if 0 ≤ v88 then (1 : Int32) else (0 : Int32)) → W p l ev ({ frames := 7, cells := 0, slots := 0, locals := 169 }) s m args below meth c H locs 0 0 Q (F0 m 107 ls [.int w89, .int x3]) := by
          intro w89 H locs G e_w89
          have h := g_let2 e_w89 h
          refine lv_iadd hx hb dL_holds_107 ?_
          refine lv_topi (fun w92 e_w92 => ?_)
          have h := g_let2 e_w92 h
          refine lv_istore_n (lv' := [(3, .int w92), (8, .int v88), (0, .ref (xN X + o1)), (6, .int 1), (1, .int x1), (2, .int x2), (4, .int x4), (5, .int x5), (7, .int x7)]) hx hb dL_holds_108 rfl hl (by decide) rfl (fun ls hl => ?_)
          exact L109 (fun σ2 y1 y2 y3 y4 y5 y7 => fL_holds_75 o1 n σ2 y1 y2 y3 y4 y5 y7) (fun H locs ls σ2 y1 y2 y3 y4 y5 y7 G hl h => ih H locs ls σ2 y1 y2 y3 y4 y5 y7 G hl h) gF _ _ _ σ x1 x2 w92 x4 x5 x7 v88 G (lv_sub hl [2, 4, 5, 0, 6, 7, 8, 1] rfl) h
        refine lv_if_ge (tgt := 106) hx hb dL_holds_99 (by decide) (fun c91 => ?_) (fun c91 => ?_)
        · refine lv_iconst (v := 1) hx hb dL_holds_106 (by decide) ?_
          exact J90 _ _ _ G (if_pos c91).symm
        · refine lv_iconst (v := 0) hx hb dL_holds_102 (by decide) ?_
          refine lv_goto (tgt := 107) hx hb dL_holds_103 (by decide) ?_
          exact J90 _ _ _ G (if_neg c91).symm
  unfold fL_holds at h
  refine lv_aload_n hx hb dL_holds_0 rfl (lv_at hl 0 rfl) ?_
  refine lv_iconst (v := 2) hx hb dL_holds_1 (by decide) ?_
  obtain ⟨⟨v1, σ2⟩, e_v1, h⟩ := g_bind h
  have h := g_let2 (v := v1) rfl h
  have h := g_let2 (v := σ2) rfl h
  refine g_calli (g_runV (n := 1) (As := [.int 2]) (rest := []) C G (mX8_count l X σ σ2 o1 2 v1 ok1 e_v1) ok1.1.2 (gE_8 ok1.1.1) rfl (g_goodV u_ml_RL_25 u_im_yX8_count u_se_yX8_count u_in_RX8 u_co_yX8_count) rfl rfl rfl (by decide +kernel) ⟨Nat.le_of_ble_eq_true rfl, Nat.le_of_ble_eq_true rfl⟩ rfl hl.1 rfl (Nat.le_of_ble_eq_true rfl) dL_holds_2 ⟨Nat.zero_le _, Nat.zero_le _⟩) G (fun H locs G => ?_)
  refine lv_istore_n (lv' := [(1, .int v1), (0, .ref (xN X + o1))]) hx hb dL_holds_5 rfl hl (by decide) rfl (fun ls hl => ?_)
  refine lv_aload_n hx hb dL_holds_6 rfl (lv_at hl 1 rfl) ?_
  refine lv_iconst (v := 3) hx hb dL_holds_7 (by decide) ?_
  obtain ⟨⟨v3, σ4⟩, e_v3, h⟩ := g_bind h
  have h := g_let2 (v := v3) rfl h
  have h := g_let2 (v := σ4) rfl h
  refine g_calli (g_runV (n := 1) (As := [.int 3]) (rest := []) C G (mX8_count l X σ2 σ4 o1 3 v3 ok1 e_v3) ok1.1.2 (gE_8 ok1.1.1) rfl (g_goodV u_ml_RL_25 u_im_yX8_count u_se_yX8_count u_in_RX8 u_co_yX8_count) rfl rfl rfl (by decide +kernel) ⟨Nat.le_of_ble_eq_true rfl, Nat.le_of_ble_eq_true rfl⟩ rfl hl.1 rfl (Nat.le_of_ble_eq_true rfl) dL_holds_8 ⟨Nat.zero_le _, Nat.zero_le _⟩) G (fun H locs G => ?_)
  refine lv_istore_n (lv' := [(2, .int v3), (1, .int v1), (0, .ref (xN X + o1))]) hx hb dL_holds_11 rfl hl (by decide) rfl (fun ls hl => ?_)
  refine lv_iconst (v := 0) hx hb dL_holds_12 (by decide) ?_
  refine lv_istore_n (lv' := [(3, .int 0), (2, .int v3), (1, .int v1), (0, .ref (xN X + o1))]) hx hb dL_holds_13 rfl hl (by decide) rfl (fun ls hl => ?_)
  refine lv_iconst (v := 0) hx hb dL_holds_14 (by decide) ?_
  refine lv_istore (lv' := [(4, .int 0), (3, .int 0), (2, .int v3), (1, .int v1), (0, .ref (xN X + o1))]) hx hb dL_holds_15 hl (by decide) rfl (fun ls hl => ?_)
  refine lv_iconst (v := 0) hx hb dL_holds_17 (by decide) ?_
  refine lv_istore (lv' := [(5, .int 0), (4, .int 0), (3, .int 0), (2, .int v3), (1, .int v1), (0, .ref (xN X + o1))]) hx hb dL_holds_18 hl (by decide) rfl (fun ls hl => ?_)
  refine lv_aload_n hx hb dL_holds_20 rfl (lv_at hl 5 rfl) ?_
  refine lv_iconst (v := 1) hx hb dL_holds_21 (by decide) ?_
  obtain ⟨⟨v5, σ6⟩, e_v5, h⟩ := g_bind h
  have h := g_let2 (v := v5) rfl h
  have h := g_let2 (v := σ6) rfl h
  refine g_calli (g_runV (n := 1) (As := [.int 1]) (rest := []) C G (mX8_count l X σ4 σ6 o1 1 v5 ok1 e_v5) ok1.1.2 (gE_8 ok1.1.1) rfl (g_goodV u_ml_RL_25 u_im_yX8_count u_se_yX8_count u_in_RX8 u_co_yX8_count) rfl rfl rfl (by decide +kernel) ⟨Nat.le_of_ble_eq_true rfl, Nat.le_of_ble_eq_true rfl⟩ rfl hl.1 rfl (Nat.le_of_ble_eq_true rfl) dL_holds_22 ⟨Nat.zero_le _, Nat.zero_le _⟩) G (fun H locs G => ?_)
  refine lv_aload_n hx hb dL_holds_25 rfl (lv_at hl 5 rfl) ?_
  refine lv_bipush (v := 9) hx hb dL_holds_26 (by decide) ?_
  obtain ⟨⟨v7, σ8⟩, e_v7, h⟩ := g_bind h
  have h := g_let2 (v := v7) rfl h
  have h := g_let2 (v := σ8) rfl h
  refine g_calli (g_runV (n := 1) (As := [.int 9]) (rest := [.int v5]) C G (mX8_count l X σ6 σ8 o1 9 v7 ok1 e_v7) ok1.1.2 (gE_8 ok1.1.1) rfl (g_goodV u_ml_RL_25 u_im_yX8_count u_se_yX8_count u_in_RX8 u_co_yX8_count) rfl rfl rfl (by decide +kernel) ⟨Nat.le_of_ble_eq_true rfl, Nat.le_of_ble_eq_true rfl⟩ rfl hl.1 rfl (Nat.le_of_ble_eq_true rfl) dL_holds_28 ⟨Nat.zero_le _, Nat.zero_le _⟩) G (fun H locs G => ?_)
  refine lv_iadd hx hb dL_holds_31 ?_
  refine lv_iload_n hx hb dL_holds_32 rfl (lv_at hl 4 rfl) ?_
  refine lv_iload_n hx hb dL_holds_33 rfl (lv_at hl 3 rfl) ?_
  refine lv_imul hx hb dL_holds_34 ?_
  refine lv_icmp_ne (tgt := 69) hx hb dL_holds_35 (by decide) (fun c9 => ?_) (fun c9 => ?_)
  · have h := g_if h c9
    cases h
  · have h := g_it h c9
    refine lv_aload_n hx hb dL_holds_38 rfl (lv_at hl 5 rfl) ?_
    refine lv_bipush (v := 6) hx hb dL_holds_39 (by decide) ?_
    obtain ⟨⟨v10, σ11⟩, e_v10, h⟩ := g_bind h
    have h := g_let2 (v := v10) rfl h
    have h := g_let2 (v := σ11) rfl h
    refine g_calli (g_runV (n := 1) (As := [.int 6]) (rest := []) C G (mX8_count l X σ8 σ11 o1 6 v10 ok1 e_v10) ok1.1.2 (gE_8 ok1.1.1) rfl (g_goodV u_ml_RL_25 u_im_yX8_count u_se_yX8_count u_in_RX8 u_co_yX8_count) rfl rfl rfl (by decide +kernel) ⟨Nat.le_of_ble_eq_true rfl, Nat.le_of_ble_eq_true rfl⟩ rfl hl.1 rfl (Nat.le_of_ble_eq_true rfl) dL_holds_41 ⟨Nat.zero_le _, Nat.zero_le _⟩) G (fun H locs G => ?_)
    refine lv_aload_n hx hb dL_holds_44 rfl (lv_at hl 5 rfl) ?_
    refine lv_iconst (v := 5) hx hb dL_holds_45 (by decide) ?_
    obtain ⟨⟨v12, σ13⟩, e_v12, h⟩ := g_bind h
    have h := g_let2 (v := v12) rfl h
    have h := g_let2 (v := σ13) rfl h
    refine g_calli (g_runV (n := 1) (As := [.int 5]) (rest := [.int v10]) C G (mX8_count l X σ11 σ13 o1 5 v12 ok1 e_v12) ok1.1.2 (gE_8 ok1.1.1) rfl (g_goodV u_ml_RL_25 u_im_yX8_count u_se_yX8_count u_in_RX8 u_co_yX8_count) rfl rfl rfl (by decide +kernel) ⟨Nat.le_of_ble_eq_true rfl, Nat.le_of_ble_eq_true rfl⟩ rfl hl.1 rfl (Nat.le_of_ble_eq_true rfl) dL_holds_46 ⟨Nat.zero_le _, Nat.zero_le _⟩) G (fun H locs G => ?_)
    refine lv_icmp_gt (tgt := 69) hx hb dL_holds_49 (by decide) (fun c14 => ?_) (fun c14 => ?_)
    · have h := g_it h c14
      cases h
    · have h := g_if h c14
      refine lv_aload_n hx hb dL_holds_52 rfl (lv_at hl 5 rfl) ?_
      refine lv_iconst (v := 4) hx hb dL_holds_53 (by decide) ?_
      obtain ⟨⟨v15, σ16⟩, e_v15, h⟩ := g_bind h
      have h := g_let2 (v := v15) rfl h
      have h := g_let2 (v := σ16) rfl h
      refine g_calli (g_runV (n := 1) (As := [.int 4]) (rest := []) C G (mX8_count l X σ13 σ16 o1 4 v15 ok1 e_v15) ok1.1.2 (gE_8 ok1.1.1) rfl (g_goodV u_ml_RL_25 u_im_yX8_count u_se_yX8_count u_in_RX8 u_co_yX8_count) rfl rfl rfl (by decide +kernel) ⟨Nat.le_of_ble_eq_true rfl, Nat.le_of_ble_eq_true rfl⟩ rfl hl.1 rfl (Nat.le_of_ble_eq_true rfl) dL_holds_54 ⟨Nat.zero_le _, Nat.zero_le _⟩) G (fun H locs G => ?_)
      refine lv_aload_n hx hb dL_holds_57 rfl (lv_at hl 5 rfl) ?_
      refine lv_iconst (v := 1) hx hb dL_holds_58 (by decide) ?_
      obtain ⟨⟨v17, σ18⟩, e_v17, h⟩ := g_bind h
      have h := g_let2 (v := v17) rfl h
      have h := g_let2 (v := σ18) rfl h
      refine g_calli (g_runV (n := 1) (As := [.int 1]) (rest := [.int v15]) C G (mX8_count l X σ16 σ18 o1 1 v17 ok1 e_v17) ok1.1.2 (gE_8 ok1.1.1) rfl (g_goodV u_ml_RL_25 u_im_yX8_count u_se_yX8_count u_in_RX8 u_co_yX8_count) rfl rfl rfl (by decide +kernel) ⟨Nat.le_of_ble_eq_true rfl, Nat.le_of_ble_eq_true rfl⟩ rfl hl.1 rfl (Nat.le_of_ble_eq_true rfl) dL_holds_59 ⟨Nat.zero_le _, Nat.zero_le _⟩) G (fun H locs G => ?_)
      refine lv_icmp_gt (tgt := 69) hx hb dL_holds_62 (by decide) (fun c19 => ?_) (fun c19 => ?_)
      · have h := g_it h c19
        cases h
      · have h := g_if h c19
        refine lv_iconst (v := 1) hx hb dL_holds_65 (by decide) ?_
        refine lv_goto (tgt := 70) hx hb dL_holds_66 (by decide) ?_
        refine lv_istore (lv' := [(6, .int 1), (5, .int 0), (4, .int 0), (3, .int 0), (2, .int v3), (1, .int v1), (0, .ref (xN X + o1))]) hx hb dL_holds_70 hl (by decide) rfl (fun ls hl => ?_)
        refine lv_iconst (v := 0) hx hb dL_holds_72 (by decide) ?_
        refine lv_istore (lv' := [(7, .int 0), (6, .int 1), (5, .int 0), (4, .int 0), (3, .int 0), (2, .int v3), (1, .int v1), (0, .ref (xN X + o1))]) hx hb dL_holds_73 hl (by decide) rfl (fun ls hl => ?_)
        exact L75  gF _ _ _ σ18 v1 v3 0 0 0 0 G (lv_sub hl [7, 1, 6, 5, 4, 3, 2, 0] rfl) h
