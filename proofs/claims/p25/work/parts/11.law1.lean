/-! THE LAW'S OWN METHODS: the script's cell, a profile read backwards, the turns -/
abbrev xPc (X : gX) (σ : gM) (b L : Nat) (xs : Nat → Int32) (av : List Value) : Array Value → State → Prop := va_Pc av (fun U => gB X σ U ∧ va_X b L xs U U.heap ∧ b < U.heap.size ∧ ¬ xA X b)
theorem x_blind {X : gX} {σ : gM} {b L : Nat} {xs : Nat → Int32} {av : List Value} : FrameBlind (xPc X σ b L xs av) := fun a U g mk q => ⟨q.1, ⟨q.2.1.1, va_K.moved (u := U) (U := U.calling g mk a) (Vm.Alike.refl U.vm) q.2.1.2.1, q.2.1.2.2.1, gN.blind q.2.1.2.2.2⟩, va_X.moved (u := U) (U := U.calling g mk a) (Vm.Alike.refl U.vm) q.2.2.1, q.2.2.2⟩
section XROW
variable {p : Program} {l : Launch} {e : Env} {R : Room} {s : State} {m : MethodId} {args : Array Value} {below : List Frame} {meth : Method} {c : Code} {H : Heap} {locs : List Loc} {cells slots : Nat} {Q : State → Prop}
variable {cc : ByteArray} {pc nL : Nat} {ls : Array Slot} {rest st : List Value} {own : String} {X : gX} {σ σ' : gM} {t idx : Nat} {b L : Nat} {xs : Nat → Int32}
variable {y : MethodName} {wsy : List Cond} {rm : Room} {Qc : Array Value → State → Outcome → State → Prop} {As : List Value} {bytes : ByteArray} {maxL n : Nat} {ret : Option FieldType}
theorem x_runS (K : gC X p s m args c cc nL own) (G : gG X σ s H locs) (hX : va_X b L xs s s.heap) (hbl : b < s.heap.size) (hbA : ¬ xA X b) (hM : Met l y wsy rm (xPc X σ b L xs As) Qc 0 0 (xA X)) (hg : GoodIn gBig (va_wsS own idx y wsy)) (hw : wsy = Cond.code y bytes maxL ret :: gBig) (hrc : rm.cells = 0) (hrs : rm.slots = 0)
    (hd : y.cls ≠ "java/lang/invoke/MethodHandle" ∧ y.cls ≠ "java/lang/invoke/VarHandle" ∧ (parseMethodDescriptor y.desc).map (fun d => d.parameters.length) = some n) (hR : rm.frames + 1 ≤ R.frames ∧ 8 + (maxL + 11) + rm.locals ≤ R.locals) (hn : As.length = n) (hsz : ls.size = nL) (hst : st = As.reverse ++ rest) (hr8 : (rest.map fun v => v.category).sum ≤ 8) (hdg : decode cc pc = .ok (.invokestatic idx, 3)) (hf : cells + 0 ≤ R.cells ∧ slots + 0 ≤ R.slots) :
    va_Run p l e R s m args below meth c H locs cells slots 0 0 (F0 m pc ls st) rest (Qc As.toArray) (xA X) := by
  have ok : ∀ w ∈ va_wsS own idx y wsy, w.before args s = true := fun w h => K.1.2.2.2.2 w (hg w h).1
  have hq : H[b]? = s.heap[b]? := G.2.2.2.1 b hbl hbA
  exact va_runS (As := As) (rest := rest) K.1 hM ⟨callB_of n K.1.2.2.2.2 (fun w h => hg w (by unfold va_wsS; exact List.mem_append_right _ h)) hw hrc hrs (ok _ (by simp [va_wsS])) (ok _ (by simp [va_wsS])) hd hR, ok _ (by simp [va_wsS])⟩ ⟨x_blind, fun U hU hW => ⟨rfl, ⟨by rw [hU]; exact G.1, va_K.moved hW.alike K.2.1, G.2.1, K.2.2.warm hW⟩, va_X.moved hW.alike (by rw [hU]; exact va_X.kept hX hq), by rw [hU]; exact Nat.lt_of_lt_of_le hbl G.2.2.1, hbA⟩⟩ rfl hn hsz hst (lv_room hr8) hdg hf
end XROW
/-- the script's cell k -/
def fL_cell (L : Nat) (xs : Nat → Int32) (k : Int32) : Option Int32 := if Int32.ofNat L ≤ k then some (((15485959 * k) + 109) &&& 2147483647) else if ¬ (k < 0 ∨ L ≤ k.toNatClampNeg) then some ((xs k.toNatClampNeg) &&& 2147483647) else none
set_option maxHeartbeats 4000000 in
theorem mL_cell (l : Launch) (X : gX) (σ : gM) (b L : Nat) (xs : Nat → Int32) (k r : Int32) (h : fL_cell L xs k = some r) : Met l yL_cell (Cond.code yL_cell cL_cell 2 (some .int) :: gBig) ({ frames := 0, cells := 0, slots := 0, locals := 0 }) (xPc X σ b L xs [.ref b, .int k]) (gQi X σ r) 0 0 (xA X) := by
  refine Met.ofW (cc := cL_cell) (maxL := 2) (ret := some .int) (by decide) rfl ?_
  intro p ev s m args below meth c s₁ B hml hv
  obtain ⟨rfl, ⟨hP, hK, hD, hN⟩, hX, hbl, hbA⟩ := hv
  have hown : s.vm.findClass RL = some m.cls := findClass_of_methodNamed B.named
  have hlocks := B.notSynchronized
  have hx := B.exec
  have hb := B.bytes
  have hts : ∀ w ∈ gBig, w.before ([Value.ref b, .int k] : List Value).toArray s = true := fun w hw => atoms_spec B.pre w (List.mem_cons_of_mem _ hw)
  rw [lg_entry_eq]
  have hl := lv_entry ([.ref b, .int k]) (n := 2) (Nat.le_of_ble_eq_true rfl)
  generalize (lg_sl ([.ref b, .int k]) ++ List.replicate (2 - (lg_sl ([.ref b, .int k])).length) Slot.unset).toArray = ls at hl ⊢
  have hl : lv_has ls 2 [(0, .ref b), (1, .int k)] := hl
  have hS : va_S (xA X) s.heap s.heap [] := va_S.rf
  unfold fL_cell at h
  refine lv_iload_n hx hb dL_cell_0 rfl (lv_at hl 1 rfl) ?_
  refine lv_aload_n hx hb dL_cell_1 rfl (lv_at hl 0 rfl) ?_
  refine va_slen hx hb hX hbl hbA hS dL_cell_2 ?_
  refine lv_icmp_ge (tgt := 12) hx hb dL_cell_3 (by decide) (fun c1 => ?_) (fun c1 => ?_)
  · have h := g_it h c1
    refine lv_ldc hx hb hown (hts _ u_c15) dL_cell_12 ?_
    refine lv_iload_n hx hb dL_cell_14 rfl (lv_at hl 1 rfl) ?_
    refine lv_imul hx hb dL_cell_15 ?_
    refine lv_bipush (v := 109) hx hb dL_cell_16 (by decide) ?_
    refine lv_iadd hx hb dL_cell_18 ?_
    refine lv_ldc hx hb hown (hts _ u_c21) dL_cell_19 ?_
    refine lv_iand hx hb dL_cell_21 ?_
    have h := Option.some.inj h
    subst h
    exact W.zret B.exec B.bytes B.returns rfl (fun t ht hW => ⟨⟨_, (), rfl, rfl, by rw [ht]; exact hP, va_K.moved hW.alike hK, hD, hN.warm hW⟩, hS.F ht⟩) hS.2.2 dL_cell_22
  · have h := g_if h c1
    obtain ⟨hin, h⟩ := g_chk h
    refine lv_aload_n hx hb dL_cell_6 rfl (lv_at hl 0 rfl) ?_
    refine lv_iload_n hx hb dL_cell_7 rfl (lv_at hl 1 rfl) ?_
    refine va_sld hx hb hX hbl hbA hS hin dL_cell_8 ?_
    refine lv_goto (tgt := 19) hx hb dL_cell_9 (by decide) ?_
    refine lv_ldc hx hb hown (hts _ u_c21) dL_cell_19 ?_
    refine lv_iand hx hb dL_cell_21 ?_
    have h := Option.some.inj h
    subst h
    exact W.zret B.exec B.bytes B.returns rfl (fun t ht hW => ⟨⟨_, (), rfl, rfl, by rw [ht]; exact hP, va_K.moved hW.alike hK, hD, hN.warm hW⟩, hS.F ht⟩) hS.2.2 dL_cell_22
def fL_back (σ : gM) (a1 : Int32) : Option (Int32) :=
  (gl (if 0 ≤ a1 then ((((a1 - a1 / 10 * 10) * 100) + (((a1 / 10) - (a1 / 10) / 10 * 10) * 10)) + (a1 / 100)) else a1) fun w1 =>
  some w1)
set_option maxHeartbeats 4000000 in
set_option maxRecDepth 100000 in
theorem mL_back (l : Launch) (X : gX) (σ : gM) (a1 : Int32) (r : Int32) (h : fL_back σ a1 = some r) : Met l yL_back (Cond.code yL_back cL_back 1 (some .int) :: gBig) ({ frames := 0, cells := 0, slots := 0, locals := 0 }) (gPc X σ [.int a1]) (gQi X σ r) 0 0 (xA X) := by
  refine g_meti (cc := cL_back) (maxL := 1) (own := RL) (by decide) rfl rfl (Nat.le_of_ble_eq_true rfl) ?_
  intro p ev s m args below meth c Q C G ret ls hl
  obtain ⟨⟨hx, hb, hml, hown, hts⟩, hK⟩ := id C
  have hl : lv_has ls 1 [(0, .int a1)] := hl
  unfold fL_back at h
  refine lv_iload_n hx hb dL_back_0 rfl (lv_at hl 0 rfl) ?_
  have J2 : ∀ (w1 : Int32) (H : Heap) (locs : List Loc), gG X σ s H locs → w1 = (if 0 ≤ a1 then ((((a1 - a1 / 10 * 10) * 100) + (((a1 / 10) - (a1 / 10) / 10 * 10) * 10)) + (a1 / 100)) else a1) → W p l ev ({ frames := 0, cells := 0, slots := 0, locals := 0 }) s m args below meth c H locs 0 0 Q (F0 m 31 ls [.int w1]) := by
    intro w1 H locs G e_w1
    have h := g_let2 e_w1 h
    exact ret dL_back_31 rfl G ⟨Option.some.inj h, rfl⟩
  refine lv_if_ge (tgt := 8) hx hb dL_back_1 (by decide) (fun c3 => ?_) (fun c3 => ?_)
  · refine lv_iload_n hx hb dL_back_8 rfl (lv_at hl 0 rfl) ?_
    refine lv_bipush (v := 10) hx hb dL_back_9 (by decide) ?_
    refine lv_irem hx hb dL_back_11 (by decide) ?_
    refine lv_bipush (v := 100) hx hb dL_back_12 (by decide) ?_
    refine lv_imul hx hb dL_back_14 ?_
    refine lv_iload_n hx hb dL_back_15 rfl (lv_at hl 0 rfl) ?_
    refine lv_bipush (v := 10) hx hb dL_back_16 (by decide) ?_
    refine lv_idiv hx hb dL_back_18 (by decide) ?_
    refine lv_bipush (v := 10) hx hb dL_back_19 (by decide) ?_
    refine lv_irem hx hb dL_back_21 (by decide) ?_
    refine lv_bipush (v := 10) hx hb dL_back_22 (by decide) ?_
    refine lv_imul hx hb dL_back_24 ?_
    refine lv_iadd hx hb dL_back_25 ?_
    refine lv_iload_n hx hb dL_back_26 rfl (lv_at hl 0 rfl) ?_
    refine lv_bipush (v := 100) hx hb dL_back_27 (by decide) ?_
    refine lv_idiv hx hb dL_back_29 (by decide) ?_
    refine lv_iadd hx hb dL_back_30 ?_
    exact J2 _ _ _ G (if_pos c3).symm
  · refine lv_iload_n hx hb dL_back_4 rfl (lv_at hl 0 rfl) ?_
    refine lv_goto (tgt := 31) hx hb dL_back_5 (by decide) ?_
    exact J2 _ _ _ G (if_neg c3).symm

def fL_turns_122 (K4 : gM → Int32 → Option (Int32 × gM)) (o1 : Nat) (a2 : Int32) : Nat → gM → Int32 → Int32 → Int32 → Option (Int32 × gM)
  | 0, _, _, _, _ => none
  | n + 1, σ, x3, x4, x5 =>
    (if 4 ≤ x5 then
      (gl (x3 + 1) fun w31 =>
      K4 σ w31)
    else
      ((fX8_edge σ o1 a2 x4 ((x5 + 1) - (x5 + 1) / 4 * 4) 1).bind fun v33 =>
      ((fX8_edge σ o1 a2 x3 x5 1).bind fun v34 =>
      (if v33 = v34 then
        ((fX8_scrap σ o1 a2 0).bind fun pv36 => gl pv36.1 fun v36 => gl pv36.2 fun σ37 =>
        (if v36 = 1 then
          (gl (x5 + 1) fun w39 =>
          fL_turns_122 K4 o1 a2 n σ37 x3 x4 w39)
        else
          (if x3 < 4 then
            (gl (x5 + 1) fun w41 =>
            fL_turns_122 K4 o1 a2 n σ37 x3 x4 w41)
          else
            ((fX8_edge σ37 o1 a2 x3 x5 1).bind fun v42 =>
            (if v42 = 0 then
              (gl (x5 + 1) fun w44 =>
              fL_turns_122 K4 o1 a2 n σ37 x3 x4 w44)
            else
              none)))))
      else
        none))))

def fL_turns_4 (o1 : Nat) (a2 : Int32) : Nat → gM → Int32 → Option (Int32 × gM)
  | 0, _, _ => none
  | n + 1, σ, x3 =>
    (if 8 ≤ x3 then
      ((fX8_edge σ o1 a2 4 0 0).bind fun v3 =>
      ((fX8_edge σ o1 a2 0 0 0).bind fun v4 =>
      ((fL_back σ v4).bind fun v5 =>
      (if v3 = v5 then
        ((fX8_edge σ o1 a2 4 1 0).bind fun v7 =>
        ((fX8_edge σ o1 a2 0 3 0).bind fun v8 =>
        (if v7 = v8 then
          ((fX8_edge σ o1 a2 4 2 0).bind fun v10 =>
          ((fX8_edge σ o1 a2 0 2 0).bind fun v11 =>
          ((fL_back σ v11).bind fun v12 =>
          (if v10 = v12 then
            some (1, σ)
          else
            none))))
        else
          none)))
      else
        none))))
    else
      (gl (((x3 / 4) * 4) + ((x3 + 1) - (x3 + 1) / 4 * 4)) fun w15 =>
      ((fX8_edge σ o1 a2 w15 1 0).bind fun v16 =>
      ((fX8_edge σ o1 a2 x3 0 0).bind fun v17 =>
      (if v16 = v17 then
        ((fX8_edge σ o1 a2 w15 3 0).bind fun v19 =>
        ((fX8_edge σ o1 a2 x3 2 0).bind fun v20 =>
        (if v19 = v20 then
          ((fX8_edge σ o1 a2 w15 0 0).bind fun v22 =>
          ((fX8_edge σ o1 a2 x3 3 0).bind fun v23 =>
          ((fL_back σ v23).bind fun v24 =>
          (if v22 = v24 then
            ((fX8_edge σ o1 a2 w15 2 0).bind fun v26 =>
            ((fX8_edge σ o1 a2 x3 1 0).bind fun v27 =>
            ((fL_back σ v27).bind fun v28 =>
            (if v26 = v28 then
              fL_turns_122 (fun σ2 y3 => fL_turns_4 o1 a2 n σ2 y3) o1 a2 gF σ x3 w15 0
            else
              none))))
          else
            none))))
        else
          none)))
      else
        none)))))

def fL_turns (σ : gM) (o1 : Nat) (a2 : Int32) : Option (Int32 × gM) :=
  fL_turns_4 o1 a2 gF σ 0
set_option maxHeartbeats 4000000 in
set_option maxRecDepth 100000 in
theorem mL_turns (l : Launch) (X : gX) (σ σ' : gM) (o1 : Nat) (a2 : Int32) (r : Int32) (ok1 : gok8 X o1) (h : fL_turns σ o1 a2 = some (r, σ')) : Met l yL_turns (Cond.code yL_turns cL_turns 6 (some .boolean) :: gBig) ({ frames := 7, cells := 0, slots := 0, locals := 168 }) (gPc X σ [.ref (xN X + o1), .int a2]) (gQi X σ' r) 0 0 (xA X) := by
  refine g_meti (cc := cL_turns) (maxL := 6) (own := RL) (by decide) rfl rfl (Nat.le_of_ble_eq_true rfl) ?_
  intro p ev s m args below meth c Q C G ret ls hl
  obtain ⟨⟨hx, hb, hml, hown, hts⟩, hK⟩ := id C
  have hl : lv_has ls 6 [(0, .ref (xN X + o1)), (1, .int a2)] := hl
  have L122 : ∀ (K4 : gM → Int32 → Option (Int32 × gM)), (∀ (H : Heap) (locs : List Loc) (ls : Array Slot) (σ : gM) (x3 : Int32), gG X σ s H locs → lv_has ls 6 [(0, .ref (xN X + o1)), (1, .int a2), (2, .int 1), (3, .int x3)] → K4 σ x3 = some (r, σ') → W p l ev ({ frames := 7, cells := 0, slots := 0, locals := 168 }) s m args below meth c H locs 0 0 Q (F0 m 4 ls [])) → ∀ (n : Nat) (H : Heap) (locs : List Loc) (ls : Array Slot) (σ : gM) (x3 : Int32) (x4 : Int32) (x5 : Int32), gG X σ s H locs → lv_has ls 6 [(0, .ref (xN X + o1)), (1, .int a2), (2, .int 1), (3, .int x3), (4, .int x4), (5, .int x5)] → fL_turns_122 K4 o1 a2 n σ x3 x4 x5 = some (r, σ') → W p l ev ({ frames := 7, cells := 0, slots := 0, locals := 168 }) s m args below meth c H locs 0 0 Q (F0 m 122 ls []) := by
    intro K4 hK4 n
    induction n with
    | zero =>
      intro H locs ls σ x3 x4 x5 G hl h
      rw [fL_turns_122] at h
      cases h
    | succ n ih =>
      intro H locs ls σ x3 x4 x5 G hl h
      rw [fL_turns_122] at h
      refine lv_iload hx hb dL_turns_122 (lv_at hl 5 rfl) ?_
      refine lv_iconst (v := 4) hx hb dL_turns_124 (by decide) ?_
      refine lv_icmp_ge (tgt := 197) hx hb dL_turns_125 (by decide) (fun c30 => ?_) (fun c30 => ?_)
      · have h := g_it h c30
        obtain ⟨w31, e_w31⟩ : ∃ y : Int32, y = x3 + 1 := ⟨_, rfl⟩
        have h := g_let2 e_w31 h
        refine lv_iinc (v := w31) (lv' := [(3, .int w31), (0, .ref (xN X + o1)), (1, .int a2), (2, .int 1), (4, .int x4), (5, .int x5)]) hx hb dL_turns_197 hl (k := 3) rfl (by rw [e_w31]; rfl) (by decide) rfl (fun ls hl => ?_)
        refine lv_goto (tgt := 4) hx hb dL_turns_200 (by decide) ?_
        exact hK4 _ _ _ σ w31 G (lv_sub hl [1, 2, 3, 0] rfl) h
      · have h := g_if h c30
        refine lv_iload_n hx hb dL_turns_128 rfl (lv_at hl 2 rfl) ?_
        refine lv_if_eq (tgt := 197) hx hb dL_turns_129 (by decide) (fun c32 => absurd c32 (by decide)) (fun _ => ?_)
        refine lv_aload_n hx hb dL_turns_132 rfl (lv_at hl 0 rfl) ?_
        refine lv_iload_n hx hb dL_turns_133 rfl (lv_at hl 1 rfl) ?_
        refine lv_iload hx hb dL_turns_134 (lv_at hl 4 rfl) ?_
        refine lv_iload hx hb dL_turns_136 (lv_at hl 5 rfl) ?_
        refine lv_iconst (v := 1) hx hb dL_turns_138 (by decide) ?_
        refine lv_iadd hx hb dL_turns_139 ?_
        refine lv_iconst (v := 4) hx hb dL_turns_140 (by decide) ?_
        refine lv_irem hx hb dL_turns_141 (by decide) ?_
        refine lv_iconst (v := 1) hx hb dL_turns_142 (by decide) ?_
        obtain ⟨v33, e_v33, h⟩ := g_bind h
        refine g_calli (g_runV (n := 4) (As := [.int a2, .int x4, .int ((x5 + 1) - (x5 + 1) / 4 * 4), .int 1]) (rest := []) C G (mX8_edge l X σ o1 a2 x4 ((x5 + 1) - (x5 + 1) / 4 * 4) 1 v33 ok1 e_v33) ok1.1.2 (gE_8 ok1.1.1) rfl (g_goodV u_ml_RL_9 u_im_yX8_edge u_se_yX8_edge u_in_RX8 u_co_yX8_edge) rfl rfl rfl (by decide +kernel) ⟨Nat.le_of_ble_eq_true rfl, Nat.le_of_ble_eq_true rfl⟩ rfl hl.1 rfl (Nat.le_of_ble_eq_true rfl) dL_turns_143 ⟨Nat.zero_le _, Nat.zero_le _⟩) G (fun H locs G => ?_)
        refine lv_aload_n hx hb dL_turns_146 rfl (lv_at hl 0 rfl) ?_
        refine lv_iload_n hx hb dL_turns_147 rfl (lv_at hl 1 rfl) ?_
        refine lv_iload_n hx hb dL_turns_148 rfl (lv_at hl 3 rfl) ?_
        refine lv_iload hx hb dL_turns_149 (lv_at hl 5 rfl) ?_
        refine lv_iconst (v := 1) hx hb dL_turns_151 (by decide) ?_
        obtain ⟨v34, e_v34, h⟩ := g_bind h
        refine g_calli (g_runV (n := 4) (As := [.int a2, .int x3, .int x5, .int 1]) (rest := [.int v33]) C G (mX8_edge l X σ o1 a2 x3 x5 1 v34 ok1 e_v34) ok1.1.2 (gE_8 ok1.1.1) rfl (g_goodV u_ml_RL_9 u_im_yX8_edge u_se_yX8_edge u_in_RX8 u_co_yX8_edge) rfl rfl rfl (by decide +kernel) ⟨Nat.le_of_ble_eq_true rfl, Nat.le_of_ble_eq_true rfl⟩ rfl hl.1 rfl (Nat.le_of_ble_eq_true rfl) dL_turns_152 ⟨Nat.zero_le _, Nat.zero_le _⟩) G (fun H locs G => ?_)
        refine lv_icmp_ne (tgt := 189) hx hb dL_turns_155 (by decide) (fun c35 => ?_) (fun c35 => ?_)
        · have h := g_if h c35
          cases h
        · have h := g_it h c35
          refine lv_aload_n hx hb dL_turns_158 rfl (lv_at hl 0 rfl) ?_
          refine lv_iload_n hx hb dL_turns_159 rfl (lv_at hl 1 rfl) ?_
          refine lv_iconst (v := 0) hx hb dL_turns_160 (by decide) ?_
          obtain ⟨⟨v36, σ37⟩, e_v36, h⟩ := g_bind h
          have h := g_let2 (v := v36) rfl h
          have h := g_let2 (v := σ37) rfl h
          refine g_calli (g_runV (n := 2) (As := [.int a2, .int 0]) (rest := []) C G (mX8_scrap l X σ σ37 o1 a2 0 v36 ok1 e_v36) ok1.1.2 (gE_8 ok1.1.1) rfl (g_goodV u_ml_RL_21 u_im_yX8_scrap u_se_yX8_scrap u_in_RX8 u_co_yX8_scrap) rfl rfl rfl (by decide +kernel) ⟨Nat.le_of_ble_eq_true rfl, Nat.le_of_ble_eq_true rfl⟩ rfl hl.1 rfl (Nat.le_of_ble_eq_true rfl) dL_turns_161 ⟨Nat.zero_le _, Nat.zero_le _⟩) G (fun H locs G => ?_)
          refine lv_iconst (v := 1) hx hb dL_turns_164 (by decide) ?_
          refine lv_icmp_eq (tgt := 185) hx hb dL_turns_165 (by decide) (fun c38 => ?_) (fun c38 => ?_)
          · have h := g_it h c38
            refine lv_iconst (v := 1) hx hb dL_turns_185 (by decide) ?_
            refine lv_goto (tgt := 190) hx hb dL_turns_186 (by decide) ?_
            refine lv_istore_n (lv' := [(2, .int 1), (0, .ref (xN X + o1)), (1, .int a2), (3, .int x3), (4, .int x4), (5, .int x5)]) hx hb dL_turns_190 rfl hl (by decide) rfl (fun ls hl => ?_)
            obtain ⟨w39, e_w39⟩ : ∃ y : Int32, y = x5 + 1 := ⟨_, rfl⟩
            have h := g_let2 e_w39 h
            refine lv_iinc (v := w39) (lv' := [(5, .int w39), (2, .int 1), (0, .ref (xN X + o1)), (1, .int a2), (3, .int x3), (4, .int x4)]) hx hb dL_turns_191 hl (k := 5) rfl (by rw [e_w39]; rfl) (by decide) rfl (fun ls hl => ?_)
            refine lv_goto (tgt := 122) hx hb dL_turns_194 (by decide) ?_
            exact ih _ _ _ σ37 x3 x4 w39 G (lv_sub hl [2, 3, 1, 4, 5, 0] rfl) h
          · have h := g_if h c38
            refine lv_iload_n hx hb dL_turns_168 rfl (lv_at hl 3 rfl) ?_
            refine lv_iconst (v := 4) hx hb dL_turns_169 (by decide) ?_
            refine lv_icmp_lt (tgt := 185) hx hb dL_turns_170 (by decide) (fun c40 => ?_) (fun c40 => ?_)
            · have h := g_it h c40
              refine lv_iconst (v := 1) hx hb dL_turns_185 (by decide) ?_
              refine lv_goto (tgt := 190) hx hb dL_turns_186 (by decide) ?_
              refine lv_istore_n (lv' := [(2, .int 1), (0, .ref (xN X + o1)), (1, .int a2), (3, .int x3), (4, .int x4), (5, .int x5)]) hx hb dL_turns_190 rfl hl (by decide) rfl (fun ls hl => ?_)
              obtain ⟨w41, e_w41⟩ : ∃ y : Int32, y = x5 + 1 := ⟨_, rfl⟩
              have h := g_let2 e_w41 h
              refine lv_iinc (v := w41) (lv' := [(5, .int w41), (2, .int 1), (0, .ref (xN X + o1)), (1, .int a2), (3, .int x3), (4, .int x4)]) hx hb dL_turns_191 hl (k := 5) rfl (by rw [e_w41]; rfl) (by decide) rfl (fun ls hl => ?_)
              refine lv_goto (tgt := 122) hx hb dL_turns_194 (by decide) ?_
              exact ih _ _ _ σ37 x3 x4 w41 G (lv_sub hl [2, 3, 1, 4, 5, 0] rfl) h
            · have h := g_if h c40
              refine lv_aload_n hx hb dL_turns_173 rfl (lv_at hl 0 rfl) ?_
              refine lv_iload_n hx hb dL_turns_174 rfl (lv_at hl 1 rfl) ?_
              refine lv_iload_n hx hb dL_turns_175 rfl (lv_at hl 3 rfl) ?_
              refine lv_iload hx hb dL_turns_176 (lv_at hl 5 rfl) ?_
              refine lv_iconst (v := 1) hx hb dL_turns_178 (by decide) ?_
              obtain ⟨v42, e_v42, h⟩ := g_bind h
              refine g_calli (g_runV (n := 4) (As := [.int a2, .int x3, .int x5, .int 1]) (rest := []) C G (mX8_edge l X σ37 o1 a2 x3 x5 1 v42 ok1 e_v42) ok1.1.2 (gE_8 ok1.1.1) rfl (g_goodV u_ml_RL_9 u_im_yX8_edge u_se_yX8_edge u_in_RX8 u_co_yX8_edge) rfl rfl rfl (by decide +kernel) ⟨Nat.le_of_ble_eq_true rfl, Nat.le_of_ble_eq_true rfl⟩ rfl hl.1 rfl (Nat.le_of_ble_eq_true rfl) dL_turns_179 ⟨Nat.zero_le _, Nat.zero_le _⟩) G (fun H locs G => ?_)
              refine lv_if_ne (tgt := 189) hx hb dL_turns_182 (by decide) (fun c43 => ?_) (fun c43 => ?_)
              · have h := g_if h c43
                cases h
              · have h := g_it h c43
                refine lv_iconst (v := 1) hx hb dL_turns_185 (by decide) ?_
                refine lv_goto (tgt := 190) hx hb dL_turns_186 (by decide) ?_
                refine lv_istore_n (lv' := [(2, .int 1), (0, .ref (xN X + o1)), (1, .int a2), (3, .int x3), (4, .int x4), (5, .int x5)]) hx hb dL_turns_190 rfl hl (by decide) rfl (fun ls hl => ?_)
                obtain ⟨w44, e_w44⟩ : ∃ y : Int32, y = x5 + 1 := ⟨_, rfl⟩
                have h := g_let2 e_w44 h
                refine lv_iinc (v := w44) (lv' := [(5, .int w44), (2, .int 1), (0, .ref (xN X + o1)), (1, .int a2), (3, .int x3), (4, .int x4)]) hx hb dL_turns_191 hl (k := 5) rfl (by rw [e_w44]; rfl) (by decide) rfl (fun ls hl => ?_)
                refine lv_goto (tgt := 122) hx hb dL_turns_194 (by decide) ?_
                exact ih _ _ _ σ37 x3 x4 w44 G (lv_sub hl [2, 3, 1, 4, 5, 0] rfl) h
  have L4 : ∀ (n : Nat) (H : Heap) (locs : List Loc) (ls : Array Slot) (σ : gM) (x3 : Int32), gG X σ s H locs → lv_has ls 6 [(0, .ref (xN X + o1)), (1, .int a2), (2, .int 1), (3, .int x3)] → fL_turns_4 o1 a2 n σ x3 = some (r, σ') → W p l ev ({ frames := 7, cells := 0, slots := 0, locals := 168 }) s m args below meth c H locs 0 0 Q (F0 m 4 ls []) := by
    intro n
    induction n with
    | zero =>
      intro H locs ls σ x3 G hl h
      rw [fL_turns_4] at h
      cases h
    | succ n ih =>
      intro H locs ls σ x3 G hl h
      rw [fL_turns_4] at h
      refine lv_iload_n hx hb dL_turns_4 rfl (lv_at hl 3 rfl) ?_
      refine lv_bipush (v := 8) hx hb dL_turns_5 (by decide) ?_
      refine lv_icmp_ge (tgt := 203) hx hb dL_turns_7 (by decide) (fun c1 => ?_) (fun c1 => ?_)
      · have h := g_it h c1
        refine lv_iload_n hx hb dL_turns_203 rfl (lv_at hl 2 rfl) ?_
        refine lv_if_eq (tgt := 274) hx hb dL_turns_204 (by decide) (fun c2 => absurd c2 (by decide)) (fun _ => ?_)
        refine lv_aload_n hx hb dL_turns_207 rfl (lv_at hl 0 rfl) ?_
        refine lv_iload_n hx hb dL_turns_208 rfl (lv_at hl 1 rfl) ?_
        refine lv_iconst (v := 4) hx hb dL_turns_209 (by decide) ?_
        refine lv_iconst (v := 0) hx hb dL_turns_210 (by decide) ?_
        refine lv_iconst (v := 0) hx hb dL_turns_211 (by decide) ?_
        obtain ⟨v3, e_v3, h⟩ := g_bind h
        refine g_calli (g_runV (n := 4) (As := [.int a2, .int 4, .int 0, .int 0]) (rest := []) C G (mX8_edge l X σ o1 a2 4 0 0 v3 ok1 e_v3) ok1.1.2 (gE_8 ok1.1.1) rfl (g_goodV u_ml_RL_9 u_im_yX8_edge u_se_yX8_edge u_in_RX8 u_co_yX8_edge) rfl rfl rfl (by decide +kernel) ⟨Nat.le_of_ble_eq_true rfl, Nat.le_of_ble_eq_true rfl⟩ rfl hl.1 rfl (Nat.le_of_ble_eq_true rfl) dL_turns_212 ⟨Nat.zero_le _, Nat.zero_le _⟩) G (fun H locs G => ?_)
        refine lv_aload_n hx hb dL_turns_215 rfl (lv_at hl 0 rfl) ?_
        refine lv_iload_n hx hb dL_turns_216 rfl (lv_at hl 1 rfl) ?_
        refine lv_iconst (v := 0) hx hb dL_turns_217 (by decide) ?_
        refine lv_iconst (v := 0) hx hb dL_turns_218 (by decide) ?_
        refine lv_iconst (v := 0) hx hb dL_turns_219 (by decide) ?_
        obtain ⟨v4, e_v4, h⟩ := g_bind h
        refine g_calli (g_runV (n := 4) (As := [.int a2, .int 0, .int 0, .int 0]) (rest := [.int v3]) C G (mX8_edge l X σ o1 a2 0 0 0 v4 ok1 e_v4) ok1.1.2 (gE_8 ok1.1.1) rfl (g_goodV u_ml_RL_9 u_im_yX8_edge u_se_yX8_edge u_in_RX8 u_co_yX8_edge) rfl rfl rfl (by decide +kernel) ⟨Nat.le_of_ble_eq_true rfl, Nat.le_of_ble_eq_true rfl⟩ rfl hl.1 rfl (Nat.le_of_ble_eq_true rfl) dL_turns_220 ⟨Nat.zero_le _, Nat.zero_le _⟩) G (fun H locs G => ?_)
        obtain ⟨v5, e_v5, h⟩ := g_bind h
        refine g_calli (g_runS (n := 1) (As := [.int v4]) (rest := [.int v3]) C G (mL_back l X σ v4 v5 e_v5) (g_goodS u_ml_RL_15 u_st_yL_back u_in_RL u_co_yL_back) rfl rfl rfl (by decide +kernel) ⟨Nat.le_of_ble_eq_true rfl, Nat.le_of_ble_eq_true rfl⟩ rfl hl.1 rfl (Nat.le_of_ble_eq_true rfl) dL_turns_223 ⟨Nat.zero_le _, Nat.zero_le _⟩) G (fun H locs G => ?_)
        refine lv_icmp_ne (tgt := 274) hx hb dL_turns_226 (by decide) (fun c6 => ?_) (fun c6 => ?_)
        · have h := g_if h c6
          cases h
        · have h := g_it h c6
          refine lv_aload_n hx hb dL_turns_229 rfl (lv_at hl 0 rfl) ?_
          refine lv_iload_n hx hb dL_turns_230 rfl (lv_at hl 1 rfl) ?_
          refine lv_iconst (v := 4) hx hb dL_turns_231 (by decide) ?_
          refine lv_iconst (v := 1) hx hb dL_turns_232 (by decide) ?_
          refine lv_iconst (v := 0) hx hb dL_turns_233 (by decide) ?_
          obtain ⟨v7, e_v7, h⟩ := g_bind h
          refine g_calli (g_runV (n := 4) (As := [.int a2, .int 4, .int 1, .int 0]) (rest := []) C G (mX8_edge l X σ o1 a2 4 1 0 v7 ok1 e_v7) ok1.1.2 (gE_8 ok1.1.1) rfl (g_goodV u_ml_RL_9 u_im_yX8_edge u_se_yX8_edge u_in_RX8 u_co_yX8_edge) rfl rfl rfl (by decide +kernel) ⟨Nat.le_of_ble_eq_true rfl, Nat.le_of_ble_eq_true rfl⟩ rfl hl.1 rfl (Nat.le_of_ble_eq_true rfl) dL_turns_234 ⟨Nat.zero_le _, Nat.zero_le _⟩) G (fun H locs G => ?_)
          refine lv_aload_n hx hb dL_turns_237 rfl (lv_at hl 0 rfl) ?_
          refine lv_iload_n hx hb dL_turns_238 rfl (lv_at hl 1 rfl) ?_
          refine lv_iconst (v := 0) hx hb dL_turns_239 (by decide) ?_
          refine lv_iconst (v := 3) hx hb dL_turns_240 (by decide) ?_
          refine lv_iconst (v := 0) hx hb dL_turns_241 (by decide) ?_
          obtain ⟨v8, e_v8, h⟩ := g_bind h
          refine g_calli (g_runV (n := 4) (As := [.int a2, .int 0, .int 3, .int 0]) (rest := [.int v7]) C G (mX8_edge l X σ o1 a2 0 3 0 v8 ok1 e_v8) ok1.1.2 (gE_8 ok1.1.1) rfl (g_goodV u_ml_RL_9 u_im_yX8_edge u_se_yX8_edge u_in_RX8 u_co_yX8_edge) rfl rfl rfl (by decide +kernel) ⟨Nat.le_of_ble_eq_true rfl, Nat.le_of_ble_eq_true rfl⟩ rfl hl.1 rfl (Nat.le_of_ble_eq_true rfl) dL_turns_242 ⟨Nat.zero_le _, Nat.zero_le _⟩) G (fun H locs G => ?_)
          refine lv_icmp_ne (tgt := 274) hx hb dL_turns_245 (by decide) (fun c9 => ?_) (fun c9 => ?_)
          · have h := g_if h c9
            cases h
          · have h := g_it h c9
            refine lv_aload_n hx hb dL_turns_248 rfl (lv_at hl 0 rfl) ?_
            refine lv_iload_n hx hb dL_turns_249 rfl (lv_at hl 1 rfl) ?_
            refine lv_iconst (v := 4) hx hb dL_turns_250 (by decide) ?_
            refine lv_iconst (v := 2) hx hb dL_turns_251 (by decide) ?_
            refine lv_iconst (v := 0) hx hb dL_turns_252 (by decide) ?_
            obtain ⟨v10, e_v10, h⟩ := g_bind h
            refine g_calli (g_runV (n := 4) (As := [.int a2, .int 4, .int 2, .int 0]) (rest := []) C G (mX8_edge l X σ o1 a2 4 2 0 v10 ok1 e_v10) ok1.1.2 (gE_8 ok1.1.1) rfl (g_goodV u_ml_RL_9 u_im_yX8_edge u_se_yX8_edge u_in_RX8 u_co_yX8_edge) rfl rfl rfl (by decide +kernel) ⟨Nat.le_of_ble_eq_true rfl, Nat.le_of_ble_eq_true rfl⟩ rfl hl.1 rfl (Nat.le_of_ble_eq_true rfl) dL_turns_253 ⟨Nat.zero_le _, Nat.zero_le _⟩) G (fun H locs G => ?_)
            refine lv_aload_n hx hb dL_turns_256 rfl (lv_at hl 0 rfl) ?_
            refine lv_iload_n hx hb dL_turns_257 rfl (lv_at hl 1 rfl) ?_
            refine lv_iconst (v := 0) hx hb dL_turns_258 (by decide) ?_
            refine lv_iconst (v := 2) hx hb dL_turns_259 (by decide) ?_
            refine lv_iconst (v := 0) hx hb dL_turns_260 (by decide) ?_
            obtain ⟨v11, e_v11, h⟩ := g_bind h
            refine g_calli (g_runV (n := 4) (As := [.int a2, .int 0, .int 2, .int 0]) (rest := [.int v10]) C G (mX8_edge l X σ o1 a2 0 2 0 v11 ok1 e_v11) ok1.1.2 (gE_8 ok1.1.1) rfl (g_goodV u_ml_RL_9 u_im_yX8_edge u_se_yX8_edge u_in_RX8 u_co_yX8_edge) rfl rfl rfl (by decide +kernel) ⟨Nat.le_of_ble_eq_true rfl, Nat.le_of_ble_eq_true rfl⟩ rfl hl.1 rfl (Nat.le_of_ble_eq_true rfl) dL_turns_261 ⟨Nat.zero_le _, Nat.zero_le _⟩) G (fun H locs G => ?_)
            obtain ⟨v12, e_v12, h⟩ := g_bind h
            refine g_calli (g_runS (n := 1) (As := [.int v11]) (rest := [.int v10]) C G (mL_back l X σ v11 v12 e_v12) (g_goodS u_ml_RL_15 u_st_yL_back u_in_RL u_co_yL_back) rfl rfl rfl (by decide +kernel) ⟨Nat.le_of_ble_eq_true rfl, Nat.le_of_ble_eq_true rfl⟩ rfl hl.1 rfl (Nat.le_of_ble_eq_true rfl) dL_turns_264 ⟨Nat.zero_le _, Nat.zero_le _⟩) G (fun H locs G => ?_)
            refine lv_icmp_ne (tgt := 274) hx hb dL_turns_267 (by decide) (fun c13 => ?_) (fun c13 => ?_)
            · have h := g_if h c13
              cases h
            · have h := g_it h c13
              refine lv_iconst (v := 1) hx hb dL_turns_270 (by decide) ?_
              refine lv_goto (tgt := 275) hx hb dL_turns_271 (by decide) ?_
              exact ret dL_turns_275 rfl G (Prod.mk.inj (Option.some.inj h))
      · have h := g_if h c1
        refine lv_iload_n hx hb dL_turns_10 rfl (lv_at hl 2 rfl) ?_
        refine lv_if_eq (tgt := 203) hx hb dL_turns_11 (by decide) (fun c14 => absurd c14 (by decide)) (fun _ => ?_)
        refine lv_iload_n hx hb dL_turns_14 rfl (lv_at hl 3 rfl) ?_
        refine lv_iconst (v := 4) hx hb dL_turns_15 (by decide) ?_
        refine lv_idiv hx hb dL_turns_16 (by decide) ?_
        refine lv_iconst (v := 4) hx hb dL_turns_17 (by decide) ?_
        refine lv_imul hx hb dL_turns_18 ?_
        refine lv_iload_n hx hb dL_turns_19 rfl (lv_at hl 3 rfl) ?_
        refine lv_iconst (v := 1) hx hb dL_turns_20 (by decide) ?_
        refine lv_iadd hx hb dL_turns_21 ?_
        refine lv_iconst (v := 4) hx hb dL_turns_22 (by decide) ?_
        refine lv_irem hx hb dL_turns_23 (by decide) ?_
        refine lv_iadd hx hb dL_turns_24 ?_
        refine lv_topi (fun w15 e_w15 => ?_)
        have h := g_let2 e_w15 h
        refine lv_istore (lv' := [(4, .int w15), (0, .ref (xN X + o1)), (1, .int a2), (2, .int 1), (3, .int x3)]) hx hb dL_turns_25 hl (by decide) rfl (fun ls hl => ?_)
        refine lv_aload_n hx hb dL_turns_27 rfl (lv_at hl 1 rfl) ?_
        refine lv_iload_n hx hb dL_turns_28 rfl (lv_at hl 2 rfl) ?_
        refine lv_iload hx hb dL_turns_29 (lv_at hl 0 rfl) ?_
        refine lv_iconst (v := 1) hx hb dL_turns_31 (by decide) ?_
        refine lv_iconst (v := 0) hx hb dL_turns_32 (by decide) ?_
        obtain ⟨v16, e_v16, h⟩ := g_bind h
        refine g_calli (g_runV (n := 4) (As := [.int a2, .int w15, .int 1, .int 0]) (rest := []) C G (mX8_edge l X σ o1 a2 w15 1 0 v16 ok1 e_v16) ok1.1.2 (gE_8 ok1.1.1) rfl (g_goodV u_ml_RL_9 u_im_yX8_edge u_se_yX8_edge u_in_RX8 u_co_yX8_edge) rfl rfl rfl (by decide +kernel) ⟨Nat.le_of_ble_eq_true rfl, Nat.le_of_ble_eq_true rfl⟩ rfl hl.1 rfl (Nat.le_of_ble_eq_true rfl) dL_turns_33 ⟨Nat.zero_le _, Nat.zero_le _⟩) G (fun H locs G => ?_)
        refine lv_aload_n hx hb dL_turns_36 rfl (lv_at hl 1 rfl) ?_
        refine lv_iload_n hx hb dL_turns_37 rfl (lv_at hl 2 rfl) ?_
        refine lv_iload_n hx hb dL_turns_38 rfl (lv_at hl 4 rfl) ?_
        refine lv_iconst (v := 0) hx hb dL_turns_39 (by decide) ?_
        refine lv_iconst (v := 0) hx hb dL_turns_40 (by decide) ?_
        obtain ⟨v17, e_v17, h⟩ := g_bind h
        refine g_calli (g_runV (n := 4) (As := [.int a2, .int x3, .int 0, .int 0]) (rest := [.int v16]) C G (mX8_edge l X σ o1 a2 x3 0 0 v17 ok1 e_v17) ok1.1.2 (gE_8 ok1.1.1) rfl (g_goodV u_ml_RL_9 u_im_yX8_edge u_se_yX8_edge u_in_RX8 u_co_yX8_edge) rfl rfl rfl (by decide +kernel) ⟨Nat.le_of_ble_eq_true rfl, Nat.le_of_ble_eq_true rfl⟩ rfl hl.1 rfl (Nat.le_of_ble_eq_true rfl) dL_turns_41 ⟨Nat.zero_le _, Nat.zero_le _⟩) G (fun H locs G => ?_)
        refine lv_icmp_ne (tgt := 117) hx hb dL_turns_44 (by decide) (fun c18 => ?_) (fun c18 => ?_)
        · have h := g_if h c18
          cases h
        · have h := g_it h c18
          refine lv_aload_n hx hb dL_turns_47 rfl (lv_at hl 1 rfl) ?_
          refine lv_iload_n hx hb dL_turns_48 rfl (lv_at hl 2 rfl) ?_
          refine lv_iload hx hb dL_turns_49 (lv_at hl 0 rfl) ?_
          refine lv_iconst (v := 3) hx hb dL_turns_51 (by decide) ?_
          refine lv_iconst (v := 0) hx hb dL_turns_52 (by decide) ?_
          obtain ⟨v19, e_v19, h⟩ := g_bind h
          refine g_calli (g_runV (n := 4) (As := [.int a2, .int w15, .int 3, .int 0]) (rest := []) C G (mX8_edge l X σ o1 a2 w15 3 0 v19 ok1 e_v19) ok1.1.2 (gE_8 ok1.1.1) rfl (g_goodV u_ml_RL_9 u_im_yX8_edge u_se_yX8_edge u_in_RX8 u_co_yX8_edge) rfl rfl rfl (by decide +kernel) ⟨Nat.le_of_ble_eq_true rfl, Nat.le_of_ble_eq_true rfl⟩ rfl hl.1 rfl (Nat.le_of_ble_eq_true rfl) dL_turns_53 ⟨Nat.zero_le _, Nat.zero_le _⟩) G (fun H locs G => ?_)
          refine lv_aload_n hx hb dL_turns_56 rfl (lv_at hl 1 rfl) ?_
          refine lv_iload_n hx hb dL_turns_57 rfl (lv_at hl 2 rfl) ?_
          refine lv_iload_n hx hb dL_turns_58 rfl (lv_at hl 4 rfl) ?_
          refine lv_iconst (v := 2) hx hb dL_turns_59 (by decide) ?_
          refine lv_iconst (v := 0) hx hb dL_turns_60 (by decide) ?_
          obtain ⟨v20, e_v20, h⟩ := g_bind h
          refine g_calli (g_runV (n := 4) (As := [.int a2, .int x3, .int 2, .int 0]) (rest := [.int v19]) C G (mX8_edge l X σ o1 a2 x3 2 0 v20 ok1 e_v20) ok1.1.2 (gE_8 ok1.1.1) rfl (g_goodV u_ml_RL_9 u_im_yX8_edge u_se_yX8_edge u_in_RX8 u_co_yX8_edge) rfl rfl rfl (by decide +kernel) ⟨Nat.le_of_ble_eq_true rfl, Nat.le_of_ble_eq_true rfl⟩ rfl hl.1 rfl (Nat.le_of_ble_eq_true rfl) dL_turns_61 ⟨Nat.zero_le _, Nat.zero_le _⟩) G (fun H locs G => ?_)
          refine lv_icmp_ne (tgt := 117) hx hb dL_turns_64 (by decide) (fun c21 => ?_) (fun c21 => ?_)
          · have h := g_if h c21
            cases h
          · have h := g_it h c21
            refine lv_aload_n hx hb dL_turns_67 rfl (lv_at hl 1 rfl) ?_
            refine lv_iload_n hx hb dL_turns_68 rfl (lv_at hl 2 rfl) ?_
            refine lv_iload hx hb dL_turns_69 (lv_at hl 0 rfl) ?_
            refine lv_iconst (v := 0) hx hb dL_turns_71 (by decide) ?_
            refine lv_iconst (v := 0) hx hb dL_turns_72 (by decide) ?_
            obtain ⟨v22, e_v22, h⟩ := g_bind h
            refine g_calli (g_runV (n := 4) (As := [.int a2, .int w15, .int 0, .int 0]) (rest := []) C G (mX8_edge l X σ o1 a2 w15 0 0 v22 ok1 e_v22) ok1.1.2 (gE_8 ok1.1.1) rfl (g_goodV u_ml_RL_9 u_im_yX8_edge u_se_yX8_edge u_in_RX8 u_co_yX8_edge) rfl rfl rfl (by decide +kernel) ⟨Nat.le_of_ble_eq_true rfl, Nat.le_of_ble_eq_true rfl⟩ rfl hl.1 rfl (Nat.le_of_ble_eq_true rfl) dL_turns_73 ⟨Nat.zero_le _, Nat.zero_le _⟩) G (fun H locs G => ?_)
            refine lv_aload_n hx hb dL_turns_76 rfl (lv_at hl 1 rfl) ?_
            refine lv_iload_n hx hb dL_turns_77 rfl (lv_at hl 2 rfl) ?_
            refine lv_iload_n hx hb dL_turns_78 rfl (lv_at hl 4 rfl) ?_
            refine lv_iconst (v := 3) hx hb dL_turns_79 (by decide) ?_
            refine lv_iconst (v := 0) hx hb dL_turns_80 (by decide) ?_
            obtain ⟨v23, e_v23, h⟩ := g_bind h
            refine g_calli (g_runV (n := 4) (As := [.int a2, .int x3, .int 3, .int 0]) (rest := [.int v22]) C G (mX8_edge l X σ o1 a2 x3 3 0 v23 ok1 e_v23) ok1.1.2 (gE_8 ok1.1.1) rfl (g_goodV u_ml_RL_9 u_im_yX8_edge u_se_yX8_edge u_in_RX8 u_co_yX8_edge) rfl rfl rfl (by decide +kernel) ⟨Nat.le_of_ble_eq_true rfl, Nat.le_of_ble_eq_true rfl⟩ rfl hl.1 rfl (Nat.le_of_ble_eq_true rfl) dL_turns_81 ⟨Nat.zero_le _, Nat.zero_le _⟩) G (fun H locs G => ?_)
            obtain ⟨v24, e_v24, h⟩ := g_bind h
            refine g_calli (g_runS (n := 1) (As := [.int v23]) (rest := [.int v22]) C G (mL_back l X σ v23 v24 e_v24) (g_goodS u_ml_RL_15 u_st_yL_back u_in_RL u_co_yL_back) rfl rfl rfl (by decide +kernel) ⟨Nat.le_of_ble_eq_true rfl, Nat.le_of_ble_eq_true rfl⟩ rfl hl.1 rfl (Nat.le_of_ble_eq_true rfl) dL_turns_84 ⟨Nat.zero_le _, Nat.zero_le _⟩) G (fun H locs G => ?_)
            refine lv_icmp_ne (tgt := 117) hx hb dL_turns_87 (by decide) (fun c25 => ?_) (fun c25 => ?_)
            · have h := g_if h c25
              cases h
            · have h := g_it h c25
              refine lv_aload_n hx hb dL_turns_90 rfl (lv_at hl 1 rfl) ?_
              refine lv_iload_n hx hb dL_turns_91 rfl (lv_at hl 2 rfl) ?_
              refine lv_iload hx hb dL_turns_92 (lv_at hl 0 rfl) ?_
              refine lv_iconst (v := 2) hx hb dL_turns_94 (by decide) ?_
              refine lv_iconst (v := 0) hx hb dL_turns_95 (by decide) ?_
              obtain ⟨v26, e_v26, h⟩ := g_bind h
              refine g_calli (g_runV (n := 4) (As := [.int a2, .int w15, .int 2, .int 0]) (rest := []) C G (mX8_edge l X σ o1 a2 w15 2 0 v26 ok1 e_v26) ok1.1.2 (gE_8 ok1.1.1) rfl (g_goodV u_ml_RL_9 u_im_yX8_edge u_se_yX8_edge u_in_RX8 u_co_yX8_edge) rfl rfl rfl (by decide +kernel) ⟨Nat.le_of_ble_eq_true rfl, Nat.le_of_ble_eq_true rfl⟩ rfl hl.1 rfl (Nat.le_of_ble_eq_true rfl) dL_turns_96 ⟨Nat.zero_le _, Nat.zero_le _⟩) G (fun H locs G => ?_)
              refine lv_aload_n hx hb dL_turns_99 rfl (lv_at hl 1 rfl) ?_
              refine lv_iload_n hx hb dL_turns_100 rfl (lv_at hl 2 rfl) ?_
              refine lv_iload_n hx hb dL_turns_101 rfl (lv_at hl 4 rfl) ?_
              refine lv_iconst (v := 1) hx hb dL_turns_102 (by decide) ?_
              refine lv_iconst (v := 0) hx hb dL_turns_103 (by decide) ?_
              obtain ⟨v27, e_v27, h⟩ := g_bind h
              refine g_calli (g_runV (n := 4) (As := [.int a2, .int x3, .int 1, .int 0]) (rest := [.int v26]) C G (mX8_edge l X σ o1 a2 x3 1 0 v27 ok1 e_v27) ok1.1.2 (gE_8 ok1.1.1) rfl (g_goodV u_ml_RL_9 u_im_yX8_edge u_se_yX8_edge u_in_RX8 u_co_yX8_edge) rfl rfl rfl (by decide +kernel) ⟨Nat.le_of_ble_eq_true rfl, Nat.le_of_ble_eq_true rfl⟩ rfl hl.1 rfl (Nat.le_of_ble_eq_true rfl) dL_turns_104 ⟨Nat.zero_le _, Nat.zero_le _⟩) G (fun H locs G => ?_)
              obtain ⟨v28, e_v28, h⟩ := g_bind h
              refine g_calli (g_runS (n := 1) (As := [.int v27]) (rest := [.int v26]) C G (mL_back l X σ v27 v28 e_v28) (g_goodS u_ml_RL_15 u_st_yL_back u_in_RL u_co_yL_back) rfl rfl rfl (by decide +kernel) ⟨Nat.le_of_ble_eq_true rfl, Nat.le_of_ble_eq_true rfl⟩ rfl hl.1 rfl (Nat.le_of_ble_eq_true rfl) dL_turns_107 ⟨Nat.zero_le _, Nat.zero_le _⟩) G (fun H locs G => ?_)
              refine lv_icmp_ne (tgt := 117) hx hb dL_turns_110 (by decide) (fun c29 => ?_) (fun c29 => ?_)
              · have h := g_if h c29
                cases h
              · have h := g_it h c29
                refine lv_iconst (v := 1) hx hb dL_turns_113 (by decide) ?_
                refine lv_goto (tgt := 118) hx hb dL_turns_114 (by decide) ?_
                refine lv_istore_n (lv' := [(2, .int 1), (4, .int w15), (0, .ref (xN X + o1)), (1, .int a2), (3, .int x3)]) hx hb dL_turns_118 rfl hl (by decide) rfl (fun ls hl => ?_)
                refine lv_iconst (v := 0) hx hb dL_turns_119 (by decide) ?_
                refine lv_istore (lv' := [(5, .int 0), (2, .int 1), (4, .int w15), (0, .ref (xN X + o1)), (1, .int a2), (3, .int x3)]) hx hb dL_turns_120 hl (by decide) rfl (fun ls hl => ?_)
                exact L122 (fun σ2 y3 => fL_turns_4 o1 a2 n σ2 y3) (fun H locs ls σ2 y3 G hl h => ih H locs ls σ2 y3 G hl h) gF _ _ _ σ x3 w15 0 G (lv_sub hl [3, 4, 1, 5, 2, 0] rfl) h
  unfold fL_turns at h
  refine lv_iconst (v := 1) hx hb dL_turns_0 (by decide) ?_
  refine lv_istore_n (lv' := [(2, .int 1), (0, .ref (xN X + o1)), (1, .int a2)]) hx hb dL_turns_1 rfl hl (by decide) rfl (fun ls hl => ?_)
  refine lv_iconst (v := 0) hx hb dL_turns_2 (by decide) ?_
  refine lv_istore_n (lv' := [(3, .int 0), (2, .int 1), (0, .ref (xN X + o1)), (1, .int a2)]) hx hb dL_turns_3 rfl hl (by decide) rfl (fun ls hl => ?_)
  exact L4  gF _ _ _ σ 0 G (lv_sub hl [2, 3, 1, 0] rfl) h
