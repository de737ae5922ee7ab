/-! THE REFERENCE'S CONSTRUCTOR -/
def gl9 (t : Nat) : Prop := gkd t = 9 ∧ ((gkd (t + 1) = 10 ∧ gln (t + 1) = 135) ∧ (gkd (t + 2) = 10 ∧ gln (t + 2) = 675) ∧ (gkd (t + 3) = 11 ∧ gln (t + 3) = 60) ∧ (gkd (t + 4) = 10 ∧ gln (t + 4) = 4) ∧ (gkd (t + 5) = 10 ∧ gln (t + 5) = 4) ∧ (gkd (t + 6) = 10 ∧ gln (t + 6) = 9) ∧ (gkd (t + 7) = 10 ∧ gln (t + 7) = 12) ∧ (gkd (t + 8) = 10 ∧ gln (t + 8) = 6) ∧ (gkd (t + 9) = 10 ∧ gln (t + 9) = 135))
theorem gok_9 {X : gX} {t : Nat} (h : gl9 t) (h1 : xlo X ≤ t) (h2 : t + 10 ≤ xhi X) (hs : ∀ j, j < 12 → xst X t j = true) : gok9 X t := ⟨⟨h.1, h1, by omega⟩, ⟨hs 0 (by decide), hs 1 (by decide), hs 3 (by decide), hs 5 (by decide), hs 6 (by decide), hs 7 (by decide), hs 8 (by decide), hs 10 (by decide), hs 11 (by decide)⟩, ⟨⟨h.2.1.1, by omega, by omega⟩, ⟨h.2.2.1.1, by omega, by omega⟩, ⟨h.2.2.2.1.1, by omega, by omega⟩, ⟨h.2.2.2.2.1.1, by omega, by omega⟩, ⟨h.2.2.2.2.2.1.1, by omega, by omega⟩, ⟨h.2.2.2.2.2.2.1.1, by omega, by omega⟩, ⟨h.2.2.2.2.2.2.2.1.1, by omega, by omega⟩, ⟨h.2.2.2.2.2.2.2.2.1.1, by omega, by omega⟩, ⟨h.2.2.2.2.2.2.2.2.2.1, by omega, by omega⟩⟩⟩
def mst (st : Nat → Nat → Bool) (t v : Nat) : Nat → Nat → Bool := fun a b => if a = t ∧ b < v then true else st a b
theorem mst_0 {st : Nat → Nat → Bool} {t a b : Nat} : mst st t 0 a b = st a b := if_neg (by omega)
theorem mst_s {st : Nat → Nat → Bool} {t v j a b : Nat} (h : a = t → b < v ∨ b = j ∨ j < b) (hv : v ≤ j) : mst st t (j + 1) a b = sset (mst st t v) t j a b := by
  unfold sset mst
  by_cases e : a = t
  · rcases h e with q | q | q
    · rw [if_pos (by omega), if_neg (by omega), if_pos (by omega)]
    · rw [if_pos (by omega), if_pos (by omega)]
    · rw [if_neg (by omega), if_neg (by omega), if_neg (by omega)]
  · rw [if_neg (by omega), if_neg (by omega), if_neg (by omega)]
theorem mst_f {u : Nat} {st : Nat → Nat → Bool} {σ : gM} {t v j : Nat} (F : qFr u (sset (mst st t v) t j) σ) (ht : t < u) : qFr u (mst st t (j + 1)) σ := ⟨F.1, fun a b q => by
  have h1 := F.2 a b q
  unfold sset at h1
  rw [if_neg (by omega)] at h1
  unfold mst at h1 ⊢
  rw [if_neg (by omega)] at h1 ⊢
  exact h1⟩
theorem g_iastZ {p : Program} {l : Launch} {e : Env} {R : Room} {s : State} {m : MethodId} {args : Array Value} {below : List Frame} {meth : Method} {c : Code} {H : Heap} {locs : List Loc} {cells slots : Nat} {Q : State → Prop} {cc : ByteArray} {pc nL : Nat} {ls : Array Slot} {rest : List Value} {own : String} {X : gX} {σ : gM} {t : Nat} {i x : Int32} (K : gC X p s m args c cc nL own) (G : gG X σ s H locs) (ht : gkd t = 10 ∧ xlo X ≤ t ∧ t < xhi X) (hi : ¬ (i < 0 ∨ gln t ≤ i.toNatClampNeg)) (hdg : decode cc pc = .ok (.iastore, 1))
    (kk : ∀ (H1 : Heap) (locs1 : List Loc), gG X (gset σ t (upd (σ t) i.toNatClampNeg x)) s H1 locs1 → H1.size = H.size → W p l e R s m args below meth c H1 locs1 cells slots Q (F0 m (pc + 1) ls rest)) : W p l e R s m args below meth c H locs cells slots Q (F0 m pc ls (.int x :: .int i :: .ref (xN X + t) :: rest)) := by
  have ha := (gws_at (σ := σ) ht.2.1 ht.2.2).trans (congrArg (fun q => some (xN X + t, q)) (gE_10 ht.1))
  refine W.iast K.1.1 K.1.2.1 (G.1 _ _ ha) ((K.2.1.2 0 _ rfl).1 (gln t) (fun j => .int (σ t j))) (fun q => by cases q) (by show ¬ (i < 0 ∨ (arrV _ _ _).slots.size ≤ _); rw [arrV_size]; exact hi) rfl rfl hdg fun H1 e z oq => ?_
  have hat : va_at (xD X) vwCl (xN X + t, .inl (xI X, gln t, .inl (upd (σ t) i.toNatClampNeg x))) H1 := by
    show H1[xN X + t]? = some (vp_cell _ _)
    rw [e]
    rw [vp_cell_i, vp_cell_i, arrV_store]
    congr 2
    funext q
    by_cases hq : q = i.toNatClampNeg
    · subst hq
      simp [updV, upd]
    · simp [updV, upd, hq]
  have hP := G.1.set G.2.1 ha hat oq
  have hD : va_D (xA X) ((gws X σ).set ((xw X).length + (t - xlo X)) (xN X + t, .inl (xI X, gln t, .inl (upd (σ t) i.toNatClampNeg x)))) := G.2.1.set ha
  rw [gws_set ht.2.1 ht.2.2 (gE_set ((gE_10 ht.1).trans (by rw [gset_at])))] at hP hD
  exact kk H1 _ ⟨hP, hD, G.2.2.put z oq (G.2.1.2 _ _ ha)⟩ z
def fX9_init (σ : gM) (t : Nat) : gM := gset (gset σ (t + 1) (upd (σ (t + 1)) 0 4)) (t + 1) (upd (gset σ (t + 1) (upd (σ (t + 1)) 0 4) (t + 1)) 1 4)
set_option maxHeartbeats 1000000 in
set_option maxRecDepth 100000 in
theorem nX9_init (l : Launch) (B : gBs) (st : Nat → Nat → Bool) (σ : gM) (t : Nat) (hg : gl9 t) (hlo : blo B ≤ t) (F : qFr (t + 1) st σ) : Met l yX9_init (Cond.code yX9_init cX9_init 1 none :: gBig) ({ frames := 1, cells := 9, slots := 1040, locals := 24 }) (kPc (xmk B (t + 1) st) σ [.ref (bN B + t)]) (kQv (xmk B (t + 1) st) (xmk B (t + 10) (mst st t 12)) (fX9_init σ t)) 9 1040 (bA B) := by
  refine q_met (cc := cX9_init) (maxL := 1) (own := RX9) (by decide) rfl rfl rfl (Nat.le_of_ble_eq_true rfl) ?_
  intro p ev s m args below meth c Q C G Z hA hin ret ls hl
  obtain ⟨⟨hx, hb, hml, hown, hts⟩, hK⟩ := id C
  have hl : lv_has ls 1 [(0, .ref (bN B + t))] := hl
  have hneed : ∀ a b, a = t → gneed (gkd a) b = true → b = 0 ∨ b = 1 ∨ b = 3 ∨ b = 5 ∨ b = 6 ∨ b = 7 ∨ b = 8 ∨ b = 10 ∨ b = 11 := by
    intro a b e q
    rw [e, hg.1] at q
    simpa [gneed, or_assoc] using q
  have G := q_fin (st' := mst st t 0) G (fun a b _ _ => mst_0)
  have F : qFr (t + 1) (mst st t 0) σ := ⟨F.1, fun a b q => mst_0.trans (F.2 a b q)⟩
  refine lv_aload_n hx hb dX9_init_0 rfl (lv_at hl 0 rfl) ?_
  refine k_objInit C hl.1 u_ml_RX9_1 dX9_init_1 (Nat.le_of_ble_eq_true rfl) (Nat.le_of_ble_eq_true rfl) ?_
  refine lv_aload_n hx hb dX9_init_4 rfl (lv_at hl 0 rfl) ?_
  refine lv_sipush (v := 135) hx hb dX9_init_5 (by decide) ?_
  refine q_newI (k := t + 1) (u := t + 2) (N := 135) (q_C C) G Z rfl (by omega) hA hg.2.1.1 hg.2.1.2 F (by decide) (by decide) (by decide) (Nat.le_of_ble_eq_true rfl) (Nat.le_of_ble_eq_true rfl) dX9_init_8 (fun H G Z => ?_)
  have F := q_fr_grow (u := t + 2) F (by omega)
  refine kq9_0 (q_C C) G ⟨hg.1, hlo, (by omega)⟩ hin u_fl_RX9_7 dX9_init_10 (fun H locs G Z2 => ?_)
  have Z := Z2.trans Z
  have F := mst_f (q_fr_set (k := t) (j := 0) F (by omega)) (by omega)
  have G := q_fin (st' := mst st t 1) G (fun a b _ q3 => mst_s (v := 0) (fun e => by have := hneed a b e q3; omega) (by omega))
  refine lv_aload_n hx hb dX9_init_13 rfl (lv_at hl 0 rfl) ?_
  refine lv_sipush (v := 675) hx hb dX9_init_14 (by decide) ?_
  refine q_newI (k := t + 2) (u := t + 3) (N := 675) (q_C C) G Z rfl (by omega) hA hg.2.2.1.1 hg.2.2.1.2 F (by decide) (by decide) (by decide) (Nat.le_of_ble_eq_true rfl) (Nat.le_of_ble_eq_true rfl) dX9_init_17 (fun H G Z => ?_)
  have F := q_fr_grow (u := t + 3) F (by omega)
  refine kq9_1 (q_C C) G ⟨hg.1, hlo, (by omega)⟩ hin u_fl_RX9_13 dX9_init_19 (fun H locs G Z2 => ?_)
  have Z := Z2.trans Z
  have F := mst_f (q_fr_set (k := t) (j := 1) F (by omega)) (by omega)
  have G := q_fin (st' := mst st t 2) G (fun a b _ q3 => mst_s (v := 1) (fun e => by have := hneed a b e q3; omega) (by omega))
  refine lv_aload_n hx hb dX9_init_22 rfl (lv_at hl 0 rfl) ?_
  refine lv_bipush (v := 60) hx hb dX9_init_23 (by decide) ?_
  refine q_newC (k := t + 3) (u := t + 4) (N := 60) (q_C C) G Z rfl (by omega) hA hg.2.2.2.1.1 hg.2.2.2.1.2 F (by decide) (by decide) (by decide) (Nat.le_of_ble_eq_true rfl) (Nat.le_of_ble_eq_true rfl) dX9_init_25 (fun H G Z => ?_)
  have F := q_fr_grow (u := t + 4) F (by omega)
  refine kq9_3 (q_C C) G ⟨hg.1, hlo, (by omega)⟩ hin u_fl_RX9_16 dX9_init_27 (fun H locs G Z2 => ?_)
  have Z := Z2.trans Z
  have F := mst_f (q_fr_set (k := t) (j := 3) F (by omega)) (by omega)
  have G := q_fin (st' := mst st t 4) G (fun a b _ q3 => mst_s (v := 2) (fun e => by have := hneed a b e q3; omega) (by omega))
  refine lv_aload_n hx hb dX9_init_30 rfl (lv_at hl 0 rfl) ?_
  refine lv_iconst (v := 4) hx hb dX9_init_31 (by decide) ?_
  refine q_newI (k := t + 4) (u := t + 5) (N := 4) (q_C C) G Z rfl (by omega) hA hg.2.2.2.2.1.1 hg.2.2.2.2.1.2 F (by decide) (by decide) (by decide) (Nat.le_of_ble_eq_true rfl) (Nat.le_of_ble_eq_true rfl) dX9_init_32 (fun H G Z => ?_)
  have F := q_fr_grow (u := t + 5) F (by omega)
  refine kq9_5 (q_C C) G ⟨hg.1, hlo, (by omega)⟩ hin u_fl_RX9_20 dX9_init_34 (fun H locs G Z2 => ?_)
  have Z := Z2.trans Z
  have F := mst_f (q_fr_set (k := t) (j := 5) F (by omega)) (by omega)
  have G := q_fin (st' := mst st t 6) G (fun a b _ q3 => mst_s (v := 4) (fun e => by have := hneed a b e q3; omega) (by omega))
  refine lv_aload_n hx hb dX9_init_37 rfl (lv_at hl 0 rfl) ?_
  refine lv_iconst (v := 4) hx hb dX9_init_38 (by decide) ?_
  refine q_newI (k := t + 5) (u := t + 6) (N := 4) (q_C C) G Z rfl (by omega) hA hg.2.2.2.2.2.1.1 hg.2.2.2.2.2.1.2 F (by decide) (by decide) (by decide) (Nat.le_of_ble_eq_true rfl) (Nat.le_of_ble_eq_true rfl) dX9_init_39 (fun H G Z => ?_)
  have F := q_fr_grow (u := t + 6) F (by omega)
  refine kq9_6 (q_C C) G ⟨hg.1, hlo, (by omega)⟩ hin u_fl_RX9_23 dX9_init_41 (fun H locs G Z2 => ?_)
  have Z := Z2.trans Z
  have F := mst_f (q_fr_set (k := t) (j := 6) F (by omega)) (by omega)
  have G := q_fin (st' := mst st t 7) G (fun a b _ q3 => mst_s (v := 6) (fun e => by have := hneed a b e q3; omega) (by omega))
  refine lv_aload_n hx hb dX9_init_44 rfl (lv_at hl 0 rfl) ?_
  refine lv_bipush (v := 9) hx hb dX9_init_45 (by decide) ?_
  refine q_newI (k := t + 6) (u := t + 7) (N := 9) (q_C C) G Z rfl (by omega) hA hg.2.2.2.2.2.2.1.1 hg.2.2.2.2.2.2.1.2 F (by decide) (by decide) (by decide) (Nat.le_of_ble_eq_true rfl) (Nat.le_of_ble_eq_true rfl) dX9_init_47 (fun H G Z => ?_)
  have F := q_fr_grow (u := t + 7) F (by omega)
  refine kq9_7 (q_C C) G ⟨hg.1, hlo, (by omega)⟩ hin u_fl_RX9_26 dX9_init_49 (fun H locs G Z2 => ?_)
  have Z := Z2.trans Z
  have F := mst_f (q_fr_set (k := t) (j := 7) F (by omega)) (by omega)
  have G := q_fin (st' := mst st t 8) G (fun a b _ q3 => mst_s (v := 7) (fun e => by have := hneed a b e q3; omega) (by omega))
  refine lv_aload_n hx hb dX9_init_52 rfl (lv_at hl 0 rfl) ?_
  refine lv_bipush (v := 12) hx hb dX9_init_53 (by decide) ?_
  refine q_newI (k := t + 7) (u := t + 8) (N := 12) (q_C C) G Z rfl (by omega) hA hg.2.2.2.2.2.2.2.1.1 hg.2.2.2.2.2.2.2.1.2 F (by decide) (by decide) (by decide) (Nat.le_of_ble_eq_true rfl) (Nat.le_of_ble_eq_true rfl) dX9_init_55 (fun H G Z => ?_)
  have F := q_fr_grow (u := t + 8) F (by omega)
  refine kq9_8 (q_C C) G ⟨hg.1, hlo, (by omega)⟩ hin u_fl_RX9_29 dX9_init_57 (fun H locs G Z2 => ?_)
  have Z := Z2.trans Z
  have F := mst_f (q_fr_set (k := t) (j := 8) F (by omega)) (by omega)
  have G := q_fin (st' := mst st t 9) G (fun a b _ q3 => mst_s (v := 8) (fun e => by have := hneed a b e q3; omega) (by omega))
  refine lv_aload_n hx hb dX9_init_60 rfl (lv_at hl 0 rfl) ?_
  refine lv_bipush (v := 6) hx hb dX9_init_61 (by decide) ?_
  refine q_newI (k := t + 8) (u := t + 9) (N := 6) (q_C C) G Z rfl (by omega) hA hg.2.2.2.2.2.2.2.2.1.1 hg.2.2.2.2.2.2.2.2.1.2 F (by decide) (by decide) (by decide) (Nat.le_of_ble_eq_true rfl) (Nat.le_of_ble_eq_true rfl) dX9_init_63 (fun H G Z => ?_)
  have F := q_fr_grow (u := t + 9) F (by omega)
  refine kq9_10 (q_C C) G ⟨hg.1, hlo, (by omega)⟩ hin u_fl_RX9_32 dX9_init_65 (fun H locs G Z2 => ?_)
  have Z := Z2.trans Z
  have F := mst_f (q_fr_set (k := t) (j := 10) F (by omega)) (by omega)
  have G := q_fin (st' := mst st t 11) G (fun a b _ q3 => mst_s (v := 9) (fun e => by have := hneed a b e q3; omega) (by omega))
  refine lv_aload_n hx hb dX9_init_68 rfl (lv_at hl 0 rfl) ?_
  refine lv_sipush (v := 135) hx hb dX9_init_69 (by decide) ?_
  refine q_newI (k := t + 9) (u := t + 10) (N := 135) (q_C C) G Z rfl (by omega) hA hg.2.2.2.2.2.2.2.2.2.1 hg.2.2.2.2.2.2.2.2.2.2 F (by decide) (by decide) (by decide) (Nat.le_of_ble_eq_true rfl) (Nat.le_of_ble_eq_true rfl) dX9_init_72 (fun H G Z => ?_)
  have F := q_fr_grow (u := t + 10) F (by omega)
  refine kq9_11 (q_C C) G ⟨hg.1, hlo, (by omega)⟩ hin u_fl_RX9_35 dX9_init_74 (fun H locs G Z2 => ?_)
  have Z := Z2.trans Z
  have F := mst_f (q_fr_set (k := t) (j := 11) F (by omega)) (by omega)
  have G := q_fin (st' := mst st t 12) G (fun a b _ q3 => mst_s (v := 11) (fun e => by have := hneed a b e q3; omega) (by omega))
  have hs0 : xst (xmk B (t + 10) (mst st t 12)) t 0 = true := if_pos ⟨rfl, by decide⟩
  refine lv_aload_n hx hb dX9_init_77 rfl (lv_at hl 0 rfl) ?_
  refine gg9_0 (X := xmk B (t + 10) (mst st t 12)) (q_C C) G ⟨hg.1, hlo, (by show t < t + 10; omega)⟩ hs0 u_fl_RX9_7 dX9_init_78 ?_
  refine lv_iconst (v := 0) hx hb dX9_init_81 (by decide) ?_
  refine lv_iconst (v := 4) hx hb dX9_init_82 (by decide) ?_
  refine g_iastZ (X := xmk B (t + 10) (mst st t 12)) (q_C C) G ⟨hg.2.1.1, (by show blo B ≤ t + 1; omega), (by show t + 1 < t + 10; omega)⟩ (by rw [hg.2.1.2]; decide) dX9_init_83 (fun H locs G Z2 => ?_)
  have Z := Z2.trans Z
  refine lv_aload_n hx hb dX9_init_84 rfl (lv_at hl 0 rfl) ?_
  refine gg9_0 (X := xmk B (t + 10) (mst st t 12)) (q_C C) G ⟨hg.1, hlo, (by show t < t + 10; omega)⟩ hs0 u_fl_RX9_7 dX9_init_85 ?_
  refine lv_iconst (v := 1) hx hb dX9_init_88 (by decide) ?_
  refine lv_iconst (v := 4) hx hb dX9_init_89 (by decide) ?_
  refine g_iastZ (X := xmk B (t + 10) (mst st t 12)) (q_C C) G ⟨hg.2.1.1, (by show blo B ≤ t + 1; omega), (by show t + 1 < t + 10; omega)⟩ (by rw [hg.2.1.2]; decide) dX9_init_90 (fun H locs G Z2 => ?_)
  have Z := Z2.trans Z
  refine W.widen (k := 9) (n := 1040) (by omega) (by omega) ?_
  exact ret dX9_init_91 G Z
