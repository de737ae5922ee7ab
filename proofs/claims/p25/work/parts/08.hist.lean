/-! THE HISTORY'S CONSTRUCTOR: five desks, one after the other -/
def hst (st : Nat → Nat → Bool) (t j : Nat) : Nat → Nat → Bool := fun a b => if a = t ∧ b = 0 then true else if a = t + 1 ∧ b < j then true else if t + 2 ≤ a ∧ a < t + 2 + 15 * j then true else st a b
def fX3_loop (t : Nat) : Nat → Nat → gM → Option gM
  | 0, _, σ => some σ
  | r + 1, j, σ => (fX0_init σ (t + 1 + (1 + 15 * j))).bind fun σ1 => fX3_loop t r (j + 1) σ1
theorem fX3_loop_of {σ σ' : gM} {t : Nat} (h : fX3_init σ t = some σ') : fX3_loop t 5 0 σ = some σ' := by
  unfold fX3_init at h
  obtain ⟨σ1, h1, h⟩ := g_bind h
  obtain ⟨σ2, h2, h⟩ := g_bind h
  obtain ⟨σ3, h3, h⟩ := g_bind h
  obtain ⟨σ4, h4, h⟩ := g_bind h
  rw [fX3_loop, h1, Option.bind_some, fX3_loop, h2, Option.bind_some, fX3_loop, h3, Option.bind_some, fX3_loop, h4, Option.bind_some, fX3_loop, h, Option.bind_some, fX3_loop]
theorem hst_5 {st : Nat → Nat → Bool} {t k j : Nat} (hj : k = t → j = 0) (hj2 : k = t + 1 → j < 5) : sdone st t (t + 77) k j = hst st t 5 k j := by
  unfold sdone hst
  by_cases e : k = t
  · have := hj e
    rw [if_pos (by omega), if_pos (by omega)]
  · by_cases e2 : k = t + 1
    · have := hj2 e2
      rw [if_pos (by omega), if_neg (by omega), if_pos (by omega)]
    · by_cases e3 : t + 2 ≤ k ∧ k < t + 77
      · rw [if_pos (by omega), if_neg (by omega), if_neg (by omega), if_pos (by omega)]
      · rw [if_neg (by omega), if_neg (by omega), if_neg (by omega), if_neg (by omega)]
theorem hst_s {st : Nat → Nat → Bool} {t i k j : Nat} : hst st t (i + 1) k j = sset (sdone (hst st t i) (t + 1 + (1 + 15 * i)) (t + 1 + (1 + 15 * i) + 15)) (t + 1) i k j := by
  unfold sset sdone hst
  by_cases e : k = t ∧ j = 0
  · rw [if_pos e]
    rw [if_neg (by omega), if_neg (by omega), if_pos e]
  · rw [if_neg e]
    by_cases e2 : k = t + 1 ∧ j = i
    · rw [if_pos (by omega), if_pos e2]
    · rw [if_neg e2]
      by_cases e3 : t + 1 + (1 + 15 * i) ≤ k ∧ k < t + 1 + (1 + 15 * i) + 15
      · rw [if_neg (by omega), if_pos (by omega), if_pos e3]
      · rw [if_neg e3, if_neg e]
        by_cases e4 : k = t + 1 ∧ j < i
        · rw [if_pos (by omega), if_pos e4]
        · rw [if_neg (by omega), if_neg e4]
          by_cases e5 : t + 2 ≤ k ∧ k < t + 2 + 15 * i
          · rw [if_pos (by omega), if_pos e5]
          · rw [if_neg (by omega), if_neg e5]
theorem hst_0 {st : Nat → Nat → Bool} {t k j : Nat} : hst st t 0 k j = sset st t 0 k j := by
  unfold sset hst
  by_cases e : k = t ∧ j = 0
  · rw [if_pos e, if_pos e]
  · rw [if_neg e, if_neg e, if_neg (by omega), if_neg (by omega)]
set_option maxHeartbeats 4000000 in
set_option maxRecDepth 100000 in
theorem nX3_loop {l : Launch} {B : gBs} {st : Nat → Nat → Bool} {σ' : gM} {t : Nat} (hg : gl3 t) (hlo : blo B ≤ t) {p : Program} {ev : Env} {s : State} {m : MethodId} {args : Array Value} {below : List Frame} {meth : Method} {c : Code} {Q : State → Prop} (C : gC (xmk B (t + 1) st) p s m args c cX3_init 2 RX3) (hA : ∀ q, s.heap.size ≤ q → bA B q)
    (ret : ∀ {H : Heap} {locs : List Loc} {ls : Array Slot}, gG (xmk B (t + 77) (hst st t 5)) σ' s H locs → H.size = bN B + (t + 77) → W p l ev ({ frames := 5, cells := 76, slots := 4290, locals := 125 }) s m args below meth c H locs 76 4290 Q (F0 m 42 ls [])) :
    ∀ (r j : Nat), j + r = 5 → ∀ (σ : gM) (H : Heap) (locs : List Loc) (ls : Array Slot), gG (xmk B (t + 2 + 15 * j) (hst st t j)) σ s H locs → H.size = bN B + (t + 2 + 15 * j) → qFr (t + 2 + 15 * j) (hst st t j) σ → lv_has ls 2 [(1, .int (nI j)), (0, .ref (bN B + t))] → fX3_loop t r j σ = some σ' → W p l ev ({ frames := 5, cells := 76, slots := 4290, locals := 125 }) s m args below meth c H locs (1 + 15 * j) (5 + 857 * j) Q (F0 m 14 ls []) := by
  obtain ⟨⟨hx, hb, hml, hown, hts⟩, hK⟩ := id C
  intro r
  induction r with
  | zero =>
    intro j hjr σ H locs ls G Z F hl h
    obtain rfl : j = 5 := by omega
    have h : some σ = some σ' := h
    obtain rfl := Option.some.inj h
    refine lv_iload_n hx hb dX3_init_14 rfl (lv_at hl 0 rfl) ?_
    refine lv_aload_n hx hb dX3_init_15 rfl (lv_at hl 1 rfl) ?_
    refine gg3_0 (X := xmk B (t + 2 + 15 * 5) (hst st t 5)) (q_C C) G ⟨hg.1, hlo, (by show t < t + 2 + 15 * 5; omega)⟩ (if_pos ⟨rfl, rfl⟩) u_fl_RX3_11 dX3_init_16 ?_
    refine g_qlen (X := xmk B (t + 2 + 15 * 5) (hst st t 5)) (q_C C) G ⟨hg.2.1.1, (by show blo B ≤ t + 1; omega), (by show t + 1 < t + 2 + 15 * 5; omega)⟩ dX3_init_19 ?_
    refine lv_icmp_ge (tgt := 42) hx hb dX3_init_20 (by decide) (fun _ => ?_) (fun c => absurd (by rw [hg.2.1.2]; decide) c)
    exact ret G Z
  | succ r ih =>
    intro j hjr σ H locs ls G Z F hl h
    have hj5 : j < 5 := by omega
    rw [fX3_loop] at h
    obtain ⟨σ1, e1, h⟩ := g_bind h
    have hn : gl0 (t + 1 + (1 + 15 * j)) := hg.2.2 j hj5
    obtain ⟨k, hk⟩ : ∃ k, k = t + 1 + (1 + 15 * j) := ⟨_, rfl⟩
    have hk2 : t + 2 + 15 * j = k := by omega
    refine lv_iload_n hx hb dX3_init_14 rfl (lv_at hl 0 rfl) ?_
    refine lv_aload_n hx hb dX3_init_15 rfl (lv_at hl 1 rfl) ?_
    refine gg3_0 (X := xmk B (t + 2 + 15 * j) (hst st t j)) (q_C C) G ⟨hg.1, hlo, (by show t < t + 2 + 15 * j; omega)⟩ (if_pos ⟨rfl, rfl⟩) u_fl_RX3_11 dX3_init_16 ?_
    refine g_qlen (X := xmk B (t + 2 + 15 * j) (hst st t j)) (q_C C) G ⟨hg.2.1.1, (by show blo B ≤ t + 1; omega), (by show t + 1 < t + 2 + 15 * j; omega)⟩ dX3_init_19 ?_
    refine lv_icmp_ge (tgt := 42) hx hb dX3_init_20 (by decide) (fun c => absurd c (by rw [hg.2.1.2]; exact nI_ge hj5 (by decide))) (fun _ => ?_)
    refine lv_aload_n hx hb dX3_init_23 rfl (lv_at hl 1 rfl) ?_
    refine gg3_0 (X := xmk B (t + 2 + 15 * j) (hst st t j)) (q_C C) G ⟨hg.1, hlo, (by show t < t + 2 + 15 * j; omega)⟩ (if_pos ⟨rfl, rfl⟩) u_fl_RX3_11 dX3_init_24 ?_
    refine lv_iload_n hx hb dX3_init_27 rfl (lv_at hl 0 rfl) ?_
    rw [← hk] at hn e1
    rw [hk2] at G Z F
    refine q_new (k := k) (u := k + 1) (ci := 0) (C := RX0) (T := TX0) (N := 2) (fs := [.null, .null]) (q_C C) G Z rfl (by omega) hA rfl inB0 tyX0 tyX0_ok u_cl_RX3_9 u_ins_RX0 u_in_RX0 (by rw [gE_0 hn.1]; rw [gref_nullB (F.2 k 0 (Nat.le_refl _))]; rw [gref_nullB (F.2 k 1 (Nat.le_refl _))]) (fun j hj => by rcases (show j = 0 ∨ j = 1 by omega) with rfl | rfl <;> rfl) (by dsimp only; omega) (by dsimp only; omega) dX3_init_28 (fun H G Z => ?_)
    have F := q_fr_grow (u := k + 1) F (by omega)
    refine lv_dup hx hb dX3_init_31 rfl ?_
    refine q_call (q_runIN (t := k) (n := 0) (As := []) (rest := [.ref (bN B + k), .int (nI j), .ref (bN B + (t + 1))]) (q_C C) G Z hA (nX0_init l B _ σ σ1 k hn (by omega) F e1) rfl rfl u_in_RX0 (List.mem_of_getElem? (i := 2) rfl) u_im_yX0_init u_co_yX0_init rfl (by decide +kernel) ⟨Nat.le_of_ble_eq_true rfl, Nat.le_of_ble_eq_true rfl⟩ rfl hl.1 rfl (Nat.le_of_ble_eq_true rfl) dX3_init_32 ⟨by dsimp only; omega, by dsimp only; omega⟩) G (fun H locs G Z => ?_)
    have F := q_fr_done (t := k) (u := k + 15) F (by omega) (fun i hi => fr_X0 e1 i (by omega))
    rw [hk] at G Z F ⊢
    rw [hk] at hn
    refine q_aast (t := t + 1) (j := j) (q_C C) G ⟨hg.2.1.1, by omega, by omega⟩ ⟨hn.1, by omega, by omega⟩ (by rw [hg.2.1.2]; exact nI_in hj5 (by decide)) (nI_clamp (by omega)) dX3_init_35 (fun H locs G Z2 => ?_)
    have Z := Z2.trans Z
    have F := q_fr_set (k := t + 1) (j := j) F (by omega)
    have hu : t + 1 + (1 + 15 * j) + 15 = t + 2 + 15 * (j + 1) := by omega
    rw [hu] at G Z F
    have hs : ∀ a b, hst st t (j + 1) a b = sset (sdone (hst st t j) (t + 1 + (1 + 15 * j)) (t + 2 + 15 * (j + 1))) (t + 1) j a b := fun a b => by rw [hst_s, hu]
    have G := q_fin (st' := hst st t (j + 1)) G (fun a b _ _ => hs a b)
    have F : qFr (t + 2 + 15 * (j + 1)) (hst st t (j + 1)) σ1 := ⟨F.1, fun a b q => (hs a b).trans (F.2 a b q)⟩
    refine lv_iinc (v := nI (j + 1)) (lv' := [(1, .int (nI (j + 1))), (0, .ref (bN B + t))]) hx hb dX3_init_36 hl (k := 0) rfl (nI_1 j) (by decide) rfl (fun ls hl => ?_)
    refine lv_goto (tgt := 14) hx hb dX3_init_39 (by decide) ?_
    refine W.widen (k := 1 + 15 * (j + 1)) (n := 5 + 857 * (j + 1)) (by omega) (by omega) ?_
    exact ih (j + 1) (by omega) σ1 H locs ls G Z F hl h
set_option maxHeartbeats 4000000 in
set_option maxRecDepth 100000 in
theorem nX3_init (l : Launch) (B : gBs) (st : Nat → Nat → Bool) (σ σ' : gM) (t : Nat) (hg : gl3 t) (hlo : blo B ≤ t) (F : qFr (t + 1) st σ) (h : fX3_init σ t = some σ') : Met l yX3_init (Cond.code yX3_init cX3_init 2 none :: gBig) ({ frames := 5, cells := 76, slots := 4290, locals := 125 }) (kPc (xmk B (t + 1) st) σ [.ref (bN B + t)]) (kQv (xmk B (t + 1) st) (xmk B (t + 77) (sdone st t (t + 77))) σ') 76 4290 (bA B) := by
  refine q_met (cc := cX3_init) (maxL := 2) (own := RX3) (by decide) rfl rfl rfl (Nat.le_of_ble_eq_true rfl) ?_
  intro p ev s m args below meth c Q C G Z hA hin ret ls hl
  obtain ⟨⟨hx, hb, hml, hown, hts⟩, hK⟩ := id C
  have hl : lv_has ls 2 [(0, .ref (bN B + t))] := hl
  refine lv_aload_n hx hb dX3_init_0 rfl (lv_at hl 0 rfl) ?_
  refine k_objInit C hl.1 u_ml_RX3_3 dX3_init_1 (Nat.le_of_ble_eq_true rfl) (Nat.le_of_ble_eq_true rfl) ?_
  refine lv_aload_n hx hb dX3_init_4 rfl (lv_at hl 0 rfl) ?_
  refine lv_iconst (v := 5) hx hb dX3_init_5 (by decide) ?_
  refine q_newQ (k := t + 1) (u := t + 2) (N := 5) (q_C C) G Z rfl (by omega) hA hg.2.1.1 hg.2.1.2 F u_cl_RX3_9 (by decide) (by decide) (by decide) (Nat.le_of_ble_eq_true rfl) (Nat.le_of_ble_eq_true rfl) dX3_init_6 (fun H G Z => ?_)
  have F := q_fr_grow (u := t + 2) F (by omega)
  refine kq3_0 (q_C C) G ⟨hg.1, hlo, (by omega)⟩ hin u_fl_RX3_11 dX3_init_9 (fun H locs G Z2 => ?_)
  have Z := Z2.trans Z
  have F := q_fr_set (k := t) (j := 0) F (by omega)
  have G := q_fin (st' := hst st t 0) G (fun a b _ _ => hst_0)
  have F : qFr (t + 2) (hst st t 0) σ := ⟨F.1, fun a b q => hst_0.trans (F.2 a b q)⟩
  refine lv_iconst (v := 0) hx hb dX3_init_12 (by decide) ?_
  refine lv_istore_n (lv' := [(1, .int 0), (0, .ref (bN B + t))]) hx hb dX3_init_13 rfl hl (by decide) rfl (fun ls hl => ?_)
  refine nX3_loop hg hlo C hA (fun G Z => ?_) 5 0 rfl σ H locs ls G Z F hl (fX3_loop_of h)
  refine ret dX3_init_42 (q_fin2 G (fun k j q2 q3 q4 => hst_5 (fun e => ?_) (fun e => ?_))) Z
  · rw [e, hg.1] at q3
    simpa [gneed] using q3
  · rw [e, hg.2.1.2] at q4
    exact q4 hg.2.1.1
