/-! THE LAW -/
/-- what the numbers owe: at every pair of states that agree, each call answers alike on both sides, and they agree behind it -/
def gs_reset (RR : gM → gM → Prop) : Prop := (∀ (σ τ : gM) (a1 : Int32) (a2 : Int32), RR σ τ → ∃ (r : Int32) (σ' : gM) (τ' : gM), fX8_reset σ 0 a1 a2 = some (r, σ') ∧ fX9_reset τ 124 a1 a2 = some (r, τ') ∧ RR σ' τ')
def gs_addScrap (RR : gM → gM → Prop) : Prop := (∀ (σ τ : gM) (a1 : Int32) (a2 : Int32) (a3 : Int32) (a4 : Int32) (a5 : Int32), RR σ τ → ∃ (r : Int32) (σ' : gM) (τ' : gM), fX8_addScrap σ 0 a1 a2 a3 a4 a5 = some (r, σ') ∧ fX9_addScrap τ 124 a1 a2 a3 a4 a5 = some (r, τ') ∧ RR σ' τ')
def gs_add (RR : gM → gM → Prop) : Prop := (∀ (σ τ : gM), RR σ τ → ∃ (r : Int32) (σ' : gM) (τ' : gM), fX8_add σ 0 = some (r, σ') ∧ fX9_add τ 124 = some (r, τ') ∧ RR σ' τ')
def gs_removeScrap (RR : gM → gM → Prop) : Prop := (∀ (σ τ : gM) (a1 : Int32), RR σ τ → ∃ (r : Int32) (σ' : gM) (τ' : gM), fX8_removeScrap σ 0 a1 = some (r, σ') ∧ fX9_removeScrap τ 124 a1 = some (r, τ') ∧ RR σ' τ')
def gs_scrap (RR : gM → gM → Prop) : Prop := (∀ (σ τ : gM) (a1 : Int32) (a2 : Int32), RR σ τ → ∃ (r : Int32) (σ' : gM) (τ' : gM), fX8_scrap σ 0 a1 a2 = some (r, σ') ∧ fX9_scrap τ 124 a1 a2 = some (r, τ') ∧ RR σ' τ')
def gs_edge (RR : gM → gM → Prop) : Prop := (∀ (σ τ : gM) (a1 : Int32) (a2 : Int32) (a3 : Int32) (a4 : Int32), RR σ τ → ∃ (r : Int32) (τ' : gM), fX8_edge σ 0 a1 a2 a3 a4 = some r ∧ fX9_edge τ 124 a1 a2 a3 a4 = some (r, τ') ∧ RR σ τ')
def gs_undo (RR : gM → gM → Prop) : Prop := (∀ (σ τ : gM), RR σ τ → ∃ (r : Int32) (σ' : gM) (τ' : gM), fX8_undo σ 0 = some (r, σ') ∧ fX9_undo τ 124 = some (r, τ') ∧ RR σ' τ')
def gs_count (RR : gM → gM → Prop) : Prop := (∀ (σ τ : gM) (a1 : Int32), RR σ τ → ∃ (r : Int32) (σ' : gM) (τ' : gM), fX8_count σ 0 a1 = some (r, σ') ∧ fX9_count τ 124 a1 = some (r, τ') ∧ RR σ' τ')
def gs_lay (RR : gM → gM → Prop) : Prop := (∀ (σ τ : gM) (a1 : Int32) (a2 : Int32) (a3 : Int32), RR σ τ → ∃ (r : Int32) (σ' : gM) (τ' : gM), fX8_lay σ 0 a1 a2 a3 = some (r, σ') ∧ fX9_lay τ 124 a1 a2 a3 = some (r, τ') ∧ RR σ' τ')
def gs_force (RR : gM → gM → Prop) : Prop := (∀ (σ τ : gM) (a1 : Int32) (a2 : Int32) (a3 : Int32), RR σ τ → ∃ (r : Int32) (σ' : gM) (τ' : gM), fX8_force σ 0 a1 a2 a3 = some (r, σ') ∧ fX9_force τ 124 a1 a2 a3 = some (r, τ') ∧ RR σ' τ')
def gs_lift (RR : gM → gM → Prop) : Prop := (∀ (σ τ : gM) (a1 : Int32), RR σ τ → ∃ (r : Int32) (σ' : gM) (τ' : gM), fX8_lift σ 0 a1 = some (r, σ') ∧ fX9_lift τ 124 a1 = some (r, τ') ∧ RR σ' τ')
def gs_turn (RR : gM → gM → Prop) : Prop := (∀ (σ τ : gM) (a1 : Int32) (a2 : Int32), RR σ τ → ∃ (r : Int32) (σ' : gM) (τ' : gM), fX8_turn σ 0 a1 a2 = some (r, σ') ∧ fX9_turn τ 124 a1 a2 = some (r, τ') ∧ RR σ' τ')
def gs_at (RR : gM → gM → Prop) : Prop := (∀ (σ τ : gM) (a1 : Int32), RR σ τ → ∃ (r : Int32), fX8_at σ 0 a1 = some r ∧ fX9_at τ 124 a1 = some r ∧ RR σ τ)
def gs_reason (RR : gM → gM → Prop) : Prop := (∀ (σ τ : gM) (a1 : Int32) (a2 : Int32), RR σ τ → ∃ (r : Int32) (τ' : gM), fX8_reason σ 0 a1 a2 = some r ∧ fX9_reason τ 124 a1 a2 = some (r, τ') ∧ RR σ τ')
def gs_ways (RR : gM → gM → Prop) : Prop := (∀ (σ τ : gM) (a1 : Int32) (a2 : Int32), RR σ τ → ∃ (r : Int32) (τ' : gM), fX8_ways σ 0 a1 a2 = some r ∧ fX9_ways τ 124 a1 a2 = some (r, τ') ∧ RR σ τ')
def gs_bestFor (RR : gM → gM → Prop) : Prop := (∀ (σ τ : gM) (a1 : Int32), RR σ τ → ∃ (r : Int32) (τ' : gM), fX8_bestFor σ 0 a1 = some r ∧ fX9_bestFor τ 124 a1 = some (r, τ') ∧ RR σ τ')
def gs_fill (RR : gM → gM → Prop) : Prop := (∀ (σ τ : gM), RR σ τ → ∃ (r : Int32) (σ' : gM) (τ' : gM), fX8_fill σ 0 = some (r, σ') ∧ fX9_fill τ 124 = some (r, τ') ∧ RR σ' τ')
def gs_member (RR : gM → gM → Prop) : Prop := (∀ (σ τ : gM) (a1 : Int32) (a2 : Int32), RR σ τ → ∃ (r : Int32) (σ' : gM) (τ' : gM), fX8_member σ 0 a1 a2 = some (r, σ') ∧ fX9_member τ 124 a1 a2 = some (r, τ') ∧ RR σ' τ')
def gs_canFill (RR : gM → gM → Prop) : Prop := (∀ (σ τ : gM), RR σ τ → ∃ (r : Int32) (σ' : gM) (τ' : gM), fX8_canFill σ 0 = some (r, σ') ∧ fX9_canFill τ 124 = some (r, τ') ∧ RR σ' τ')
def gs_type (RR : gM → gM → Prop) : Prop := (∀ (σ τ : gM) (a1 : Int32), RR σ τ → ∃ (r : Int32) (σ' : gM) (τ' : gM), fX8_type σ 0 a1 = some (r, σ') ∧ fX9_type τ 124 a1 = some (r, τ') ∧ RR σ' τ')
def gs_clearText (RR : gM → gM → Prop) : Prop := (∀ (σ τ : gM), RR σ τ → ∃ (r : Int32) (σ' : gM) (τ' : gM), fX8_clearText σ 0 = some (r, σ') ∧ fX9_clearText τ 124 = some (r, τ') ∧ RR σ' τ')
def gs_fault (RR : gM → gM → Prop) : Prop := (∀ (σ τ : gM), RR σ τ → ∃ (r : Int32) (σ' : gM) (τ' : gM), fX8_fault σ 0 = some (r, σ') ∧ fX9_fault τ 124 = some (r, τ') ∧ RR σ' τ')
def gSteps (RR : gM → gM → Prop) : Prop := gs_reset RR ∧ gs_addScrap RR ∧ gs_add RR ∧ gs_removeScrap RR ∧ gs_scrap RR ∧ gs_edge RR ∧ gs_undo RR ∧ gs_count RR ∧ gs_lay RR ∧ gs_force RR ∧ gs_lift RR ∧ gs_turn RR ∧ gs_at RR ∧ gs_reason RR ∧ gs_ways RR ∧ gs_bestFor RR ∧ gs_fill RR ∧ gs_member RR ∧ gs_canFill RR ∧ gs_type RR ∧ gs_clearText RR ∧ gs_fault RR
/-- both pools, the other one's cells kept aside -/
def pl (B : gBs) (st : Nat → Nat → Bool) (σ : gM) (lo n : Nat) : va_W := (List.range n).map (fun i => (bN B + (lo + i), gE (xmk B 0 st) σ (lo + i)))
def XC (B : gBs) (st : Nat → Nat → Bool) (τ : gM) : gX := (B.1, B.2.1, B.2.2.1, (B.2.2.2.1, 0, 124), st, pl B st τ 124 10)
def XM (B : gBs) (st : Nat → Nat → Bool) (σ : gM) : gX := (B.1, B.2.1, B.2.2.1, (B.2.2.2.1, 124, 134), st, pl B st σ 0 124)
theorem gws_XC {B : gBs} {st : Nat → Nat → Bool} {σ τ : gM} : gws (XC B st τ) σ = pl B st τ 124 10 ++ pl B st σ 0 124 := rfl
theorem gws_XM {B : gBs} {st : Nat → Nat → Bool} {σ τ : gM} : gws (XM B st σ) τ = pl B st σ 0 124 ++ pl B st τ 124 10 := by
  have e : gws (XM B st σ) τ = pl B st σ 0 124 ++ (List.range (134 - 124)).map (fun i => (bN B + (124 + i), gE (xmk B 0 st) τ (124 + i))) := rfl
  exact e
theorem sw_CM {B : gBs} {st : Nat → Nat → Bool} {σ τ : gM} {s : State} {H : Heap} {locs : List Loc} (G : gG (XC B st τ) σ s H locs) : gG (XM B st σ) τ s H locs := by
  obtain ⟨hP, hD, hS⟩ := G
  rw [gws_XC] at hP hD
  refine ⟨?_, ?_, hS⟩
  · rw [gws_XM]
    exact va_P.swap (a := []) hP
  · rw [gws_XM]
    exact va_D.swap (a := []) hD
theorem sw_MC {B : gBs} {st : Nat → Nat → Bool} {σ τ : gM} {s : State} {H : Heap} {locs : List Loc} (G : gG (XM B st σ) τ s H locs) : gG (XC B st τ) σ s H locs := by
  obtain ⟨hP, hD, hS⟩ := G
  rw [gws_XM] at hP hD
  refine ⟨?_, ?_, hS⟩
  · rw [gws_XC]
    exact va_P.swap (a := []) hP
  · rw [gws_XC]
    exact va_D.swap (a := []) hD
theorem gws_two {B : gBs} {st : Nat → Nat → Bool} {σ : gM} (h0 : blo B = 0) (hw : B.2.2.2.2.2 = []) : gws (xmk B 134 st) σ = gws (XM B st σ) σ := by
  rw [gws_XM]
  have e1 : gws (xmk B 134 st) σ = B.2.2.2.2.2 ++ (List.range (134 - blo B)).map (fun i => (bN B + (blo B + i), gE (xmk B 0 st) σ (blo B + i))) := rfl
  rw [e1, hw, h0, List.nil_append]
  show (List.range (124 + 10)).map (fun i => (bN B + (0 + i), gE (xmk B 0 st) σ (0 + i))) = _
  rw [List.range_add, List.map_append, List.map_map]
  unfold pl
  first | (congr 1; done) | (congr 1; apply List.map_congr_left; intro i hi; show (bN B + (0 + (124 + i)), gE (xmk B 0 st) σ (0 + (124 + i))) = _; rw [Nat.zero_add])
theorem law_in {x : Int32} {i L k : Nat} (ex : x = nI i) (h : i + k < L) (hL : L ≤ 3072) : vp_in (x + nI k) L := by
  rw [ex, nI_add]
  exact vp_in_nI h (by omega)
theorem law_end {i L : Nat} {x : Int32} (ex : x = nI i) (hi : i ≤ 4000) (hL : L ≤ 3072) (c : ¬ (Int32.ofNat L - 6 < x)) : i + 6 ≤ L := by
  apply Classical.byContradiction
  intro h
  apply c
  rw [Int32.lt_iff_toInt_lt, ex, nI_toInt (by omega)]
  have e : (Int32.ofNat L - 6).toInt = (L : Int) - (6 : Nat) := pk_sub_toInt (a := L) (b := 6) (by omega) (by omega)
  rw [e]
  omega
set_option maxHeartbeats 4000000 in
set_option maxRecDepth 100000 in
theorem law_reset {p : Program} {l : Launch} {ev : Env} {s : State} {m : MethodId} {below : List Frame} {meth : Method} {c : Code} {b L : Nat} {xs : Nat → Int32} {B : gBs} {st : Nat → Nat → Bool} {RR : gM → gM → Prop} (S : gSteps RR) (hL : L ≤ 3072) (C : gC (xmk B 0 st) p s m #[Value.ref b] c code 4 RL) (hX : va_X b L xs s s.heap) (hbl : b < s.heap.size) (hbA : ¬ bA B b) (okC : ∀ τ, gok8 (XC B st τ) 0) (okM : ∀ σ, gok9 (XM B st σ) 124) {σ τ : gM} (h : RR σ τ) {i : Nat} {x3 : Int32} (ex : x3 = nI i) (hin : i + 6 ≤ L) {H : Heap} {locs : List Loc} {ls : Array Slot} (G : gG (XC B st τ) σ s H locs) (hl : lv_has ls 4 [(0, .ref b), (1, .ref (bN B + 0)), (2, .ref (bN B + 124)), (3, .int x3)])
    (kk : ∀ (σ2 τ2 : gM), RR σ2 τ2 → ∀ (H : Heap) (locs : List Loc), gG (XC B st τ2) σ2 s H locs → W p l ev room_1 s m #[Value.ref b] below meth c H locs 134 7172 (lw_Z below #[Value.ref b] s) (F0 m 752 ls [])) : W p l ev room_1 s m #[Value.ref b] below meth c H locs 134 7172 (lw_Z below #[Value.ref b] s) (F0 m 136 ls []) := by
  obtain ⟨⟨hx, hb, hml, hown, hts⟩, hK⟩ := id C
  obtain ⟨r, σ', τ', e1, e2, hRR⟩ := S.1 σ τ (xs (x3 + 1).toNatClampNeg) (xs (x3 + 2).toNatClampNeg) h
  have hi1 : vp_in (x3 + 1) L := law_in ex (k := 1) (by omega) hL
  have hi2 : vp_in (x3 + 2) L := law_in ex (k := 2) (by omega) hL
  refine lv_aload_n hx hb dL_law_136 rfl (lv_at hl 1 rfl) ?_
  refine lv_aload_n hx hb dL_law_137 rfl (lv_at hl 0 rfl) ?_
  refine lv_iload_n hx hb dL_law_138 rfl (lv_at hl 3 rfl) ?_
  refine lv_iconst (v := 1) hx hb dL_law_139 (by decide) ?_
  refine lv_iadd hx hb dL_law_140 ?_
  refine va_sld hx hb hX hbl hbA G.2.2 hi1 dL_law_141 ?_
  refine lv_aload_n hx hb dL_law_142 rfl (lv_at hl 0 rfl) ?_
  refine lv_iload_n hx hb dL_law_143 rfl (lv_at hl 3 rfl) ?_
  refine lv_iconst (v := 2) hx hb dL_law_144 (by decide) ?_
  refine lv_iadd hx hb dL_law_145 ?_
  refine va_sld hx hb hX hbl hbA G.2.2 hi2 dL_law_146 ?_
  refine g_calli (X := (XC B st τ)) (g_runV (X := (XC B st τ)) (t := 0) (n := 2) (As := [.int (xs (x3 + 1).toNatClampNeg), .int (xs (x3 + 2).toNatClampNeg)]) (rest := []) C G (mX8_reset l (XC B st τ) σ σ' 0 (xs (x3 + 1).toNatClampNeg) (xs (x3 + 2).toNatClampNeg) r (okC τ) e1) (okC τ).1.2 (gE_8 (okC τ).1.1) rfl (g_goodV u_ml_RL_13 u_im_yX8_reset u_se_yX8_reset u_in_RX8 u_co_yX8_reset) rfl rfl rfl (by decide +kernel) ⟨Nat.le_of_ble_eq_true rfl, Nat.le_of_ble_eq_true rfl⟩ rfl hl.1 rfl (Nat.le_of_ble_eq_true rfl) dL_law_147 ⟨Nat.le_of_ble_eq_true rfl, Nat.le_of_ble_eq_true rfl⟩) G (fun H locs G => ?_)
  have G := sw_CM G
  refine lv_aload_n hx hb dL_law_150 rfl (lv_at hl 2 rfl) ?_
  refine lv_aload_n hx hb dL_law_151 rfl (lv_at hl 0 rfl) ?_
  refine lv_iload_n hx hb dL_law_152 rfl (lv_at hl 3 rfl) ?_
  refine lv_iconst (v := 1) hx hb dL_law_153 (by decide) ?_
  refine lv_iadd hx hb dL_law_154 ?_
  refine va_sld hx hb hX hbl hbA G.2.2 hi1 dL_law_155 ?_
  refine lv_aload_n hx hb dL_law_156 rfl (lv_at hl 0 rfl) ?_
  refine lv_iload_n hx hb dL_law_157 rfl (lv_at hl 3 rfl) ?_
  refine lv_iconst (v := 2) hx hb dL_law_158 (by decide) ?_
  refine lv_iadd hx hb dL_law_159 ?_
  refine va_sld hx hb hX hbl hbA G.2.2 hi2 dL_law_160 ?_
  refine g_calli (X := (XM B st σ')) (g_runV (X := (XM B st σ')) (t := 124) (n := 2) (As := [.int (xs (x3 + 1).toNatClampNeg), .int (xs (x3 + 2).toNatClampNeg)]) (rest := [.int r]) C G (mX9_reset l (XM B st σ') τ τ' 124 (xs (x3 + 1).toNatClampNeg) (xs (x3 + 2).toNatClampNeg) r (okM σ') e2) (okM σ').1.2 (gE_9 (okM σ').1.1) rfl (g_goodV u_ml_RL_17 u_im_yX9_reset u_se_yX9_reset u_in_RX9 u_co_yX9_reset) rfl rfl rfl (by decide +kernel) ⟨Nat.le_of_ble_eq_true rfl, Nat.le_of_ble_eq_true rfl⟩ rfl hl.1 rfl (Nat.le_of_ble_eq_true rfl) dL_law_161 ⟨Nat.le_of_ble_eq_true rfl, Nat.le_of_ble_eq_true rfl⟩) G (fun H locs G => ?_)
  have G := sw_MC G
  refine lv_icmp_eq (tgt := 752) hx hb dL_law_164 (by decide) (fun _ => ?_) (fun c => absurd rfl c)
  exact kk σ' τ' hRR H locs G
set_option maxHeartbeats 4000000 in
set_option maxRecDepth 100000 in
theorem law_addScrap {p : Program} {l : Launch} {ev : Env} {s : State} {m : MethodId} {below : List Frame} {meth : Method} {c : Code} {b L : Nat} {xs : Nat → Int32} {B : gBs} {st : Nat → Nat → Bool} {RR : gM → gM → Prop} (S : gSteps RR) (hL : L ≤ 3072) (C : gC (xmk B 0 st) p s m #[Value.ref b] c code 4 RL) (hX : va_X b L xs s s.heap) (hbl : b < s.heap.size) (hbA : ¬ bA B b) (okC : ∀ τ, gok8 (XC B st τ) 0) (okM : ∀ σ, gok9 (XM B st σ) 124) {σ τ : gM} (h : RR σ τ) {i : Nat} {x3 : Int32} (ex : x3 = nI i) (hin : i + 6 ≤ L) {H : Heap} {locs : List Loc} {ls : Array Slot} (G : gG (XC B st τ) σ s H locs) (hl : lv_has ls 4 [(0, .ref b), (1, .ref (bN B + 0)), (2, .ref (bN B + 124)), (3, .int x3)])
    (kk : ∀ (σ2 τ2 : gM), RR σ2 τ2 → ∀ (H : Heap) (locs : List Loc), gG (XC B st τ2) σ2 s H locs → W p l ev room_1 s m #[Value.ref b] below meth c H locs 134 7172 (lw_Z below #[Value.ref b] s) (F0 m 752 ls [])) : W p l ev room_1 s m #[Value.ref b] below meth c H locs 134 7172 (lw_Z below #[Value.ref b] s) (F0 m 169 ls []) := by
  obtain ⟨⟨hx, hb, hml, hown, hts⟩, hK⟩ := id C
  obtain ⟨r, σ', τ', e1, e2, hRR⟩ := S.2.1 σ τ (xs (x3 + 1).toNatClampNeg) (xs (x3 + 2).toNatClampNeg) (xs (x3 + 3).toNatClampNeg) (xs (x3 + 4).toNatClampNeg) (xs (x3 + 5).toNatClampNeg) h
  have hi1 : vp_in (x3 + 1) L := law_in ex (k := 1) (by omega) hL
  have hi2 : vp_in (x3 + 2) L := law_in ex (k := 2) (by omega) hL
  have hi3 : vp_in (x3 + 3) L := law_in ex (k := 3) (by omega) hL
  have hi4 : vp_in (x3 + 4) L := law_in ex (k := 4) (by omega) hL
  have hi5 : vp_in (x3 + 5) L := law_in ex (k := 5) (by omega) hL
  refine lv_aload_n hx hb dL_law_169 rfl (lv_at hl 1 rfl) ?_
  refine lv_aload_n hx hb dL_law_170 rfl (lv_at hl 0 rfl) ?_
  refine lv_iload_n hx hb dL_law_171 rfl (lv_at hl 3 rfl) ?_
  refine lv_iconst (v := 1) hx hb dL_law_172 (by decide) ?_
  refine lv_iadd hx hb dL_law_173 ?_
  refine va_sld hx hb hX hbl hbA G.2.2 hi1 dL_law_174 ?_
  refine lv_aload_n hx hb dL_law_175 rfl (lv_at hl 0 rfl) ?_
  refine lv_iload_n hx hb dL_law_176 rfl (lv_at hl 3 rfl) ?_
  refine lv_iconst (v := 2) hx hb dL_law_177 (by decide) ?_
  refine lv_iadd hx hb dL_law_178 ?_
  refine va_sld hx hb hX hbl hbA G.2.2 hi2 dL_law_179 ?_
  refine lv_aload_n hx hb dL_law_180 rfl (lv_at hl 0 rfl) ?_
  refine lv_iload_n hx hb dL_law_181 rfl (lv_at hl 3 rfl) ?_
  refine lv_iconst (v := 3) hx hb dL_law_182 (by decide) ?_
  refine lv_iadd hx hb dL_law_183 ?_
  refine va_sld hx hb hX hbl hbA G.2.2 hi3 dL_law_184 ?_
  refine lv_aload_n hx hb dL_law_185 rfl (lv_at hl 0 rfl) ?_
  refine lv_iload_n hx hb dL_law_186 rfl (lv_at hl 3 rfl) ?_
  refine lv_iconst (v := 4) hx hb dL_law_187 (by decide) ?_
  refine lv_iadd hx hb dL_law_188 ?_
  refine va_sld hx hb hX hbl hbA G.2.2 hi4 dL_law_189 ?_
  refine lv_aload_n hx hb dL_law_190 rfl (lv_at hl 0 rfl) ?_
  refine lv_iload_n hx hb dL_law_191 rfl (lv_at hl 3 rfl) ?_
  refine lv_iconst (v := 5) hx hb dL_law_192 (by decide) ?_
  refine lv_iadd hx hb dL_law_193 ?_
  refine va_sld hx hb hX hbl hbA G.2.2 hi5 dL_law_194 ?_
  refine g_calli (X := (XC B st τ)) (g_runV (X := (XC B st τ)) (t := 0) (n := 5) (As := [.int (xs (x3 + 1).toNatClampNeg), .int (xs (x3 + 2).toNatClampNeg), .int (xs (x3 + 3).toNatClampNeg), .int (xs (x3 + 4).toNatClampNeg), .int (xs (x3 + 5).toNatClampNeg)]) (rest := []) C G (mX8_addScrap l (XC B st τ) σ σ' 0 (xs (x3 + 1).toNatClampNeg) (xs (x3 + 2).toNatClampNeg) (xs (x3 + 3).toNatClampNeg) (xs (x3 + 4).toNatClampNeg) (xs (x3 + 5).toNatClampNeg) r (okC τ) e1) (okC τ).1.2 (gE_8 (okC τ).1.1) rfl (g_goodV u_ml_RL_18 u_im_yX8_addScrap u_se_yX8_addScrap u_in_RX8 u_co_yX8_addScrap) rfl rfl rfl (by decide +kernel) ⟨Nat.le_of_ble_eq_true rfl, Nat.le_of_ble_eq_true rfl⟩ rfl hl.1 rfl (Nat.le_of_ble_eq_true rfl) dL_law_195 ⟨Nat.le_of_ble_eq_true rfl, Nat.le_of_ble_eq_true rfl⟩) G (fun H locs G => ?_)
  have G := sw_CM G
  refine lv_aload_n hx hb dL_law_198 rfl (lv_at hl 2 rfl) ?_
  refine lv_aload_n hx hb dL_law_199 rfl (lv_at hl 0 rfl) ?_
  refine lv_iload_n hx hb dL_law_200 rfl (lv_at hl 3 rfl) ?_
  refine lv_iconst (v := 1) hx hb dL_law_201 (by decide) ?_
  refine lv_iadd hx hb dL_law_202 ?_
  refine va_sld hx hb hX hbl hbA G.2.2 hi1 dL_law_203 ?_
  refine lv_aload_n hx hb dL_law_204 rfl (lv_at hl 0 rfl) ?_
  refine lv_iload_n hx hb dL_law_205 rfl (lv_at hl 3 rfl) ?_
  refine lv_iconst (v := 2) hx hb dL_law_206 (by decide) ?_
  refine lv_iadd hx hb dL_law_207 ?_
  refine va_sld hx hb hX hbl hbA G.2.2 hi2 dL_law_208 ?_
  refine lv_aload_n hx hb dL_law_209 rfl (lv_at hl 0 rfl) ?_
  refine lv_iload_n hx hb dL_law_210 rfl (lv_at hl 3 rfl) ?_
  refine lv_iconst (v := 3) hx hb dL_law_211 (by decide) ?_
  refine lv_iadd hx hb dL_law_212 ?_
  refine va_sld hx hb hX hbl hbA G.2.2 hi3 dL_law_213 ?_
  refine lv_aload_n hx hb dL_law_214 rfl (lv_at hl 0 rfl) ?_
  refine lv_iload_n hx hb dL_law_215 rfl (lv_at hl 3 rfl) ?_
  refine lv_iconst (v := 4) hx hb dL_law_216 (by decide) ?_
  refine lv_iadd hx hb dL_law_217 ?_
  refine va_sld hx hb hX hbl hbA G.2.2 hi4 dL_law_218 ?_
  refine lv_aload_n hx hb dL_law_219 rfl (lv_at hl 0 rfl) ?_
  refine lv_iload_n hx hb dL_law_220 rfl (lv_at hl 3 rfl) ?_
  refine lv_iconst (v := 5) hx hb dL_law_221 (by decide) ?_
  refine lv_iadd hx hb dL_law_222 ?_
  refine va_sld hx hb hX hbl hbA G.2.2 hi5 dL_law_223 ?_
  refine g_calli (X := (XM B st σ')) (g_runV (X := (XM B st σ')) (t := 124) (n := 5) (As := [.int (xs (x3 + 1).toNatClampNeg), .int (xs (x3 + 2).toNatClampNeg), .int (xs (x3 + 3).toNatClampNeg), .int (xs (x3 + 4).toNatClampNeg), .int (xs (x3 + 5).toNatClampNeg)]) (rest := [.int r]) C G (mX9_addScrap l (XM B st σ') τ τ' 124 (xs (x3 + 1).toNatClampNeg) (xs (x3 + 2).toNatClampNeg) (xs (x3 + 3).toNatClampNeg) (xs (x3 + 4).toNatClampNeg) (xs (x3 + 5).toNatClampNeg) r (okM σ') e2) (okM σ').1.2 (gE_9 (okM σ').1.1) rfl (g_goodV u_ml_RL_22 u_im_yX9_addScrap u_se_yX9_addScrap u_in_RX9 u_co_yX9_addScrap) rfl rfl rfl (by decide +kernel) ⟨Nat.le_of_ble_eq_true rfl, Nat.le_of_ble_eq_true rfl⟩ rfl hl.1 rfl (Nat.le_of_ble_eq_true rfl) dL_law_224 ⟨Nat.le_of_ble_eq_true rfl, Nat.le_of_ble_eq_true rfl⟩) G (fun H locs G => ?_)
  have G := sw_MC G
  refine lv_icmp_eq (tgt := 752) hx hb dL_law_227 (by decide) (fun _ => ?_) (fun c => absurd rfl c)
  exact kk σ' τ' hRR H locs G
set_option maxHeartbeats 4000000 in
set_option maxRecDepth 100000 in
theorem law_add {p : Program} {l : Launch} {ev : Env} {s : State} {m : MethodId} {below : List Frame} {meth : Method} {c : Code} {b L : Nat} {xs : Nat → Int32} {B : gBs} {st : Nat → Nat → Bool} {RR : gM → gM → Prop} (S : gSteps RR) (hL : L ≤ 3072) (C : gC (xmk B 0 st) p s m #[Value.ref b] c code 4 RL) (hX : va_X b L xs s s.heap) (hbl : b < s.heap.size) (hbA : ¬ bA B b) (okC : ∀ τ, gok8 (XC B st τ) 0) (okM : ∀ σ, gok9 (XM B st σ) 124) {σ τ : gM} (h : RR σ τ) {i : Nat} {x3 : Int32} (ex : x3 = nI i) (hin : i + 6 ≤ L) {H : Heap} {locs : List Loc} {ls : Array Slot} (G : gG (XC B st τ) σ s H locs) (hl : lv_has ls 4 [(0, .ref b), (1, .ref (bN B + 0)), (2, .ref (bN B + 124)), (3, .int x3)])
    (kk : ∀ (σ2 τ2 : gM), RR σ2 τ2 → ∀ (H : Heap) (locs : List Loc), gG (XC B st τ2) σ2 s H locs → W p l ev room_1 s m #[Value.ref b] below meth c H locs 134 7172 (lw_Z below #[Value.ref b] s) (F0 m 752 ls [])) : W p l ev room_1 s m #[Value.ref b] below meth c H locs 134 7172 (lw_Z below #[Value.ref b] s) (F0 m 232 ls []) := by
  obtain ⟨⟨hx, hb, hml, hown, hts⟩, hK⟩ := id C
  obtain ⟨r, σ', τ', e1, e2, hRR⟩ := S.2.2.1 σ τ  h
  refine lv_aload_n hx hb dL_law_232 rfl (lv_at hl 1 rfl) ?_
  refine g_calli (X := (XC B st τ)) (g_runV (X := (XC B st τ)) (t := 0) (n := 0) (As := []) (rest := []) C G (mX8_add l (XC B st τ) σ σ' 0  r (okC τ) e1) (okC τ).1.2 (gE_8 (okC τ).1.1) rfl (g_goodV u_ml_RL_23 u_im_yX8_add u_se_yX8_add u_in_RX8 u_co_yX8_add) rfl rfl rfl (by decide +kernel) ⟨Nat.le_of_ble_eq_true rfl, Nat.le_of_ble_eq_true rfl⟩ rfl hl.1 rfl (Nat.le_of_ble_eq_true rfl) dL_law_233 ⟨Nat.le_of_ble_eq_true rfl, Nat.le_of_ble_eq_true rfl⟩) G (fun H locs G => ?_)
  have G := sw_CM G
  refine lv_aload_n hx hb dL_law_236 rfl (lv_at hl 2 rfl) ?_
  refine g_calli (X := (XM B st σ')) (g_runV (X := (XM B st σ')) (t := 124) (n := 0) (As := []) (rest := [.int r]) C G (mX9_add l (XM B st σ') τ τ' 124  r (okM σ') e2) (okM σ').1.2 (gE_9 (okM σ').1.1) rfl (g_goodV u_ml_RL_27 u_im_yX9_add u_se_yX9_add u_in_RX9 u_co_yX9_add) rfl rfl rfl (by decide +kernel) ⟨Nat.le_of_ble_eq_true rfl, Nat.le_of_ble_eq_true rfl⟩ rfl hl.1 rfl (Nat.le_of_ble_eq_true rfl) dL_law_237 ⟨Nat.le_of_ble_eq_true rfl, Nat.le_of_ble_eq_true rfl⟩) G (fun H locs G => ?_)
  have G := sw_MC G
  refine lv_icmp_eq (tgt := 752) hx hb dL_law_240 (by decide) (fun _ => ?_) (fun c => absurd rfl c)
  exact kk σ' τ' hRR H locs G
set_option maxHeartbeats 4000000 in
set_option maxRecDepth 100000 in
theorem law_removeScrap {p : Program} {l : Launch} {ev : Env} {s : State} {m : MethodId} {below : List Frame} {meth : Method} {c : Code} {b L : Nat} {xs : Nat → Int32} {B : gBs} {st : Nat → Nat → Bool} {RR : gM → gM → Prop} (S : gSteps RR) (hL : L ≤ 3072) (C : gC (xmk B 0 st) p s m #[Value.ref b] c code 4 RL) (hX : va_X b L xs s s.heap) (hbl : b < s.heap.size) (hbA : ¬ bA B b) (okC : ∀ τ, gok8 (XC B st τ) 0) (okM : ∀ σ, gok9 (XM B st σ) 124) {σ τ : gM} (h : RR σ τ) {i : Nat} {x3 : Int32} (ex : x3 = nI i) (hin : i + 6 ≤ L) {H : Heap} {locs : List Loc} {ls : Array Slot} (G : gG (XC B st τ) σ s H locs) (hl : lv_has ls 4 [(0, .ref b), (1, .ref (bN B + 0)), (2, .ref (bN B + 124)), (3, .int x3)])
    (kk : ∀ (σ2 τ2 : gM), RR σ2 τ2 → ∀ (H : Heap) (locs : List Loc), gG (XC B st τ2) σ2 s H locs → W p l ev room_1 s m #[Value.ref b] below meth c H locs 134 7172 (lw_Z below #[Value.ref b] s) (F0 m 752 ls [])) : W p l ev room_1 s m #[Value.ref b] below meth c H locs 134 7172 (lw_Z below #[Value.ref b] s) (F0 m 245 ls []) := by
  obtain ⟨⟨hx, hb, hml, hown, hts⟩, hK⟩ := id C
  obtain ⟨r, σ', τ', e1, e2, hRR⟩ := S.2.2.2.1 σ τ (xs (x3 + 1).toNatClampNeg) h
  have hi1 : vp_in (x3 + 1) L := law_in ex (k := 1) (by omega) hL
  refine lv_aload_n hx hb dL_law_245 rfl (lv_at hl 1 rfl) ?_
  refine lv_aload_n hx hb dL_law_246 rfl (lv_at hl 0 rfl) ?_
  refine lv_iload_n hx hb dL_law_247 rfl (lv_at hl 3 rfl) ?_
  refine lv_iconst (v := 1) hx hb dL_law_248 (by decide) ?_
  refine lv_iadd hx hb dL_law_249 ?_
  refine va_sld hx hb hX hbl hbA G.2.2 hi1 dL_law_250 ?_
  refine g_calli (X := (XC B st τ)) (g_runV (X := (XC B st τ)) (t := 0) (n := 1) (As := [.int (xs (x3 + 1).toNatClampNeg)]) (rest := []) C G (mX8_removeScrap l (XC B st τ) σ σ' 0 (xs (x3 + 1).toNatClampNeg) r (okC τ) e1) (okC τ).1.2 (gE_8 (okC τ).1.1) rfl (g_goodV u_ml_RL_28 u_im_yX8_removeScrap u_se_yX8_removeScrap u_in_RX8 u_co_yX8_removeScrap) rfl rfl rfl (by decide +kernel) ⟨Nat.le_of_ble_eq_true rfl, Nat.le_of_ble_eq_true rfl⟩ rfl hl.1 rfl (Nat.le_of_ble_eq_true rfl) dL_law_251 ⟨Nat.le_of_ble_eq_true rfl, Nat.le_of_ble_eq_true rfl⟩) G (fun H locs G => ?_)
  have G := sw_CM G
  refine lv_aload_n hx hb dL_law_254 rfl (lv_at hl 2 rfl) ?_
  refine lv_aload_n hx hb dL_law_255 rfl (lv_at hl 0 rfl) ?_
  refine lv_iload_n hx hb dL_law_256 rfl (lv_at hl 3 rfl) ?_
  refine lv_iconst (v := 1) hx hb dL_law_257 (by decide) ?_
  refine lv_iadd hx hb dL_law_258 ?_
  refine va_sld hx hb hX hbl hbA G.2.2 hi1 dL_law_259 ?_
  refine g_calli (X := (XM B st σ')) (g_runV (X := (XM B st σ')) (t := 124) (n := 1) (As := [.int (xs (x3 + 1).toNatClampNeg)]) (rest := [.int r]) C G (mX9_removeScrap l (XM B st σ') τ τ' 124 (xs (x3 + 1).toNatClampNeg) r (okM σ') e2) (okM σ').1.2 (gE_9 (okM σ').1.1) rfl (g_goodV u_ml_RL_32 u_im_yX9_removeScrap u_se_yX9_removeScrap u_in_RX9 u_co_yX9_removeScrap) rfl rfl rfl (by decide +kernel) ⟨Nat.le_of_ble_eq_true rfl, Nat.le_of_ble_eq_true rfl⟩ rfl hl.1 rfl (Nat.le_of_ble_eq_true rfl) dL_law_260 ⟨Nat.le_of_ble_eq_true rfl, Nat.le_of_ble_eq_true rfl⟩) G (fun H locs G => ?_)
  have G := sw_MC G
  refine lv_icmp_eq (tgt := 752) hx hb dL_law_263 (by decide) (fun _ => ?_) (fun c => absurd rfl c)
  exact kk σ' τ' hRR H locs G
set_option maxHeartbeats 4000000 in
set_option maxRecDepth 100000 in
theorem law_scrap {p : Program} {l : Launch} {ev : Env} {s : State} {m : MethodId} {below : List Frame} {meth : Method} {c : Code} {b L : Nat} {xs : Nat → Int32} {B : gBs} {st : Nat → Nat → Bool} {RR : gM → gM → Prop} (S : gSteps RR) (hL : L ≤ 3072) (C : gC (xmk B 0 st) p s m #[Value.ref b] c code 4 RL) (hX : va_X b L xs s s.heap) (hbl : b < s.heap.size) (hbA : ¬ bA B b) (okC : ∀ τ, gok8 (XC B st τ) 0) (okM : ∀ σ, gok9 (XM B st σ) 124) {σ τ : gM} (h : RR σ τ) {i : Nat} {x3 : Int32} (ex : x3 = nI i) (hin : i + 6 ≤ L) {H : Heap} {locs : List Loc} {ls : Array Slot} (G : gG (XC B st τ) σ s H locs) (hl : lv_has ls 4 [(0, .ref b), (1, .ref (bN B + 0)), (2, .ref (bN B + 124)), (3, .int x3)])
    (kk : ∀ (σ2 τ2 : gM), RR σ2 τ2 → ∀ (H : Heap) (locs : List Loc), gG (XC B st τ2) σ2 s H locs → W p l ev room_1 s m #[Value.ref b] below meth c H locs 134 7172 (lw_Z below #[Value.ref b] s) (F0 m 752 ls [])) : W p l ev room_1 s m #[Value.ref b] below meth c H locs 134 7172 (lw_Z below #[Value.ref b] s) (F0 m 268 ls []) := by
  obtain ⟨⟨hx, hb, hml, hown, hts⟩, hK⟩ := id C
  obtain ⟨r, σ', τ', e1, e2, hRR⟩ := S.2.2.2.2.1 σ τ (xs (x3 + 1).toNatClampNeg) (xs (x3 + 2).toNatClampNeg) h
  have hi1 : vp_in (x3 + 1) L := law_in ex (k := 1) (by omega) hL
  have hi2 : vp_in (x3 + 2) L := law_in ex (k := 2) (by omega) hL
  refine lv_aload_n hx hb dL_law_268 rfl (lv_at hl 1 rfl) ?_
  refine lv_aload_n hx hb dL_law_269 rfl (lv_at hl 0 rfl) ?_
  refine lv_iload_n hx hb dL_law_270 rfl (lv_at hl 3 rfl) ?_
  refine lv_iconst (v := 1) hx hb dL_law_271 (by decide) ?_
  refine lv_iadd hx hb dL_law_272 ?_
  refine va_sld hx hb hX hbl hbA G.2.2 hi1 dL_law_273 ?_
  refine lv_aload_n hx hb dL_law_274 rfl (lv_at hl 0 rfl) ?_
  refine lv_iload_n hx hb dL_law_275 rfl (lv_at hl 3 rfl) ?_
  refine lv_iconst (v := 2) hx hb dL_law_276 (by decide) ?_
  refine lv_iadd hx hb dL_law_277 ?_
  refine va_sld hx hb hX hbl hbA G.2.2 hi2 dL_law_278 ?_
  refine g_calli (X := (XC B st τ)) (g_runV (X := (XC B st τ)) (t := 0) (n := 2) (As := [.int (xs (x3 + 1).toNatClampNeg), .int (xs (x3 + 2).toNatClampNeg)]) (rest := []) C G (mX8_scrap l (XC B st τ) σ σ' 0 (xs (x3 + 1).toNatClampNeg) (xs (x3 + 2).toNatClampNeg) r (okC τ) e1) (okC τ).1.2 (gE_8 (okC τ).1.1) rfl (g_goodV u_ml_RL_33 u_im_yX8_scrap u_se_yX8_scrap u_in_RX8 u_co_yX8_scrap) rfl rfl rfl (by decide +kernel) ⟨Nat.le_of_ble_eq_true rfl, Nat.le_of_ble_eq_true rfl⟩ rfl hl.1 rfl (Nat.le_of_ble_eq_true rfl) dL_law_279 ⟨Nat.le_of_ble_eq_true rfl, Nat.le_of_ble_eq_true rfl⟩) G (fun H locs G => ?_)
  have G := sw_CM G
  refine lv_aload_n hx hb dL_law_282 rfl (lv_at hl 2 rfl) ?_
  refine lv_aload_n hx hb dL_law_283 rfl (lv_at hl 0 rfl) ?_
  refine lv_iload_n hx hb dL_law_284 rfl (lv_at hl 3 rfl) ?_
  refine lv_iconst (v := 1) hx hb dL_law_285 (by decide) ?_
  refine lv_iadd hx hb dL_law_286 ?_
  refine va_sld hx hb hX hbl hbA G.2.2 hi1 dL_law_287 ?_
  refine lv_aload_n hx hb dL_law_288 rfl (lv_at hl 0 rfl) ?_
  refine lv_iload_n hx hb dL_law_289 rfl (lv_at hl 3 rfl) ?_
  refine lv_iconst (v := 2) hx hb dL_law_290 (by decide) ?_
  refine lv_iadd hx hb dL_law_291 ?_
  refine va_sld hx hb hX hbl hbA G.2.2 hi2 dL_law_292 ?_
  refine g_calli (X := (XM B st σ')) (g_runV (X := (XM B st σ')) (t := 124) (n := 2) (As := [.int (xs (x3 + 1).toNatClampNeg), .int (xs (x3 + 2).toNatClampNeg)]) (rest := [.int r]) C G (mX9_scrap l (XM B st σ') τ τ' 124 (xs (x3 + 1).toNatClampNeg) (xs (x3 + 2).toNatClampNeg) r (okM σ') e2) (okM σ').1.2 (gE_9 (okM σ').1.1) rfl (g_goodV u_ml_RL_36 u_im_yX9_scrap u_se_yX9_scrap u_in_RX9 u_co_yX9_scrap) rfl rfl rfl (by decide +kernel) ⟨Nat.le_of_ble_eq_true rfl, Nat.le_of_ble_eq_true rfl⟩ rfl hl.1 rfl (Nat.le_of_ble_eq_true rfl) dL_law_293 ⟨Nat.le_of_ble_eq_true rfl, Nat.le_of_ble_eq_true rfl⟩) G (fun H locs G => ?_)
  have G := sw_MC G
  refine lv_icmp_eq (tgt := 752) hx hb dL_law_296 (by decide) (fun _ => ?_) (fun c => absurd rfl c)
  exact kk σ' τ' hRR H locs G
set_option maxHeartbeats 4000000 in
set_option maxRecDepth 100000 in
theorem law_edge {p : Program} {l : Launch} {ev : Env} {s : State} {m : MethodId} {below : List Frame} {meth : Method} {c : Code} {b L : Nat} {xs : Nat → Int32} {B : gBs} {st : Nat → Nat → Bool} {RR : gM → gM → Prop} (S : gSteps RR) (hL : L ≤ 3072) (C : gC (xmk B 0 st) p s m #[Value.ref b] c code 4 RL) (hX : va_X b L xs s s.heap) (hbl : b < s.heap.size) (hbA : ¬ bA B b) (okC : ∀ τ, gok8 (XC B st τ) 0) (okM : ∀ σ, gok9 (XM B st σ) 124) {σ τ : gM} (h : RR σ τ) {i : Nat} {x3 : Int32} (ex : x3 = nI i) (hin : i + 6 ≤ L) {H : Heap} {locs : List Loc} {ls : Array Slot} (G : gG (XC B st τ) σ s H locs) (hl : lv_has ls 4 [(0, .ref b), (1, .ref (bN B + 0)), (2, .ref (bN B + 124)), (3, .int x3)])
    (kk : ∀ (σ2 τ2 : gM), RR σ2 τ2 → ∀ (H : Heap) (locs : List Loc), gG (XC B st τ2) σ2 s H locs → W p l ev room_1 s m #[Value.ref b] below meth c H locs 134 7172 (lw_Z below #[Value.ref b] s) (F0 m 752 ls [])) : W p l ev room_1 s m #[Value.ref b] below meth c H locs 134 7172 (lw_Z below #[Value.ref b] s) (F0 m 301 ls []) := by
  obtain ⟨⟨hx, hb, hml, hown, hts⟩, hK⟩ := id C
  obtain ⟨r, τ', e1, e2, hRR⟩ := S.2.2.2.2.2.1 σ τ (xs (x3 + 1).toNatClampNeg) (xs (x3 + 2).toNatClampNeg) (xs (x3 + 3).toNatClampNeg) (xs (x3 + 4).toNatClampNeg) h
  have hi1 : vp_in (x3 + 1) L := law_in ex (k := 1) (by omega) hL
  have hi2 : vp_in (x3 + 2) L := law_in ex (k := 2) (by omega) hL
  have hi3 : vp_in (x3 + 3) L := law_in ex (k := 3) (by omega) hL
  have hi4 : vp_in (x3 + 4) L := law_in ex (k := 4) (by omega) hL
  refine lv_aload_n hx hb dL_law_301 rfl (lv_at hl 1 rfl) ?_
  refine lv_aload_n hx hb dL_law_302 rfl (lv_at hl 0 rfl) ?_
  refine lv_iload_n hx hb dL_law_303 rfl (lv_at hl 3 rfl) ?_
  refine lv_iconst (v := 1) hx hb dL_law_304 (by decide) ?_
  refine lv_iadd hx hb dL_law_305 ?_
  refine va_sld hx hb hX hbl hbA G.2.2 hi1 dL_law_306 ?_
  refine lv_aload_n hx hb dL_law_307 rfl (lv_at hl 0 rfl) ?_
  refine lv_iload_n hx hb dL_law_308 rfl (lv_at hl 3 rfl) ?_
  refine lv_iconst (v := 2) hx hb dL_law_309 (by decide) ?_
  refine lv_iadd hx hb dL_law_310 ?_
  refine va_sld hx hb hX hbl hbA G.2.2 hi2 dL_law_311 ?_
  refine lv_aload_n hx hb dL_law_312 rfl (lv_at hl 0 rfl) ?_
  refine lv_iload_n hx hb dL_law_313 rfl (lv_at hl 3 rfl) ?_
  refine lv_iconst (v := 3) hx hb dL_law_314 (by decide) ?_
  refine lv_iadd hx hb dL_law_315 ?_
  refine va_sld hx hb hX hbl hbA G.2.2 hi3 dL_law_316 ?_
  refine lv_aload_n hx hb dL_law_317 rfl (lv_at hl 0 rfl) ?_
  refine lv_iload_n hx hb dL_law_318 rfl (lv_at hl 3 rfl) ?_
  refine lv_iconst (v := 4) hx hb dL_law_319 (by decide) ?_
  refine lv_iadd hx hb dL_law_320 ?_
  refine va_sld hx hb hX hbl hbA G.2.2 hi4 dL_law_321 ?_
  refine g_calli (X := (XC B st τ)) (g_runV (X := (XC B st τ)) (t := 0) (n := 4) (As := [.int (xs (x3 + 1).toNatClampNeg), .int (xs (x3 + 2).toNatClampNeg), .int (xs (x3 + 3).toNatClampNeg), .int (xs (x3 + 4).toNatClampNeg)]) (rest := []) C G (mX8_edge l (XC B st τ) σ 0 (xs (x3 + 1).toNatClampNeg) (xs (x3 + 2).toNatClampNeg) (xs (x3 + 3).toNatClampNeg) (xs (x3 + 4).toNatClampNeg) r (okC τ) e1) (okC τ).1.2 (gE_8 (okC τ).1.1) rfl (g_goodV u_ml_RL_37 u_im_yX8_edge u_se_yX8_edge u_in_RX8 u_co_yX8_edge) rfl rfl rfl (by decide +kernel) ⟨Nat.le_of_ble_eq_true rfl, Nat.le_of_ble_eq_true rfl⟩ rfl hl.1 rfl (Nat.le_of_ble_eq_true rfl) dL_law_322 ⟨Nat.le_of_ble_eq_true rfl, Nat.le_of_ble_eq_true rfl⟩) G (fun H locs G => ?_)
  have G := sw_CM G
  refine lv_aload_n hx hb dL_law_325 rfl (lv_at hl 2 rfl) ?_
  refine lv_aload_n hx hb dL_law_326 rfl (lv_at hl 0 rfl) ?_
  refine lv_iload_n hx hb dL_law_327 rfl (lv_at hl 3 rfl) ?_
  refine lv_iconst (v := 1) hx hb dL_law_328 (by decide) ?_
  refine lv_iadd hx hb dL_law_329 ?_
  refine va_sld hx hb hX hbl hbA G.2.2 hi1 dL_law_330 ?_
  refine lv_aload_n hx hb dL_law_331 rfl (lv_at hl 0 rfl) ?_
  refine lv_iload_n hx hb dL_law_332 rfl (lv_at hl 3 rfl) ?_
  refine lv_iconst (v := 2) hx hb dL_law_333 (by decide) ?_
  refine lv_iadd hx hb dL_law_334 ?_
  refine va_sld hx hb hX hbl hbA G.2.2 hi2 dL_law_335 ?_
  refine lv_aload_n hx hb dL_law_336 rfl (lv_at hl 0 rfl) ?_
  refine lv_iload_n hx hb dL_law_337 rfl (lv_at hl 3 rfl) ?_
  refine lv_iconst (v := 3) hx hb dL_law_338 (by decide) ?_
  refine lv_iadd hx hb dL_law_339 ?_
  refine va_sld hx hb hX hbl hbA G.2.2 hi3 dL_law_340 ?_
  refine lv_aload_n hx hb dL_law_341 rfl (lv_at hl 0 rfl) ?_
  refine lv_iload_n hx hb dL_law_342 rfl (lv_at hl 3 rfl) ?_
  refine lv_iconst (v := 4) hx hb dL_law_343 (by decide) ?_
  refine lv_iadd hx hb dL_law_344 ?_
  refine va_sld hx hb hX hbl hbA G.2.2 hi4 dL_law_345 ?_
  refine g_calli (X := (XM B st σ)) (g_runV (X := (XM B st σ)) (t := 124) (n := 4) (As := [.int (xs (x3 + 1).toNatClampNeg), .int (xs (x3 + 2).toNatClampNeg), .int (xs (x3 + 3).toNatClampNeg), .int (xs (x3 + 4).toNatClampNeg)]) (rest := [.int r]) C G (mX9_edge l (XM B st σ) τ τ' 124 (xs (x3 + 1).toNatClampNeg) (xs (x3 + 2).toNatClampNeg) (xs (x3 + 3).toNatClampNeg) (xs (x3 + 4).toNatClampNeg) r (okM σ) e2) (okM σ).1.2 (gE_9 (okM σ).1.1) rfl (g_goodV u_ml_RL_41 u_im_yX9_edge u_se_yX9_edge u_in_RX9 u_co_yX9_edge) rfl rfl rfl (by decide +kernel) ⟨Nat.le_of_ble_eq_true rfl, Nat.le_of_ble_eq_true rfl⟩ rfl hl.1 rfl (Nat.le_of_ble_eq_true rfl) dL_law_346 ⟨Nat.le_of_ble_eq_true rfl, Nat.le_of_ble_eq_true rfl⟩) G (fun H locs G => ?_)
  have G := sw_MC G
  refine lv_icmp_eq (tgt := 752) hx hb dL_law_349 (by decide) (fun _ => ?_) (fun c => absurd rfl c)
  exact kk σ τ' hRR H locs G
set_option maxHeartbeats 4000000 in
set_option maxRecDepth 100000 in
theorem law_undo {p : Program} {l : Launch} {ev : Env} {s : State} {m : MethodId} {below : List Frame} {meth : Method} {c : Code} {b L : Nat} {xs : Nat → Int32} {B : gBs} {st : Nat → Nat → Bool} {RR : gM → gM → Prop} (S : gSteps RR) (hL : L ≤ 3072) (C : gC (xmk B 0 st) p s m #[Value.ref b] c code 4 RL) (hX : va_X b L xs s s.heap) (hbl : b < s.heap.size) (hbA : ¬ bA B b) (okC : ∀ τ, gok8 (XC B st τ) 0) (okM : ∀ σ, gok9 (XM B st σ) 124) {σ τ : gM} (h : RR σ τ) {i : Nat} {x3 : Int32} (ex : x3 = nI i) (hin : i + 6 ≤ L) {H : Heap} {locs : List Loc} {ls : Array Slot} (G : gG (XC B st τ) σ s H locs) (hl : lv_has ls 4 [(0, .ref b), (1, .ref (bN B + 0)), (2, .ref (bN B + 124)), (3, .int x3)])
    (kk : ∀ (σ2 τ2 : gM), RR σ2 τ2 → ∀ (H : Heap) (locs : List Loc), gG (XC B st τ2) σ2 s H locs → W p l ev room_1 s m #[Value.ref b] below meth c H locs 134 7172 (lw_Z below #[Value.ref b] s) (F0 m 752 ls [])) : W p l ev room_1 s m #[Value.ref b] below meth c H locs 134 7172 (lw_Z below #[Value.ref b] s) (F0 m 354 ls []) := by
  obtain ⟨⟨hx, hb, hml, hown, hts⟩, hK⟩ := id C
  obtain ⟨r, σ', τ', e1, e2, hRR⟩ := S.2.2.2.2.2.2.1 σ τ  h
  refine lv_aload_n hx hb dL_law_354 rfl (lv_at hl 1 rfl) ?_
  refine g_calli (X := (XC B st τ)) (g_runV (X := (XC B st τ)) (t := 0) (n := 0) (As := []) (rest := []) C G (mX8_undo l (XC B st τ) σ σ' 0  r (okC τ) e1) (okC τ).1.2 (gE_8 (okC τ).1.1) rfl (g_goodV u_ml_RL_42 u_im_yX8_undo u_se_yX8_undo u_in_RX8 u_co_yX8_undo) rfl rfl rfl (by decide +kernel) ⟨Nat.le_of_ble_eq_true rfl, Nat.le_of_ble_eq_true rfl⟩ rfl hl.1 rfl (Nat.le_of_ble_eq_true rfl) dL_law_355 ⟨Nat.le_of_ble_eq_true rfl, Nat.le_of_ble_eq_true rfl⟩) G (fun H locs G => ?_)
  have G := sw_CM G
  refine lv_aload_n hx hb dL_law_358 rfl (lv_at hl 2 rfl) ?_
  refine g_calli (X := (XM B st σ')) (g_runV (X := (XM B st σ')) (t := 124) (n := 0) (As := []) (rest := [.int r]) C G (mX9_undo l (XM B st σ') τ τ' 124  r (okM σ') e2) (okM σ').1.2 (gE_9 (okM σ').1.1) rfl (g_goodV u_ml_RL_45 u_im_yX9_undo u_se_yX9_undo u_in_RX9 u_co_yX9_undo) rfl rfl rfl (by decide +kernel) ⟨Nat.le_of_ble_eq_true rfl, Nat.le_of_ble_eq_true rfl⟩ rfl hl.1 rfl (Nat.le_of_ble_eq_true rfl) dL_law_359 ⟨Nat.le_of_ble_eq_true rfl, Nat.le_of_ble_eq_true rfl⟩) G (fun H locs G => ?_)
  have G := sw_MC G
  refine lv_icmp_eq (tgt := 752) hx hb dL_law_362 (by decide) (fun _ => ?_) (fun c => absurd rfl c)
  exact kk σ' τ' hRR H locs G
set_option maxHeartbeats 4000000 in
set_option maxRecDepth 100000 in
theorem law_count {p : Program} {l : Launch} {ev : Env} {s : State} {m : MethodId} {below : List Frame} {meth : Method} {c : Code} {b L : Nat} {xs : Nat → Int32} {B : gBs} {st : Nat → Nat → Bool} {RR : gM → gM → Prop} (S : gSteps RR) (hL : L ≤ 3072) (C : gC (xmk B 0 st) p s m #[Value.ref b] c code 4 RL) (hX : va_X b L xs s s.heap) (hbl : b < s.heap.size) (hbA : ¬ bA B b) (okC : ∀ τ, gok8 (XC B st τ) 0) (okM : ∀ σ, gok9 (XM B st σ) 124) {σ τ : gM} (h : RR σ τ) {i : Nat} {x3 : Int32} (ex : x3 = nI i) (hin : i + 6 ≤ L) {H : Heap} {locs : List Loc} {ls : Array Slot} (G : gG (XC B st τ) σ s H locs) (hl : lv_has ls 4 [(0, .ref b), (1, .ref (bN B + 0)), (2, .ref (bN B + 124)), (3, .int x3)])
    (kk : ∀ (σ2 τ2 : gM), RR σ2 τ2 → ∀ (H : Heap) (locs : List Loc), gG (XC B st τ2) σ2 s H locs → W p l ev room_1 s m #[Value.ref b] below meth c H locs 134 7172 (lw_Z below #[Value.ref b] s) (F0 m 752 ls [])) : W p l ev room_1 s m #[Value.ref b] below meth c H locs 134 7172 (lw_Z below #[Value.ref b] s) (F0 m 367 ls []) := by
  obtain ⟨⟨hx, hb, hml, hown, hts⟩, hK⟩ := id C
  obtain ⟨r, σ', τ', e1, e2, hRR⟩ := S.2.2.2.2.2.2.2.1 σ τ (xs (x3 + 1).toNatClampNeg) h
  have hi1 : vp_in (x3 + 1) L := law_in ex (k := 1) (by omega) hL
  refine lv_aload_n hx hb dL_law_367 rfl (lv_at hl 1 rfl) ?_
  refine lv_aload_n hx hb dL_law_368 rfl (lv_at hl 0 rfl) ?_
  refine lv_iload_n hx hb dL_law_369 rfl (lv_at hl 3 rfl) ?_
  refine lv_iconst (v := 1) hx hb dL_law_370 (by decide) ?_
  refine lv_iadd hx hb dL_law_371 ?_
  refine va_sld hx hb hX hbl hbA G.2.2 hi1 dL_law_372 ?_
  refine g_calli (X := (XC B st τ)) (g_runV (X := (XC B st τ)) (t := 0) (n := 1) (As := [.int (xs (x3 + 1).toNatClampNeg)]) (rest := []) C G (mX8_count l (XC B st τ) σ σ' 0 (xs (x3 + 1).toNatClampNeg) r (okC τ) e1) (okC τ).1.2 (gE_8 (okC τ).1.1) rfl (g_goodV u_ml_RL_46 u_im_yX8_count u_se_yX8_count u_in_RX8 u_co_yX8_count) rfl rfl rfl (by decide +kernel) ⟨Nat.le_of_ble_eq_true rfl, Nat.le_of_ble_eq_true rfl⟩ rfl hl.1 rfl (Nat.le_of_ble_eq_true rfl) dL_law_373 ⟨Nat.le_of_ble_eq_true rfl, Nat.le_of_ble_eq_true rfl⟩) G (fun H locs G => ?_)
  have G := sw_CM G
  refine lv_aload_n hx hb dL_law_376 rfl (lv_at hl 2 rfl) ?_
  refine lv_aload_n hx hb dL_law_377 rfl (lv_at hl 0 rfl) ?_
  refine lv_iload_n hx hb dL_law_378 rfl (lv_at hl 3 rfl) ?_
  refine lv_iconst (v := 1) hx hb dL_law_379 (by decide) ?_
  refine lv_iadd hx hb dL_law_380 ?_
  refine va_sld hx hb hX hbl hbA G.2.2 hi1 dL_law_381 ?_
  refine g_calli (X := (XM B st σ')) (g_runV (X := (XM B st σ')) (t := 124) (n := 1) (As := [.int (xs (x3 + 1).toNatClampNeg)]) (rest := [.int r]) C G (mX9_count l (XM B st σ') τ τ' 124 (xs (x3 + 1).toNatClampNeg) r (okM σ') e2) (okM σ').1.2 (gE_9 (okM σ').1.1) rfl (g_goodV u_ml_RL_49 u_im_yX9_count u_se_yX9_count u_in_RX9 u_co_yX9_count) rfl rfl rfl (by decide +kernel) ⟨Nat.le_of_ble_eq_true rfl, Nat.le_of_ble_eq_true rfl⟩ rfl hl.1 rfl (Nat.le_of_ble_eq_true rfl) dL_law_382 ⟨Nat.le_of_ble_eq_true rfl, Nat.le_of_ble_eq_true rfl⟩) G (fun H locs G => ?_)
  have G := sw_MC G
  refine lv_icmp_eq (tgt := 752) hx hb dL_law_385 (by decide) (fun _ => ?_) (fun c => absurd rfl c)
  exact kk σ' τ' hRR H locs G
set_option maxHeartbeats 4000000 in
set_option maxRecDepth 100000 in
theorem law_lay {p : Program} {l : Launch} {ev : Env} {s : State} {m : MethodId} {below : List Frame} {meth : Method} {c : Code} {b L : Nat} {xs : Nat → Int32} {B : gBs} {st : Nat → Nat → Bool} {RR : gM → gM → Prop} (S : gSteps RR) (hL : L ≤ 3072) (C : gC (xmk B 0 st) p s m #[Value.ref b] c code 4 RL) (hX : va_X b L xs s s.heap) (hbl : b < s.heap.size) (hbA : ¬ bA B b) (okC : ∀ τ, gok8 (XC B st τ) 0) (okM : ∀ σ, gok9 (XM B st σ) 124) {σ τ : gM} (h : RR σ τ) {i : Nat} {x3 : Int32} (ex : x3 = nI i) (hin : i + 6 ≤ L) {H : Heap} {locs : List Loc} {ls : Array Slot} (G : gG (XC B st τ) σ s H locs) (hl : lv_has ls 4 [(0, .ref b), (1, .ref (bN B + 0)), (2, .ref (bN B + 124)), (3, .int x3)])
    (kk : ∀ (σ2 τ2 : gM), RR σ2 τ2 → ∀ (H : Heap) (locs : List Loc), gG (XC B st τ2) σ2 s H locs → W p l ev room_1 s m #[Value.ref b] below meth c H locs 134 7172 (lw_Z below #[Value.ref b] s) (F0 m 752 ls [])) : W p l ev room_1 s m #[Value.ref b] below meth c H locs 134 7172 (lw_Z below #[Value.ref b] s) (F0 m 390 ls []) := by
  obtain ⟨⟨hx, hb, hml, hown, hts⟩, hK⟩ := id C
  obtain ⟨r, σ', τ', e1, e2, hRR⟩ := S.2.2.2.2.2.2.2.2.1 σ τ (xs (x3 + 1).toNatClampNeg) (xs (x3 + 2).toNatClampNeg) (xs (x3 + 3).toNatClampNeg) h
  have hi1 : vp_in (x3 + 1) L := law_in ex (k := 1) (by omega) hL
  have hi2 : vp_in (x3 + 2) L := law_in ex (k := 2) (by omega) hL
  have hi3 : vp_in (x3 + 3) L := law_in ex (k := 3) (by omega) hL
  refine lv_aload_n hx hb dL_law_390 rfl (lv_at hl 1 rfl) ?_
  refine lv_aload_n hx hb dL_law_391 rfl (lv_at hl 0 rfl) ?_
  refine lv_iload_n hx hb dL_law_392 rfl (lv_at hl 3 rfl) ?_
  refine lv_iconst (v := 1) hx hb dL_law_393 (by decide) ?_
  refine lv_iadd hx hb dL_law_394 ?_
  refine va_sld hx hb hX hbl hbA G.2.2 hi1 dL_law_395 ?_
  refine lv_aload_n hx hb dL_law_396 rfl (lv_at hl 0 rfl) ?_
  refine lv_iload_n hx hb dL_law_397 rfl (lv_at hl 3 rfl) ?_
  refine lv_iconst (v := 2) hx hb dL_law_398 (by decide) ?_
  refine lv_iadd hx hb dL_law_399 ?_
  refine va_sld hx hb hX hbl hbA G.2.2 hi2 dL_law_400 ?_
  refine lv_aload_n hx hb dL_law_401 rfl (lv_at hl 0 rfl) ?_
  refine lv_iload_n hx hb dL_law_402 rfl (lv_at hl 3 rfl) ?_
  refine lv_iconst (v := 3) hx hb dL_law_403 (by decide) ?_
  refine lv_iadd hx hb dL_law_404 ?_
  refine va_sld hx hb hX hbl hbA G.2.2 hi3 dL_law_405 ?_
  refine g_calli (X := (XC B st τ)) (g_runV (X := (XC B st τ)) (t := 0) (n := 3) (As := [.int (xs (x3 + 1).toNatClampNeg), .int (xs (x3 + 2).toNatClampNeg), .int (xs (x3 + 3).toNatClampNeg)]) (rest := []) C G (mX8_lay l (XC B st τ) σ σ' 0 (xs (x3 + 1).toNatClampNeg) (xs (x3 + 2).toNatClampNeg) (xs (x3 + 3).toNatClampNeg) r (okC τ) e1) (okC τ).1.2 (gE_8 (okC τ).1.1) rfl (g_goodV u_ml_RL_50 u_im_yX8_lay u_se_yX8_lay u_in_RX8 u_co_yX8_lay) rfl rfl rfl (by decide +kernel) ⟨Nat.le_of_ble_eq_true rfl, Nat.le_of_ble_eq_true rfl⟩ rfl hl.1 rfl (Nat.le_of_ble_eq_true rfl) dL_law_406 ⟨Nat.le_of_ble_eq_true rfl, Nat.le_of_ble_eq_true rfl⟩) G (fun H locs G => ?_)
  have G := sw_CM G
  refine lv_aload_n hx hb dL_law_409 rfl (lv_at hl 2 rfl) ?_
  refine lv_aload_n hx hb dL_law_410 rfl (lv_at hl 0 rfl) ?_
  refine lv_iload_n hx hb dL_law_411 rfl (lv_at hl 3 rfl) ?_
  refine lv_iconst (v := 1) hx hb dL_law_412 (by decide) ?_
  refine lv_iadd hx hb dL_law_413 ?_
  refine va_sld hx hb hX hbl hbA G.2.2 hi1 dL_law_414 ?_
  refine lv_aload_n hx hb dL_law_415 rfl (lv_at hl 0 rfl) ?_
  refine lv_iload_n hx hb dL_law_416 rfl (lv_at hl 3 rfl) ?_
  refine lv_iconst (v := 2) hx hb dL_law_417 (by decide) ?_
  refine lv_iadd hx hb dL_law_418 ?_
  refine va_sld hx hb hX hbl hbA G.2.2 hi2 dL_law_419 ?_
  refine lv_aload_n hx hb dL_law_420 rfl (lv_at hl 0 rfl) ?_
  refine lv_iload_n hx hb dL_law_421 rfl (lv_at hl 3 rfl) ?_
  refine lv_iconst (v := 3) hx hb dL_law_422 (by decide) ?_
  refine lv_iadd hx hb dL_law_423 ?_
  refine va_sld hx hb hX hbl hbA G.2.2 hi3 dL_law_424 ?_
  refine g_calli (X := (XM B st σ')) (g_runV (X := (XM B st σ')) (t := 124) (n := 3) (As := [.int (xs (x3 + 1).toNatClampNeg), .int (xs (x3 + 2).toNatClampNeg), .int (xs (x3 + 3).toNatClampNeg)]) (rest := [.int r]) C G (mX9_lay l (XM B st σ') τ τ' 124 (xs (x3 + 1).toNatClampNeg) (xs (x3 + 2).toNatClampNeg) (xs (x3 + 3).toNatClampNeg) r (okM σ') e2) (okM σ').1.2 (gE_9 (okM σ').1.1) rfl (g_goodV u_ml_RL_54 u_im_yX9_lay u_se_yX9_lay u_in_RX9 u_co_yX9_lay) rfl rfl rfl (by decide +kernel) ⟨Nat.le_of_ble_eq_true rfl, Nat.le_of_ble_eq_true rfl⟩ rfl hl.1 rfl (Nat.le_of_ble_eq_true rfl) dL_law_425 ⟨Nat.le_of_ble_eq_true rfl, Nat.le_of_ble_eq_true rfl⟩) G (fun H locs G => ?_)
  have G := sw_MC G
  refine lv_icmp_eq (tgt := 752) hx hb dL_law_428 (by decide) (fun _ => ?_) (fun c => absurd rfl c)
  exact kk σ' τ' hRR H locs G
set_option maxHeartbeats 4000000 in
set_option maxRecDepth 100000 in
theorem law_force {p : Program} {l : Launch} {ev : Env} {s : State} {m : MethodId} {below : List Frame} {meth : Method} {c : Code} {b L : Nat} {xs : Nat → Int32} {B : gBs} {st : Nat → Nat → Bool} {RR : gM → gM → Prop} (S : gSteps RR) (hL : L ≤ 3072) (C : gC (xmk B 0 st) p s m #[Value.ref b] c code 4 RL) (hX : va_X b L xs s s.heap) (hbl : b < s.heap.size) (hbA : ¬ bA B b) (okC : ∀ τ, gok8 (XC B st τ) 0) (okM : ∀ σ, gok9 (XM B st σ) 124) {σ τ : gM} (h : RR σ τ) {i : Nat} {x3 : Int32} (ex : x3 = nI i) (hin : i + 6 ≤ L) {H : Heap} {locs : List Loc} {ls : Array Slot} (G : gG (XC B st τ) σ s H locs) (hl : lv_has ls 4 [(0, .ref b), (1, .ref (bN B + 0)), (2, .ref (bN B + 124)), (3, .int x3)])
    (kk : ∀ (σ2 τ2 : gM), RR σ2 τ2 → ∀ (H : Heap) (locs : List Loc), gG (XC B st τ2) σ2 s H locs → W p l ev room_1 s m #[Value.ref b] below meth c H locs 134 7172 (lw_Z below #[Value.ref b] s) (F0 m 752 ls [])) : W p l ev room_1 s m #[Value.ref b] below meth c H locs 134 7172 (lw_Z below #[Value.ref b] s) (F0 m 433 ls []) := by
  obtain ⟨⟨hx, hb, hml, hown, hts⟩, hK⟩ := id C
  obtain ⟨r, σ', τ', e1, e2, hRR⟩ := S.2.2.2.2.2.2.2.2.2.1 σ τ (xs (x3 + 1).toNatClampNeg) (xs (x3 + 2).toNatClampNeg) (xs (x3 + 3).toNatClampNeg) h
  have hi1 : vp_in (x3 + 1) L := law_in ex (k := 1) (by omega) hL
  have hi2 : vp_in (x3 + 2) L := law_in ex (k := 2) (by omega) hL
  have hi3 : vp_in (x3 + 3) L := law_in ex (k := 3) (by omega) hL
  refine lv_aload_n hx hb dL_law_433 rfl (lv_at hl 1 rfl) ?_
  refine lv_aload_n hx hb dL_law_434 rfl (lv_at hl 0 rfl) ?_
  refine lv_iload_n hx hb dL_law_435 rfl (lv_at hl 3 rfl) ?_
  refine lv_iconst (v := 1) hx hb dL_law_436 (by decide) ?_
  refine lv_iadd hx hb dL_law_437 ?_
  refine va_sld hx hb hX hbl hbA G.2.2 hi1 dL_law_438 ?_
  refine lv_aload_n hx hb dL_law_439 rfl (lv_at hl 0 rfl) ?_
  refine lv_iload_n hx hb dL_law_440 rfl (lv_at hl 3 rfl) ?_
  refine lv_iconst (v := 2) hx hb dL_law_441 (by decide) ?_
  refine lv_iadd hx hb dL_law_442 ?_
  refine va_sld hx hb hX hbl hbA G.2.2 hi2 dL_law_443 ?_
  refine lv_aload_n hx hb dL_law_444 rfl (lv_at hl 0 rfl) ?_
  refine lv_iload_n hx hb dL_law_445 rfl (lv_at hl 3 rfl) ?_
  refine lv_iconst (v := 3) hx hb dL_law_446 (by decide) ?_
  refine lv_iadd hx hb dL_law_447 ?_
  refine va_sld hx hb hX hbl hbA G.2.2 hi3 dL_law_448 ?_
  refine g_calli (X := (XC B st τ)) (g_runV (X := (XC B st τ)) (t := 0) (n := 3) (As := [.int (xs (x3 + 1).toNatClampNeg), .int (xs (x3 + 2).toNatClampNeg), .int (xs (x3 + 3).toNatClampNeg)]) (rest := []) C G (mX8_force l (XC B st τ) σ σ' 0 (xs (x3 + 1).toNatClampNeg) (xs (x3 + 2).toNatClampNeg) (xs (x3 + 3).toNatClampNeg) r (okC τ) e1) (okC τ).1.2 (gE_8 (okC τ).1.1) rfl (g_goodV u_ml_RL_55 u_im_yX8_force u_se_yX8_force u_in_RX8 u_co_yX8_force) rfl rfl rfl (by decide +kernel) ⟨Nat.le_of_ble_eq_true rfl, Nat.le_of_ble_eq_true rfl⟩ rfl hl.1 rfl (Nat.le_of_ble_eq_true rfl) dL_law_449 ⟨Nat.le_of_ble_eq_true rfl, Nat.le_of_ble_eq_true rfl⟩) G (fun H locs G => ?_)
  have G := sw_CM G
  refine lv_aload_n hx hb dL_law_452 rfl (lv_at hl 2 rfl) ?_
  refine lv_aload_n hx hb dL_law_453 rfl (lv_at hl 0 rfl) ?_
  refine lv_iload_n hx hb dL_law_454 rfl (lv_at hl 3 rfl) ?_
  refine lv_iconst (v := 1) hx hb dL_law_455 (by decide) ?_
  refine lv_iadd hx hb dL_law_456 ?_
  refine va_sld hx hb hX hbl hbA G.2.2 hi1 dL_law_457 ?_
  refine lv_aload_n hx hb dL_law_458 rfl (lv_at hl 0 rfl) ?_
  refine lv_iload_n hx hb dL_law_459 rfl (lv_at hl 3 rfl) ?_
  refine lv_iconst (v := 2) hx hb dL_law_460 (by decide) ?_
  refine lv_iadd hx hb dL_law_461 ?_
  refine va_sld hx hb hX hbl hbA G.2.2 hi2 dL_law_462 ?_
  refine lv_aload_n hx hb dL_law_463 rfl (lv_at hl 0 rfl) ?_
  refine lv_iload_n hx hb dL_law_464 rfl (lv_at hl 3 rfl) ?_
  refine lv_iconst (v := 3) hx hb dL_law_465 (by decide) ?_
  refine lv_iadd hx hb dL_law_466 ?_
  refine va_sld hx hb hX hbl hbA G.2.2 hi3 dL_law_467 ?_
  refine g_calli (X := (XM B st σ')) (g_runV (X := (XM B st σ')) (t := 124) (n := 3) (As := [.int (xs (x3 + 1).toNatClampNeg), .int (xs (x3 + 2).toNatClampNeg), .int (xs (x3 + 3).toNatClampNeg)]) (rest := [.int r]) C G (mX9_force l (XM B st σ') τ τ' 124 (xs (x3 + 1).toNatClampNeg) (xs (x3 + 2).toNatClampNeg) (xs (x3 + 3).toNatClampNeg) r (okM σ') e2) (okM σ').1.2 (gE_9 (okM σ').1.1) rfl (g_goodV u_ml_RL_58 u_im_yX9_force u_se_yX9_force u_in_RX9 u_co_yX9_force) rfl rfl rfl (by decide +kernel) ⟨Nat.le_of_ble_eq_true rfl, Nat.le_of_ble_eq_true rfl⟩ rfl hl.1 rfl (Nat.le_of_ble_eq_true rfl) dL_law_468 ⟨Nat.le_of_ble_eq_true rfl, Nat.le_of_ble_eq_true rfl⟩) G (fun H locs G => ?_)
  have G := sw_MC G
  refine lv_icmp_eq (tgt := 752) hx hb dL_law_471 (by decide) (fun _ => ?_) (fun c => absurd rfl c)
  exact kk σ' τ' hRR H locs G
set_option maxHeartbeats 4000000 in
set_option maxRecDepth 100000 in
theorem law_lift {p : Program} {l : Launch} {ev : Env} {s : State} {m : MethodId} {below : List Frame} {meth : Method} {c : Code} {b L : Nat} {xs : Nat → Int32} {B : gBs} {st : Nat → Nat → Bool} {RR : gM → gM → Prop} (S : gSteps RR) (hL : L ≤ 3072) (C : gC (xmk B 0 st) p s m #[Value.ref b] c code 4 RL) (hX : va_X b L xs s s.heap) (hbl : b < s.heap.size) (hbA : ¬ bA B b) (okC : ∀ τ, gok8 (XC B st τ) 0) (okM : ∀ σ, gok9 (XM B st σ) 124) {σ τ : gM} (h : RR σ τ) {i : Nat} {x3 : Int32} (ex : x3 = nI i) (hin : i + 6 ≤ L) {H : Heap} {locs : List Loc} {ls : Array Slot} (G : gG (XC B st τ) σ s H locs) (hl : lv_has ls 4 [(0, .ref b), (1, .ref (bN B + 0)), (2, .ref (bN B + 124)), (3, .int x3)])
    (kk : ∀ (σ2 τ2 : gM), RR σ2 τ2 → ∀ (H : Heap) (locs : List Loc), gG (XC B st τ2) σ2 s H locs → W p l ev room_1 s m #[Value.ref b] below meth c H locs 134 7172 (lw_Z below #[Value.ref b] s) (F0 m 752 ls [])) : W p l ev room_1 s m #[Value.ref b] below meth c H locs 134 7172 (lw_Z below #[Value.ref b] s) (F0 m 476 ls []) := by
  obtain ⟨⟨hx, hb, hml, hown, hts⟩, hK⟩ := id C
  obtain ⟨r, σ', τ', e1, e2, hRR⟩ := S.2.2.2.2.2.2.2.2.2.2.1 σ τ (xs (x3 + 1).toNatClampNeg) h
  have hi1 : vp_in (x3 + 1) L := law_in ex (k := 1) (by omega) hL
  refine lv_aload_n hx hb dL_law_476 rfl (lv_at hl 1 rfl) ?_
  refine lv_aload_n hx hb dL_law_477 rfl (lv_at hl 0 rfl) ?_
  refine lv_iload_n hx hb dL_law_478 rfl (lv_at hl 3 rfl) ?_
  refine lv_iconst (v := 1) hx hb dL_law_479 (by decide) ?_
  refine lv_iadd hx hb dL_law_480 ?_
  refine va_sld hx hb hX hbl hbA G.2.2 hi1 dL_law_481 ?_
  refine g_calli (X := (XC B st τ)) (g_runV (X := (XC B st τ)) (t := 0) (n := 1) (As := [.int (xs (x3 + 1).toNatClampNeg)]) (rest := []) C G (mX8_lift l (XC B st τ) σ σ' 0 (xs (x3 + 1).toNatClampNeg) r (okC τ) e1) (okC τ).1.2 (gE_8 (okC τ).1.1) rfl (g_goodV u_ml_RL_59 u_im_yX8_lift u_se_yX8_lift u_in_RX8 u_co_yX8_lift) rfl rfl rfl (by decide +kernel) ⟨Nat.le_of_ble_eq_true rfl, Nat.le_of_ble_eq_true rfl⟩ rfl hl.1 rfl (Nat.le_of_ble_eq_true rfl) dL_law_482 ⟨Nat.le_of_ble_eq_true rfl, Nat.le_of_ble_eq_true rfl⟩) G (fun H locs G => ?_)
  have G := sw_CM G
  refine lv_aload_n hx hb dL_law_485 rfl (lv_at hl 2 rfl) ?_
  refine lv_aload_n hx hb dL_law_486 rfl (lv_at hl 0 rfl) ?_
  refine lv_iload_n hx hb dL_law_487 rfl (lv_at hl 3 rfl) ?_
  refine lv_iconst (v := 1) hx hb dL_law_488 (by decide) ?_
  refine lv_iadd hx hb dL_law_489 ?_
  refine va_sld hx hb hX hbl hbA G.2.2 hi1 dL_law_490 ?_
  refine g_calli (X := (XM B st σ')) (g_runV (X := (XM B st σ')) (t := 124) (n := 1) (As := [.int (xs (x3 + 1).toNatClampNeg)]) (rest := [.int r]) C G (mX9_lift l (XM B st σ') τ τ' 124 (xs (x3 + 1).toNatClampNeg) r (okM σ') e2) (okM σ').1.2 (gE_9 (okM σ').1.1) rfl (g_goodV u_ml_RL_62 u_im_yX9_lift u_se_yX9_lift u_in_RX9 u_co_yX9_lift) rfl rfl rfl (by decide +kernel) ⟨Nat.le_of_ble_eq_true rfl, Nat.le_of_ble_eq_true rfl⟩ rfl hl.1 rfl (Nat.le_of_ble_eq_true rfl) dL_law_491 ⟨Nat.le_of_ble_eq_true rfl, Nat.le_of_ble_eq_true rfl⟩) G (fun H locs G => ?_)
  have G := sw_MC G
  refine lv_icmp_eq (tgt := 752) hx hb dL_law_494 (by decide) (fun _ => ?_) (fun c => absurd rfl c)
  exact kk σ' τ' hRR H locs G
set_option maxHeartbeats 4000000 in
set_option maxRecDepth 100000 in
theorem law_turn {p : Program} {l : Launch} {ev : Env} {s : State} {m : MethodId} {below : List Frame} {meth : Method} {c : Code} {b L : Nat} {xs : Nat → Int32} {B : gBs} {st : Nat → Nat → Bool} {RR : gM → gM → Prop} (S : gSteps RR) (hL : L ≤ 3072) (C : gC (xmk B 0 st) p s m #[Value.ref b] c code 4 RL) (hX : va_X b L xs s s.heap) (hbl : b < s.heap.size) (hbA : ¬ bA B b) (okC : ∀ τ, gok8 (XC B st τ) 0) (okM : ∀ σ, gok9 (XM B st σ) 124) {σ τ : gM} (h : RR σ τ) {i : Nat} {x3 : Int32} (ex : x3 = nI i) (hin : i + 6 ≤ L) {H : Heap} {locs : List Loc} {ls : Array Slot} (G : gG (XC B st τ) σ s H locs) (hl : lv_has ls 4 [(0, .ref b), (1, .ref (bN B + 0)), (2, .ref (bN B + 124)), (3, .int x3)])
    (kk : ∀ (σ2 τ2 : gM), RR σ2 τ2 → ∀ (H : Heap) (locs : List Loc), gG (XC B st τ2) σ2 s H locs → W p l ev room_1 s m #[Value.ref b] below meth c H locs 134 7172 (lw_Z below #[Value.ref b] s) (F0 m 752 ls [])) : W p l ev room_1 s m #[Value.ref b] below meth c H locs 134 7172 (lw_Z below #[Value.ref b] s) (F0 m 499 ls []) := by
  obtain ⟨⟨hx, hb, hml, hown, hts⟩, hK⟩ := id C
  obtain ⟨r, σ', τ', e1, e2, hRR⟩ := S.2.2.2.2.2.2.2.2.2.2.2.1 σ τ (xs (x3 + 1).toNatClampNeg) (xs (x3 + 2).toNatClampNeg) h
  have hi1 : vp_in (x3 + 1) L := law_in ex (k := 1) (by omega) hL
  have hi2 : vp_in (x3 + 2) L := law_in ex (k := 2) (by omega) hL
  refine lv_aload_n hx hb dL_law_499 rfl (lv_at hl 1 rfl) ?_
  refine lv_aload_n hx hb dL_law_500 rfl (lv_at hl 0 rfl) ?_
  refine lv_iload_n hx hb dL_law_501 rfl (lv_at hl 3 rfl) ?_
  refine lv_iconst (v := 1) hx hb dL_law_502 (by decide) ?_
  refine lv_iadd hx hb dL_law_503 ?_
  refine va_sld hx hb hX hbl hbA G.2.2 hi1 dL_law_504 ?_
  refine lv_aload_n hx hb dL_law_505 rfl (lv_at hl 0 rfl) ?_
  refine lv_iload_n hx hb dL_law_506 rfl (lv_at hl 3 rfl) ?_
  refine lv_iconst (v := 2) hx hb dL_law_507 (by decide) ?_
  refine lv_iadd hx hb dL_law_508 ?_
  refine va_sld hx hb hX hbl hbA G.2.2 hi2 dL_law_509 ?_
  refine g_calli (X := (XC B st τ)) (g_runV (X := (XC B st τ)) (t := 0) (n := 2) (As := [.int (xs (x3 + 1).toNatClampNeg), .int (xs (x3 + 2).toNatClampNeg)]) (rest := []) C G (mX8_turn l (XC B st τ) σ σ' 0 (xs (x3 + 1).toNatClampNeg) (xs (x3 + 2).toNatClampNeg) r (okC τ) e1) (okC τ).1.2 (gE_8 (okC τ).1.1) rfl (g_goodV u_ml_RL_63 u_im_yX8_turn u_se_yX8_turn u_in_RX8 u_co_yX8_turn) rfl rfl rfl (by decide +kernel) ⟨Nat.le_of_ble_eq_true rfl, Nat.le_of_ble_eq_true rfl⟩ rfl hl.1 rfl (Nat.le_of_ble_eq_true rfl) dL_law_510 ⟨Nat.le_of_ble_eq_true rfl, Nat.le_of_ble_eq_true rfl⟩) G (fun H locs G => ?_)
  have G := sw_CM G
  refine lv_aload_n hx hb dL_law_513 rfl (lv_at hl 2 rfl) ?_
  refine lv_aload_n hx hb dL_law_514 rfl (lv_at hl 0 rfl) ?_
  refine lv_iload_n hx hb dL_law_515 rfl (lv_at hl 3 rfl) ?_
  refine lv_iconst (v := 1) hx hb dL_law_516 (by decide) ?_
  refine lv_iadd hx hb dL_law_517 ?_
  refine va_sld hx hb hX hbl hbA G.2.2 hi1 dL_law_518 ?_
  refine lv_aload_n hx hb dL_law_519 rfl (lv_at hl 0 rfl) ?_
  refine lv_iload_n hx hb dL_law_520 rfl (lv_at hl 3 rfl) ?_
  refine lv_iconst (v := 2) hx hb dL_law_521 (by decide) ?_
  refine lv_iadd hx hb dL_law_522 ?_
  refine va_sld hx hb hX hbl hbA G.2.2 hi2 dL_law_523 ?_
  refine g_calli (X := (XM B st σ')) (g_runV (X := (XM B st σ')) (t := 124) (n := 2) (As := [.int (xs (x3 + 1).toNatClampNeg), .int (xs (x3 + 2).toNatClampNeg)]) (rest := [.int r]) C G (mX9_turn l (XM B st σ') τ τ' 124 (xs (x3 + 1).toNatClampNeg) (xs (x3 + 2).toNatClampNeg) r (okM σ') e2) (okM σ').1.2 (gE_9 (okM σ').1.1) rfl (g_goodV u_ml_RL_66 u_im_yX9_turn u_se_yX9_turn u_in_RX9 u_co_yX9_turn) rfl rfl rfl (by decide +kernel) ⟨Nat.le_of_ble_eq_true rfl, Nat.le_of_ble_eq_true rfl⟩ rfl hl.1 rfl (Nat.le_of_ble_eq_true rfl) dL_law_524 ⟨Nat.le_of_ble_eq_true rfl, Nat.le_of_ble_eq_true rfl⟩) G (fun H locs G => ?_)
  have G := sw_MC G
  refine lv_icmp_eq (tgt := 752) hx hb dL_law_527 (by decide) (fun _ => ?_) (fun c => absurd rfl c)
  exact kk σ' τ' hRR H locs G
set_option maxHeartbeats 4000000 in
set_option maxRecDepth 100000 in
theorem law_at {p : Program} {l : Launch} {ev : Env} {s : State} {m : MethodId} {below : List Frame} {meth : Method} {c : Code} {b L : Nat} {xs : Nat → Int32} {B : gBs} {st : Nat → Nat → Bool} {RR : gM → gM → Prop} (S : gSteps RR) (hL : L ≤ 3072) (C : gC (xmk B 0 st) p s m #[Value.ref b] c code 4 RL) (hX : va_X b L xs s s.heap) (hbl : b < s.heap.size) (hbA : ¬ bA B b) (okC : ∀ τ, gok8 (XC B st τ) 0) (okM : ∀ σ, gok9 (XM B st σ) 124) {σ τ : gM} (h : RR σ τ) {i : Nat} {x3 : Int32} (ex : x3 = nI i) (hin : i + 6 ≤ L) {H : Heap} {locs : List Loc} {ls : Array Slot} (G : gG (XC B st τ) σ s H locs) (hl : lv_has ls 4 [(0, .ref b), (1, .ref (bN B + 0)), (2, .ref (bN B + 124)), (3, .int x3)])
    (kk : ∀ (σ2 τ2 : gM), RR σ2 τ2 → ∀ (H : Heap) (locs : List Loc), gG (XC B st τ2) σ2 s H locs → W p l ev room_1 s m #[Value.ref b] below meth c H locs 134 7172 (lw_Z below #[Value.ref b] s) (F0 m 752 ls [])) : W p l ev room_1 s m #[Value.ref b] below meth c H locs 134 7172 (lw_Z below #[Value.ref b] s) (F0 m 532 ls []) := by
  obtain ⟨⟨hx, hb, hml, hown, hts⟩, hK⟩ := id C
  obtain ⟨r, e1, e2, hRR⟩ := S.2.2.2.2.2.2.2.2.2.2.2.2.1 σ τ (xs (x3 + 1).toNatClampNeg) h
  have hi1 : vp_in (x3 + 1) L := law_in ex (k := 1) (by omega) hL
  refine lv_aload_n hx hb dL_law_532 rfl (lv_at hl 1 rfl) ?_
  refine lv_aload_n hx hb dL_law_533 rfl (lv_at hl 0 rfl) ?_
  refine lv_iload_n hx hb dL_law_534 rfl (lv_at hl 3 rfl) ?_
  refine lv_iconst (v := 1) hx hb dL_law_535 (by decide) ?_
  refine lv_iadd hx hb dL_law_536 ?_
  refine va_sld hx hb hX hbl hbA G.2.2 hi1 dL_law_537 ?_
  refine g_calli (X := (XC B st τ)) (g_runV (X := (XC B st τ)) (t := 0) (n := 1) (As := [.int (xs (x3 + 1).toNatClampNeg)]) (rest := []) C G (mX8_at l (XC B st τ) σ 0 (xs (x3 + 1).toNatClampNeg) r (okC τ) e1) (okC τ).1.2 (gE_8 (okC τ).1.1) rfl (g_goodV u_ml_RL_67 u_im_yX8_at u_se_yX8_at u_in_RX8 u_co_yX8_at) rfl rfl rfl (by decide +kernel) ⟨Nat.le_of_ble_eq_true rfl, Nat.le_of_ble_eq_true rfl⟩ rfl hl.1 rfl (Nat.le_of_ble_eq_true rfl) dL_law_538 ⟨Nat.le_of_ble_eq_true rfl, Nat.le_of_ble_eq_true rfl⟩) G (fun H locs G => ?_)
  have G := sw_CM G
  refine lv_aload_n hx hb dL_law_541 rfl (lv_at hl 2 rfl) ?_
  refine lv_aload_n hx hb dL_law_542 rfl (lv_at hl 0 rfl) ?_
  refine lv_iload_n hx hb dL_law_543 rfl (lv_at hl 3 rfl) ?_
  refine lv_iconst (v := 1) hx hb dL_law_544 (by decide) ?_
  refine lv_iadd hx hb dL_law_545 ?_
  refine va_sld hx hb hX hbl hbA G.2.2 hi1 dL_law_546 ?_
  refine g_calli (X := (XM B st σ)) (g_runV (X := (XM B st σ)) (t := 124) (n := 1) (As := [.int (xs (x3 + 1).toNatClampNeg)]) (rest := [.int r]) C G (mX9_at l (XM B st σ) τ 124 (xs (x3 + 1).toNatClampNeg) r (okM σ) e2) (okM σ).1.2 (gE_9 (okM σ).1.1) rfl (g_goodV u_ml_RL_70 u_im_yX9_at u_se_yX9_at u_in_RX9 u_co_yX9_at) rfl rfl rfl (by decide +kernel) ⟨Nat.le_of_ble_eq_true rfl, Nat.le_of_ble_eq_true rfl⟩ rfl hl.1 rfl (Nat.le_of_ble_eq_true rfl) dL_law_547 ⟨Nat.le_of_ble_eq_true rfl, Nat.le_of_ble_eq_true rfl⟩) G (fun H locs G => ?_)
  have G := sw_MC G
  refine lv_icmp_eq (tgt := 752) hx hb dL_law_550 (by decide) (fun _ => ?_) (fun c => absurd rfl c)
  exact kk σ τ hRR H locs G
set_option maxHeartbeats 4000000 in
set_option maxRecDepth 100000 in
theorem law_reason {p : Program} {l : Launch} {ev : Env} {s : State} {m : MethodId} {below : List Frame} {meth : Method} {c : Code} {b L : Nat} {xs : Nat → Int32} {B : gBs} {st : Nat → Nat → Bool} {RR : gM → gM → Prop} (S : gSteps RR) (hL : L ≤ 3072) (C : gC (xmk B 0 st) p s m #[Value.ref b] c code 4 RL) (hX : va_X b L xs s s.heap) (hbl : b < s.heap.size) (hbA : ¬ bA B b) (okC : ∀ τ, gok8 (XC B st τ) 0) (okM : ∀ σ, gok9 (XM B st σ) 124) {σ τ : gM} (h : RR σ τ) {i : Nat} {x3 : Int32} (ex : x3 = nI i) (hin : i + 6 ≤ L) {H : Heap} {locs : List Loc} {ls : Array Slot} (G : gG (XC B st τ) σ s H locs) (hl : lv_has ls 4 [(0, .ref b), (1, .ref (bN B + 0)), (2, .ref (bN B + 124)), (3, .int x3)])
    (kk : ∀ (σ2 τ2 : gM), RR σ2 τ2 → ∀ (H : Heap) (locs : List Loc), gG (XC B st τ2) σ2 s H locs → W p l ev room_1 s m #[Value.ref b] below meth c H locs 134 7172 (lw_Z below #[Value.ref b] s) (F0 m 752 ls [])) : W p l ev room_1 s m #[Value.ref b] below meth c H locs 134 7172 (lw_Z below #[Value.ref b] s) (F0 m 555 ls []) := by
  obtain ⟨⟨hx, hb, hml, hown, hts⟩, hK⟩ := id C
  obtain ⟨r, τ', e1, e2, hRR⟩ := S.2.2.2.2.2.2.2.2.2.2.2.2.2.1 σ τ (xs (x3 + 1).toNatClampNeg) (xs (x3 + 2).toNatClampNeg) h
  have hi1 : vp_in (x3 + 1) L := law_in ex (k := 1) (by omega) hL
  have hi2 : vp_in (x3 + 2) L := law_in ex (k := 2) (by omega) hL
  refine lv_aload_n hx hb dL_law_555 rfl (lv_at hl 1 rfl) ?_
  refine lv_aload_n hx hb dL_law_556 rfl (lv_at hl 0 rfl) ?_
  refine lv_iload_n hx hb dL_law_557 rfl (lv_at hl 3 rfl) ?_
  refine lv_iconst (v := 1) hx hb dL_law_558 (by decide) ?_
  refine lv_iadd hx hb dL_law_559 ?_
  refine va_sld hx hb hX hbl hbA G.2.2 hi1 dL_law_560 ?_
  refine lv_aload_n hx hb dL_law_561 rfl (lv_at hl 0 rfl) ?_
  refine lv_iload_n hx hb dL_law_562 rfl (lv_at hl 3 rfl) ?_
  refine lv_iconst (v := 2) hx hb dL_law_563 (by decide) ?_
  refine lv_iadd hx hb dL_law_564 ?_
  refine va_sld hx hb hX hbl hbA G.2.2 hi2 dL_law_565 ?_
  refine g_calli (X := (XC B st τ)) (g_runV (X := (XC B st τ)) (t := 0) (n := 2) (As := [.int (xs (x3 + 1).toNatClampNeg), .int (xs (x3 + 2).toNatClampNeg)]) (rest := []) C G (mX8_reason l (XC B st τ) σ 0 (xs (x3 + 1).toNatClampNeg) (xs (x3 + 2).toNatClampNeg) r (okC τ) e1) (okC τ).1.2 (gE_8 (okC τ).1.1) rfl (g_goodV u_ml_RL_71 u_im_yX8_reason u_se_yX8_reason u_in_RX8 u_co_yX8_reason) rfl rfl rfl (by decide +kernel) ⟨Nat.le_of_ble_eq_true rfl, Nat.le_of_ble_eq_true rfl⟩ rfl hl.1 rfl (Nat.le_of_ble_eq_true rfl) dL_law_566 ⟨Nat.le_of_ble_eq_true rfl, Nat.le_of_ble_eq_true rfl⟩) G (fun H locs G => ?_)
  have G := sw_CM G
  refine lv_aload_n hx hb dL_law_569 rfl (lv_at hl 2 rfl) ?_
  refine lv_aload_n hx hb dL_law_570 rfl (lv_at hl 0 rfl) ?_
  refine lv_iload_n hx hb dL_law_571 rfl (lv_at hl 3 rfl) ?_
  refine lv_iconst (v := 1) hx hb dL_law_572 (by decide) ?_
  refine lv_iadd hx hb dL_law_573 ?_
  refine va_sld hx hb hX hbl hbA G.2.2 hi1 dL_law_574 ?_
  refine lv_aload_n hx hb dL_law_575 rfl (lv_at hl 0 rfl) ?_
  refine lv_iload_n hx hb dL_law_576 rfl (lv_at hl 3 rfl) ?_
  refine lv_iconst (v := 2) hx hb dL_law_577 (by decide) ?_
  refine lv_iadd hx hb dL_law_578 ?_
  refine va_sld hx hb hX hbl hbA G.2.2 hi2 dL_law_579 ?_
  refine g_calli (X := (XM B st σ)) (g_runV (X := (XM B st σ)) (t := 124) (n := 2) (As := [.int (xs (x3 + 1).toNatClampNeg), .int (xs (x3 + 2).toNatClampNeg)]) (rest := [.int r]) C G (mX9_reason l (XM B st σ) τ τ' 124 (xs (x3 + 1).toNatClampNeg) (xs (x3 + 2).toNatClampNeg) r (okM σ) e2) (okM σ).1.2 (gE_9 (okM σ).1.1) rfl (g_goodV u_ml_RL_74 u_im_yX9_reason u_se_yX9_reason u_in_RX9 u_co_yX9_reason) rfl rfl rfl (by decide +kernel) ⟨Nat.le_of_ble_eq_true rfl, Nat.le_of_ble_eq_true rfl⟩ rfl hl.1 rfl (Nat.le_of_ble_eq_true rfl) dL_law_580 ⟨Nat.le_of_ble_eq_true rfl, Nat.le_of_ble_eq_true rfl⟩) G (fun H locs G => ?_)
  have G := sw_MC G
  refine lv_icmp_eq (tgt := 752) hx hb dL_law_583 (by decide) (fun _ => ?_) (fun c => absurd rfl c)
  exact kk σ τ' hRR H locs G
set_option maxHeartbeats 4000000 in
set_option maxRecDepth 100000 in
theorem law_ways {p : Program} {l : Launch} {ev : Env} {s : State} {m : MethodId} {below : List Frame} {meth : Method} {c : Code} {b L : Nat} {xs : Nat → Int32} {B : gBs} {st : Nat → Nat → Bool} {RR : gM → gM → Prop} (S : gSteps RR) (hL : L ≤ 3072) (C : gC (xmk B 0 st) p s m #[Value.ref b] c code 4 RL) (hX : va_X b L xs s s.heap) (hbl : b < s.heap.size) (hbA : ¬ bA B b) (okC : ∀ τ, gok8 (XC B st τ) 0) (okM : ∀ σ, gok9 (XM B st σ) 124) {σ τ : gM} (h : RR σ τ) {i : Nat} {x3 : Int32} (ex : x3 = nI i) (hin : i + 6 ≤ L) {H : Heap} {locs : List Loc} {ls : Array Slot} (G : gG (XC B st τ) σ s H locs) (hl : lv_has ls 4 [(0, .ref b), (1, .ref (bN B + 0)), (2, .ref (bN B + 124)), (3, .int x3)])
    (kk : ∀ (σ2 τ2 : gM), RR σ2 τ2 → ∀ (H : Heap) (locs : List Loc), gG (XC B st τ2) σ2 s H locs → W p l ev room_1 s m #[Value.ref b] below meth c H locs 134 7172 (lw_Z below #[Value.ref b] s) (F0 m 752 ls [])) : W p l ev room_1 s m #[Value.ref b] below meth c H locs 134 7172 (lw_Z below #[Value.ref b] s) (F0 m 588 ls []) := by
  obtain ⟨⟨hx, hb, hml, hown, hts⟩, hK⟩ := id C
  obtain ⟨r, τ', e1, e2, hRR⟩ := S.2.2.2.2.2.2.2.2.2.2.2.2.2.2.1 σ τ (xs (x3 + 1).toNatClampNeg) (xs (x3 + 2).toNatClampNeg) h
  have hi1 : vp_in (x3 + 1) L := law_in ex (k := 1) (by omega) hL
  have hi2 : vp_in (x3 + 2) L := law_in ex (k := 2) (by omega) hL
  refine lv_aload_n hx hb dL_law_588 rfl (lv_at hl 1 rfl) ?_
  refine lv_aload_n hx hb dL_law_589 rfl (lv_at hl 0 rfl) ?_
  refine lv_iload_n hx hb dL_law_590 rfl (lv_at hl 3 rfl) ?_
  refine lv_iconst (v := 1) hx hb dL_law_591 (by decide) ?_
  refine lv_iadd hx hb dL_law_592 ?_
  refine va_sld hx hb hX hbl hbA G.2.2 hi1 dL_law_593 ?_
  refine lv_aload_n hx hb dL_law_594 rfl (lv_at hl 0 rfl) ?_
  refine lv_iload_n hx hb dL_law_595 rfl (lv_at hl 3 rfl) ?_
  refine lv_iconst (v := 2) hx hb dL_law_596 (by decide) ?_
  refine lv_iadd hx hb dL_law_597 ?_
  refine va_sld hx hb hX hbl hbA G.2.2 hi2 dL_law_598 ?_
  refine g_calli (X := (XC B st τ)) (g_runV (X := (XC B st τ)) (t := 0) (n := 2) (As := [.int (xs (x3 + 1).toNatClampNeg), .int (xs (x3 + 2).toNatClampNeg)]) (rest := []) C G (mX8_ways l (XC B st τ) σ 0 (xs (x3 + 1).toNatClampNeg) (xs (x3 + 2).toNatClampNeg) r (okC τ) e1) (okC τ).1.2 (gE_8 (okC τ).1.1) rfl (g_goodV u_ml_RL_75 u_im_yX8_ways u_se_yX8_ways u_in_RX8 u_co_yX8_ways) rfl rfl rfl (by decide +kernel) ⟨Nat.le_of_ble_eq_true rfl, Nat.le_of_ble_eq_true rfl⟩ rfl hl.1 rfl (Nat.le_of_ble_eq_true rfl) dL_law_599 ⟨Nat.le_of_ble_eq_true rfl, Nat.le_of_ble_eq_true rfl⟩) G (fun H locs G => ?_)
  have G := sw_CM G
  refine lv_aload_n hx hb dL_law_602 rfl (lv_at hl 2 rfl) ?_
  refine lv_aload_n hx hb dL_law_603 rfl (lv_at hl 0 rfl) ?_
  refine lv_iload_n hx hb dL_law_604 rfl (lv_at hl 3 rfl) ?_
  refine lv_iconst (v := 1) hx hb dL_law_605 (by decide) ?_
  refine lv_iadd hx hb dL_law_606 ?_
  refine va_sld hx hb hX hbl hbA G.2.2 hi1 dL_law_607 ?_
  refine lv_aload_n hx hb dL_law_608 rfl (lv_at hl 0 rfl) ?_
  refine lv_iload_n hx hb dL_law_609 rfl (lv_at hl 3 rfl) ?_
  refine lv_iconst (v := 2) hx hb dL_law_610 (by decide) ?_
  refine lv_iadd hx hb dL_law_611 ?_
  refine va_sld hx hb hX hbl hbA G.2.2 hi2 dL_law_612 ?_
  refine g_calli (X := (XM B st σ)) (g_runV (X := (XM B st σ)) (t := 124) (n := 2) (As := [.int (xs (x3 + 1).toNatClampNeg), .int (xs (x3 + 2).toNatClampNeg)]) (rest := [.int r]) C G (mX9_ways l (XM B st σ) τ τ' 124 (xs (x3 + 1).toNatClampNeg) (xs (x3 + 2).toNatClampNeg) r (okM σ) e2) (okM σ).1.2 (gE_9 (okM σ).1.1) rfl (g_goodV u_ml_RL_78 u_im_yX9_ways u_se_yX9_ways u_in_RX9 u_co_yX9_ways) rfl rfl rfl (by decide +kernel) ⟨Nat.le_of_ble_eq_true rfl, Nat.le_of_ble_eq_true rfl⟩ rfl hl.1 rfl (Nat.le_of_ble_eq_true rfl) dL_law_613 ⟨Nat.le_of_ble_eq_true rfl, Nat.le_of_ble_eq_true rfl⟩) G (fun H locs G => ?_)
  have G := sw_MC G
  refine lv_icmp_eq (tgt := 752) hx hb dL_law_616 (by decide) (fun _ => ?_) (fun c => absurd rfl c)
  exact kk σ τ' hRR H locs G
set_option maxHeartbeats 4000000 in
set_option maxRecDepth 100000 in
theorem law_bestFor {p : Program} {l : Launch} {ev : Env} {s : State} {m : MethodId} {below : List Frame} {meth : Method} {c : Code} {b L : Nat} {xs : Nat → Int32} {B : gBs} {st : Nat → Nat → Bool} {RR : gM → gM → Prop} (S : gSteps RR) (hL : L ≤ 3072) (C : gC (xmk B 0 st) p s m #[Value.ref b] c code 4 RL) (hX : va_X b L xs s s.heap) (hbl : b < s.heap.size) (hbA : ¬ bA B b) (okC : ∀ τ, gok8 (XC B st τ) 0) (okM : ∀ σ, gok9 (XM B st σ) 124) {σ τ : gM} (h : RR σ τ) {i : Nat} {x3 : Int32} (ex : x3 = nI i) (hin : i + 6 ≤ L) {H : Heap} {locs : List Loc} {ls : Array Slot} (G : gG (XC B st τ) σ s H locs) (hl : lv_has ls 4 [(0, .ref b), (1, .ref (bN B + 0)), (2, .ref (bN B + 124)), (3, .int x3)])
    (kk : ∀ (σ2 τ2 : gM), RR σ2 τ2 → ∀ (H : Heap) (locs : List Loc), gG (XC B st τ2) σ2 s H locs → W p l ev room_1 s m #[Value.ref b] below meth c H locs 134 7172 (lw_Z below #[Value.ref b] s) (F0 m 752 ls [])) : W p l ev room_1 s m #[Value.ref b] below meth c H locs 134 7172 (lw_Z below #[Value.ref b] s) (F0 m 621 ls []) := by
  obtain ⟨⟨hx, hb, hml, hown, hts⟩, hK⟩ := id C
  obtain ⟨r, τ', e1, e2, hRR⟩ := S.2.2.2.2.2.2.2.2.2.2.2.2.2.2.2.1 σ τ (xs (x3 + 1).toNatClampNeg) h
  have hi1 : vp_in (x3 + 1) L := law_in ex (k := 1) (by omega) hL
  refine lv_aload_n hx hb dL_law_621 rfl (lv_at hl 1 rfl) ?_
  refine lv_aload_n hx hb dL_law_622 rfl (lv_at hl 0 rfl) ?_
  refine lv_iload_n hx hb dL_law_623 rfl (lv_at hl 3 rfl) ?_
  refine lv_iconst (v := 1) hx hb dL_law_624 (by decide) ?_
  refine lv_iadd hx hb dL_law_625 ?_
  refine va_sld hx hb hX hbl hbA G.2.2 hi1 dL_law_626 ?_
  refine g_calli (X := (XC B st τ)) (g_runV (X := (XC B st τ)) (t := 0) (n := 1) (As := [.int (xs (x3 + 1).toNatClampNeg)]) (rest := []) C G (mX8_bestFor l (XC B st τ) σ 0 (xs (x3 + 1).toNatClampNeg) r (okC τ) e1) (okC τ).1.2 (gE_8 (okC τ).1.1) rfl (g_goodV u_ml_RL_79 u_im_yX8_bestFor u_se_yX8_bestFor u_in_RX8 u_co_yX8_bestFor) rfl rfl rfl (by decide +kernel) ⟨Nat.le_of_ble_eq_true rfl, Nat.le_of_ble_eq_true rfl⟩ rfl hl.1 rfl (Nat.le_of_ble_eq_true rfl) dL_law_627 ⟨Nat.le_of_ble_eq_true rfl, Nat.le_of_ble_eq_true rfl⟩) G (fun H locs G => ?_)
  have G := sw_CM G
  refine lv_aload_n hx hb dL_law_630 rfl (lv_at hl 2 rfl) ?_
  refine lv_aload_n hx hb dL_law_631 rfl (lv_at hl 0 rfl) ?_
  refine lv_iload_n hx hb dL_law_632 rfl (lv_at hl 3 rfl) ?_
  refine lv_iconst (v := 1) hx hb dL_law_633 (by decide) ?_
  refine lv_iadd hx hb dL_law_634 ?_
  refine va_sld hx hb hX hbl hbA G.2.2 hi1 dL_law_635 ?_
  refine g_calli (X := (XM B st σ)) (g_runV (X := (XM B st σ)) (t := 124) (n := 1) (As := [.int (xs (x3 + 1).toNatClampNeg)]) (rest := [.int r]) C G (mX9_bestFor l (XM B st σ) τ τ' 124 (xs (x3 + 1).toNatClampNeg) r (okM σ) e2) (okM σ).1.2 (gE_9 (okM σ).1.1) rfl (g_goodV u_ml_RL_82 u_im_yX9_bestFor u_se_yX9_bestFor u_in_RX9 u_co_yX9_bestFor) rfl rfl rfl (by decide +kernel) ⟨Nat.le_of_ble_eq_true rfl, Nat.le_of_ble_eq_true rfl⟩ rfl hl.1 rfl (Nat.le_of_ble_eq_true rfl) dL_law_636 ⟨Nat.le_of_ble_eq_true rfl, Nat.le_of_ble_eq_true rfl⟩) G (fun H locs G => ?_)
  have G := sw_MC G
  refine lv_icmp_eq (tgt := 752) hx hb dL_law_639 (by decide) (fun _ => ?_) (fun c => absurd rfl c)
  exact kk σ τ' hRR H locs G
set_option maxHeartbeats 4000000 in
set_option maxRecDepth 100000 in
theorem law_fill {p : Program} {l : Launch} {ev : Env} {s : State} {m : MethodId} {below : List Frame} {meth : Method} {c : Code} {b L : Nat} {xs : Nat → Int32} {B : gBs} {st : Nat → Nat → Bool} {RR : gM → gM → Prop} (S : gSteps RR) (hL : L ≤ 3072) (C : gC (xmk B 0 st) p s m #[Value.ref b] c code 4 RL) (hX : va_X b L xs s s.heap) (hbl : b < s.heap.size) (hbA : ¬ bA B b) (okC : ∀ τ, gok8 (XC B st τ) 0) (okM : ∀ σ, gok9 (XM B st σ) 124) {σ τ : gM} (h : RR σ τ) {i : Nat} {x3 : Int32} (ex : x3 = nI i) (hin : i + 6 ≤ L) {H : Heap} {locs : List Loc} {ls : Array Slot} (G : gG (XC B st τ) σ s H locs) (hl : lv_has ls 4 [(0, .ref b), (1, .ref (bN B + 0)), (2, .ref (bN B + 124)), (3, .int x3)])
    (kk : ∀ (σ2 τ2 : gM), RR σ2 τ2 → ∀ (H : Heap) (locs : List Loc), gG (XC B st τ2) σ2 s H locs → W p l ev room_1 s m #[Value.ref b] below meth c H locs 134 7172 (lw_Z below #[Value.ref b] s) (F0 m 752 ls [])) : W p l ev room_1 s m #[Value.ref b] below meth c H locs 134 7172 (lw_Z below #[Value.ref b] s) (F0 m 644 ls []) := by
  obtain ⟨⟨hx, hb, hml, hown, hts⟩, hK⟩ := id C
  obtain ⟨r, σ', τ', e1, e2, hRR⟩ := S.2.2.2.2.2.2.2.2.2.2.2.2.2.2.2.2.1 σ τ  h
  refine lv_aload_n hx hb dL_law_644 rfl (lv_at hl 1 rfl) ?_
  refine g_calli (X := (XC B st τ)) (g_runV (X := (XC B st τ)) (t := 0) (n := 0) (As := []) (rest := []) C G (mX8_fill l (XC B st τ) σ σ' 0  r (okC τ) e1) (okC τ).1.2 (gE_8 (okC τ).1.1) rfl (g_goodV u_ml_RL_83 u_im_yX8_fill u_se_yX8_fill u_in_RX8 u_co_yX8_fill) rfl rfl rfl (by decide +kernel) ⟨Nat.le_of_ble_eq_true rfl, Nat.le_of_ble_eq_true rfl⟩ rfl hl.1 rfl (Nat.le_of_ble_eq_true rfl) dL_law_645 ⟨Nat.le_of_ble_eq_true rfl, Nat.le_of_ble_eq_true rfl⟩) G (fun H locs G => ?_)
  have G := sw_CM G
  refine lv_aload_n hx hb dL_law_648 rfl (lv_at hl 2 rfl) ?_
  refine g_calli (X := (XM B st σ')) (g_runV (X := (XM B st σ')) (t := 124) (n := 0) (As := []) (rest := [.int r]) C G (mX9_fill l (XM B st σ') τ τ' 124  r (okM σ') e2) (okM σ').1.2 (gE_9 (okM σ').1.1) rfl (g_goodV u_ml_RL_86 u_im_yX9_fill u_se_yX9_fill u_in_RX9 u_co_yX9_fill) rfl rfl rfl (by decide +kernel) ⟨Nat.le_of_ble_eq_true rfl, Nat.le_of_ble_eq_true rfl⟩ rfl hl.1 rfl (Nat.le_of_ble_eq_true rfl) dL_law_649 ⟨Nat.le_of_ble_eq_true rfl, Nat.le_of_ble_eq_true rfl⟩) G (fun H locs G => ?_)
  have G := sw_MC G
  refine lv_icmp_eq (tgt := 752) hx hb dL_law_652 (by decide) (fun _ => ?_) (fun c => absurd rfl c)
  exact kk σ' τ' hRR H locs G
set_option maxHeartbeats 4000000 in
set_option maxRecDepth 100000 in
theorem law_member {p : Program} {l : Launch} {ev : Env} {s : State} {m : MethodId} {below : List Frame} {meth : Method} {c : Code} {b L : Nat} {xs : Nat → Int32} {B : gBs} {st : Nat → Nat → Bool} {RR : gM → gM → Prop} (S : gSteps RR) (hL : L ≤ 3072) (C : gC (xmk B 0 st) p s m #[Value.ref b] c code 4 RL) (hX : va_X b L xs s s.heap) (hbl : b < s.heap.size) (hbA : ¬ bA B b) (okC : ∀ τ, gok8 (XC B st τ) 0) (okM : ∀ σ, gok9 (XM B st σ) 124) {σ τ : gM} (h : RR σ τ) {i : Nat} {x3 : Int32} (ex : x3 = nI i) (hin : i + 6 ≤ L) {H : Heap} {locs : List Loc} {ls : Array Slot} (G : gG (XC B st τ) σ s H locs) (hl : lv_has ls 4 [(0, .ref b), (1, .ref (bN B + 0)), (2, .ref (bN B + 124)), (3, .int x3)])
    (kk : ∀ (σ2 τ2 : gM), RR σ2 τ2 → ∀ (H : Heap) (locs : List Loc), gG (XC B st τ2) σ2 s H locs → W p l ev room_1 s m #[Value.ref b] below meth c H locs 134 7172 (lw_Z below #[Value.ref b] s) (F0 m 752 ls [])) : W p l ev room_1 s m #[Value.ref b] below meth c H locs 134 7172 (lw_Z below #[Value.ref b] s) (F0 m 657 ls []) := by
  obtain ⟨⟨hx, hb, hml, hown, hts⟩, hK⟩ := id C
  obtain ⟨r, σ', τ', e1, e2, hRR⟩ := S.2.2.2.2.2.2.2.2.2.2.2.2.2.2.2.2.2.1 σ τ (xs (x3 + 1).toNatClampNeg) (xs (x3 + 2).toNatClampNeg) h
  have hi1 : vp_in (x3 + 1) L := law_in ex (k := 1) (by omega) hL
  have hi2 : vp_in (x3 + 2) L := law_in ex (k := 2) (by omega) hL
  refine lv_aload_n hx hb dL_law_657 rfl (lv_at hl 1 rfl) ?_
  refine lv_aload_n hx hb dL_law_658 rfl (lv_at hl 0 rfl) ?_
  refine lv_iload_n hx hb dL_law_659 rfl (lv_at hl 3 rfl) ?_
  refine lv_iconst (v := 1) hx hb dL_law_660 (by decide) ?_
  refine lv_iadd hx hb dL_law_661 ?_
  refine va_sld hx hb hX hbl hbA G.2.2 hi1 dL_law_662 ?_
  refine lv_aload_n hx hb dL_law_663 rfl (lv_at hl 0 rfl) ?_
  refine lv_iload_n hx hb dL_law_664 rfl (lv_at hl 3 rfl) ?_
  refine lv_iconst (v := 2) hx hb dL_law_665 (by decide) ?_
  refine lv_iadd hx hb dL_law_666 ?_
  refine va_sld hx hb hX hbl hbA G.2.2 hi2 dL_law_667 ?_
  refine g_calli (X := (XC B st τ)) (g_runV (X := (XC B st τ)) (t := 0) (n := 2) (As := [.int (xs (x3 + 1).toNatClampNeg), .int (xs (x3 + 2).toNatClampNeg)]) (rest := []) C G (mX8_member l (XC B st τ) σ σ' 0 (xs (x3 + 1).toNatClampNeg) (xs (x3 + 2).toNatClampNeg) r (okC τ) e1) (okC τ).1.2 (gE_8 (okC τ).1.1) rfl (g_goodV u_ml_RL_87 u_im_yX8_member u_se_yX8_member u_in_RX8 u_co_yX8_member) rfl rfl rfl (by decide +kernel) ⟨Nat.le_of_ble_eq_true rfl, Nat.le_of_ble_eq_true rfl⟩ rfl hl.1 rfl (Nat.le_of_ble_eq_true rfl) dL_law_668 ⟨Nat.le_of_ble_eq_true rfl, Nat.le_of_ble_eq_true rfl⟩) G (fun H locs G => ?_)
  have G := sw_CM G
  refine lv_aload_n hx hb dL_law_671 rfl (lv_at hl 2 rfl) ?_
  refine lv_aload_n hx hb dL_law_672 rfl (lv_at hl 0 rfl) ?_
  refine lv_iload_n hx hb dL_law_673 rfl (lv_at hl 3 rfl) ?_
  refine lv_iconst (v := 1) hx hb dL_law_674 (by decide) ?_
  refine lv_iadd hx hb dL_law_675 ?_
  refine va_sld hx hb hX hbl hbA G.2.2 hi1 dL_law_676 ?_
  refine lv_aload_n hx hb dL_law_677 rfl (lv_at hl 0 rfl) ?_
  refine lv_iload_n hx hb dL_law_678 rfl (lv_at hl 3 rfl) ?_
  refine lv_iconst (v := 2) hx hb dL_law_679 (by decide) ?_
  refine lv_iadd hx hb dL_law_680 ?_
  refine va_sld hx hb hX hbl hbA G.2.2 hi2 dL_law_681 ?_
  refine g_calli (X := (XM B st σ')) (g_runV (X := (XM B st σ')) (t := 124) (n := 2) (As := [.int (xs (x3 + 1).toNatClampNeg), .int (xs (x3 + 2).toNatClampNeg)]) (rest := [.int r]) C G (mX9_member l (XM B st σ') τ τ' 124 (xs (x3 + 1).toNatClampNeg) (xs (x3 + 2).toNatClampNeg) r (okM σ') e2) (okM σ').1.2 (gE_9 (okM σ').1.1) rfl (g_goodV u_ml_RL_90 u_im_yX9_member u_se_yX9_member u_in_RX9 u_co_yX9_member) rfl rfl rfl (by decide +kernel) ⟨Nat.le_of_ble_eq_true rfl, Nat.le_of_ble_eq_true rfl⟩ rfl hl.1 rfl (Nat.le_of_ble_eq_true rfl) dL_law_682 ⟨Nat.le_of_ble_eq_true rfl, Nat.le_of_ble_eq_true rfl⟩) G (fun H locs G => ?_)
  have G := sw_MC G
  refine lv_icmp_eq (tgt := 752) hx hb dL_law_685 (by decide) (fun _ => ?_) (fun c => absurd rfl c)
  exact kk σ' τ' hRR H locs G
set_option maxHeartbeats 4000000 in
set_option maxRecDepth 100000 in
theorem law_canFill {p : Program} {l : Launch} {ev : Env} {s : State} {m : MethodId} {below : List Frame} {meth : Method} {c : Code} {b L : Nat} {xs : Nat → Int32} {B : gBs} {st : Nat → Nat → Bool} {RR : gM → gM → Prop} (S : gSteps RR) (hL : L ≤ 3072) (C : gC (xmk B 0 st) p s m #[Value.ref b] c code 4 RL) (hX : va_X b L xs s s.heap) (hbl : b < s.heap.size) (hbA : ¬ bA B b) (okC : ∀ τ, gok8 (XC B st τ) 0) (okM : ∀ σ, gok9 (XM B st σ) 124) {σ τ : gM} (h : RR σ τ) {i : Nat} {x3 : Int32} (ex : x3 = nI i) (hin : i + 6 ≤ L) {H : Heap} {locs : List Loc} {ls : Array Slot} (G : gG (XC B st τ) σ s H locs) (hl : lv_has ls 4 [(0, .ref b), (1, .ref (bN B + 0)), (2, .ref (bN B + 124)), (3, .int x3)])
    (kk : ∀ (σ2 τ2 : gM), RR σ2 τ2 → ∀ (H : Heap) (locs : List Loc), gG (XC B st τ2) σ2 s H locs → W p l ev room_1 s m #[Value.ref b] below meth c H locs 134 7172 (lw_Z below #[Value.ref b] s) (F0 m 752 ls [])) : W p l ev room_1 s m #[Value.ref b] below meth c H locs 134 7172 (lw_Z below #[Value.ref b] s) (F0 m 690 ls []) := by
  obtain ⟨⟨hx, hb, hml, hown, hts⟩, hK⟩ := id C
  obtain ⟨r, σ', τ', e1, e2, hRR⟩ := S.2.2.2.2.2.2.2.2.2.2.2.2.2.2.2.2.2.2.1 σ τ  h
  refine lv_aload_n hx hb dL_law_690 rfl (lv_at hl 1 rfl) ?_
  refine g_calli (X := (XC B st τ)) (g_runV (X := (XC B st τ)) (t := 0) (n := 0) (As := []) (rest := []) C G (mX8_canFill l (XC B st τ) σ σ' 0  r (okC τ) e1) (okC τ).1.2 (gE_8 (okC τ).1.1) rfl (g_goodV u_ml_RL_91 u_im_yX8_canFill u_se_yX8_canFill u_in_RX8 u_co_yX8_canFill) rfl rfl rfl (by decide +kernel) ⟨Nat.le_of_ble_eq_true rfl, Nat.le_of_ble_eq_true rfl⟩ rfl hl.1 rfl (Nat.le_of_ble_eq_true rfl) dL_law_691 ⟨Nat.le_of_ble_eq_true rfl, Nat.le_of_ble_eq_true rfl⟩) G (fun H locs G => ?_)
  have G := sw_CM G
  refine lv_aload_n hx hb dL_law_694 rfl (lv_at hl 2 rfl) ?_
  refine g_calli (X := (XM B st σ')) (g_runV (X := (XM B st σ')) (t := 124) (n := 0) (As := []) (rest := [.int r]) C G (mX9_canFill l (XM B st σ') τ τ' 124  r (okM σ') e2) (okM σ').1.2 (gE_9 (okM σ').1.1) rfl (g_goodV u_ml_RL_94 u_im_yX9_canFill u_se_yX9_canFill u_in_RX9 u_co_yX9_canFill) rfl rfl rfl (by decide +kernel) ⟨Nat.le_of_ble_eq_true rfl, Nat.le_of_ble_eq_true rfl⟩ rfl hl.1 rfl (Nat.le_of_ble_eq_true rfl) dL_law_695 ⟨Nat.le_of_ble_eq_true rfl, Nat.le_of_ble_eq_true rfl⟩) G (fun H locs G => ?_)
  have G := sw_MC G
  refine lv_icmp_eq (tgt := 752) hx hb dL_law_698 (by decide) (fun _ => ?_) (fun c => absurd rfl c)
  exact kk σ' τ' hRR H locs G
set_option maxHeartbeats 4000000 in
set_option maxRecDepth 100000 in
theorem law_type {p : Program} {l : Launch} {ev : Env} {s : State} {m : MethodId} {below : List Frame} {meth : Method} {c : Code} {b L : Nat} {xs : Nat → Int32} {B : gBs} {st : Nat → Nat → Bool} {RR : gM → gM → Prop} (S : gSteps RR) (hL : L ≤ 3072) (C : gC (xmk B 0 st) p s m #[Value.ref b] c code 4 RL) (hX : va_X b L xs s s.heap) (hbl : b < s.heap.size) (hbA : ¬ bA B b) (okC : ∀ τ, gok8 (XC B st τ) 0) (okM : ∀ σ, gok9 (XM B st σ) 124) {σ τ : gM} (h : RR σ τ) {i : Nat} {x3 : Int32} (ex : x3 = nI i) (hin : i + 6 ≤ L) {H : Heap} {locs : List Loc} {ls : Array Slot} (G : gG (XC B st τ) σ s H locs) (hl : lv_has ls 4 [(0, .ref b), (1, .ref (bN B + 0)), (2, .ref (bN B + 124)), (3, .int x3)])
    (kk : ∀ (σ2 τ2 : gM), RR σ2 τ2 → ∀ (H : Heap) (locs : List Loc), gG (XC B st τ2) σ2 s H locs → W p l ev room_1 s m #[Value.ref b] below meth c H locs 134 7172 (lw_Z below #[Value.ref b] s) (F0 m 752 ls [])) : W p l ev room_1 s m #[Value.ref b] below meth c H locs 134 7172 (lw_Z below #[Value.ref b] s) (F0 m 703 ls []) := by
  obtain ⟨⟨hx, hb, hml, hown, hts⟩, hK⟩ := id C
  obtain ⟨r, σ', τ', e1, e2, hRR⟩ := S.2.2.2.2.2.2.2.2.2.2.2.2.2.2.2.2.2.2.2.1 σ τ (xs (x3 + 1).toNatClampNeg) h
  have hi1 : vp_in (x3 + 1) L := law_in ex (k := 1) (by omega) hL
  refine lv_aload_n hx hb dL_law_703 rfl (lv_at hl 1 rfl) ?_
  refine lv_aload_n hx hb dL_law_704 rfl (lv_at hl 0 rfl) ?_
  refine lv_iload_n hx hb dL_law_705 rfl (lv_at hl 3 rfl) ?_
  refine lv_iconst (v := 1) hx hb dL_law_706 (by decide) ?_
  refine lv_iadd hx hb dL_law_707 ?_
  refine va_sld hx hb hX hbl hbA G.2.2 hi1 dL_law_708 ?_
  refine g_calli (X := (XC B st τ)) (g_runV (X := (XC B st τ)) (t := 0) (n := 1) (As := [.int (xs (x3 + 1).toNatClampNeg)]) (rest := []) C G (mX8_type l (XC B st τ) σ σ' 0 (xs (x3 + 1).toNatClampNeg) r (okC τ) e1) (okC τ).1.2 (gE_8 (okC τ).1.1) rfl (g_goodV u_ml_RL_95 u_im_yX8_type u_se_yX8_type u_in_RX8 u_co_yX8_type) rfl rfl rfl (by decide +kernel) ⟨Nat.le_of_ble_eq_true rfl, Nat.le_of_ble_eq_true rfl⟩ rfl hl.1 rfl (Nat.le_of_ble_eq_true rfl) dL_law_709 ⟨Nat.le_of_ble_eq_true rfl, Nat.le_of_ble_eq_true rfl⟩) G (fun H locs G => ?_)
  have G := sw_CM G
  refine lv_aload_n hx hb dL_law_712 rfl (lv_at hl 2 rfl) ?_
  refine lv_aload_n hx hb dL_law_713 rfl (lv_at hl 0 rfl) ?_
  refine lv_iload_n hx hb dL_law_714 rfl (lv_at hl 3 rfl) ?_
  refine lv_iconst (v := 1) hx hb dL_law_715 (by decide) ?_
  refine lv_iadd hx hb dL_law_716 ?_
  refine va_sld hx hb hX hbl hbA G.2.2 hi1 dL_law_717 ?_
  refine g_calli (X := (XM B st σ')) (g_runV (X := (XM B st σ')) (t := 124) (n := 1) (As := [.int (xs (x3 + 1).toNatClampNeg)]) (rest := [.int r]) C G (mX9_type l (XM B st σ') τ τ' 124 (xs (x3 + 1).toNatClampNeg) r (okM σ') e2) (okM σ').1.2 (gE_9 (okM σ').1.1) rfl (g_goodV u_ml_RL_98 u_im_yX9_type u_se_yX9_type u_in_RX9 u_co_yX9_type) rfl rfl rfl (by decide +kernel) ⟨Nat.le_of_ble_eq_true rfl, Nat.le_of_ble_eq_true rfl⟩ rfl hl.1 rfl (Nat.le_of_ble_eq_true rfl) dL_law_718 ⟨Nat.le_of_ble_eq_true rfl, Nat.le_of_ble_eq_true rfl⟩) G (fun H locs G => ?_)
  have G := sw_MC G
  refine lv_icmp_eq (tgt := 752) hx hb dL_law_721 (by decide) (fun _ => ?_) (fun c => absurd rfl c)
  exact kk σ' τ' hRR H locs G
set_option maxHeartbeats 4000000 in
set_option maxRecDepth 100000 in
theorem law_clearText {p : Program} {l : Launch} {ev : Env} {s : State} {m : MethodId} {below : List Frame} {meth : Method} {c : Code} {b L : Nat} {xs : Nat → Int32} {B : gBs} {st : Nat → Nat → Bool} {RR : gM → gM → Prop} (S : gSteps RR) (hL : L ≤ 3072) (C : gC (xmk B 0 st) p s m #[Value.ref b] c code 4 RL) (hX : va_X b L xs s s.heap) (hbl : b < s.heap.size) (hbA : ¬ bA B b) (okC : ∀ τ, gok8 (XC B st τ) 0) (okM : ∀ σ, gok9 (XM B st σ) 124) {σ τ : gM} (h : RR σ τ) {i : Nat} {x3 : Int32} (ex : x3 = nI i) (hin : i + 6 ≤ L) {H : Heap} {locs : List Loc} {ls : Array Slot} (G : gG (XC B st τ) σ s H locs) (hl : lv_has ls 4 [(0, .ref b), (1, .ref (bN B + 0)), (2, .ref (bN B + 124)), (3, .int x3)])
    (kk : ∀ (σ2 τ2 : gM), RR σ2 τ2 → ∀ (H : Heap) (locs : List Loc), gG (XC B st τ2) σ2 s H locs → W p l ev room_1 s m #[Value.ref b] below meth c H locs 134 7172 (lw_Z below #[Value.ref b] s) (F0 m 752 ls [])) : W p l ev room_1 s m #[Value.ref b] below meth c H locs 134 7172 (lw_Z below #[Value.ref b] s) (F0 m 726 ls []) := by
  obtain ⟨⟨hx, hb, hml, hown, hts⟩, hK⟩ := id C
  obtain ⟨r, σ', τ', e1, e2, hRR⟩ := S.2.2.2.2.2.2.2.2.2.2.2.2.2.2.2.2.2.2.2.2.1 σ τ  h
  refine lv_aload_n hx hb dL_law_726 rfl (lv_at hl 1 rfl) ?_
  refine g_calli (X := (XC B st τ)) (g_runV (X := (XC B st τ)) (t := 0) (n := 0) (As := []) (rest := []) C G (mX8_clearText l (XC B st τ) σ σ' 0  r (okC τ) e1) (okC τ).1.2 (gE_8 (okC τ).1.1) rfl (g_goodV u_ml_RL_99 u_im_yX8_clearText u_se_yX8_clearText u_in_RX8 u_co_yX8_clearText) rfl rfl rfl (by decide +kernel) ⟨Nat.le_of_ble_eq_true rfl, Nat.le_of_ble_eq_true rfl⟩ rfl hl.1 rfl (Nat.le_of_ble_eq_true rfl) dL_law_727 ⟨Nat.le_of_ble_eq_true rfl, Nat.le_of_ble_eq_true rfl⟩) G (fun H locs G => ?_)
  have G := sw_CM G
  refine lv_aload_n hx hb dL_law_730 rfl (lv_at hl 2 rfl) ?_
  refine g_calli (X := (XM B st σ')) (g_runV (X := (XM B st σ')) (t := 124) (n := 0) (As := []) (rest := [.int r]) C G (mX9_clearText l (XM B st σ') τ τ' 124  r (okM σ') e2) (okM σ').1.2 (gE_9 (okM σ').1.1) rfl (g_goodV u_ml_RL_102 u_im_yX9_clearText u_se_yX9_clearText u_in_RX9 u_co_yX9_clearText) rfl rfl rfl (by decide +kernel) ⟨Nat.le_of_ble_eq_true rfl, Nat.le_of_ble_eq_true rfl⟩ rfl hl.1 rfl (Nat.le_of_ble_eq_true rfl) dL_law_731 ⟨Nat.le_of_ble_eq_true rfl, Nat.le_of_ble_eq_true rfl⟩) G (fun H locs G => ?_)
  have G := sw_MC G
  refine lv_icmp_eq (tgt := 752) hx hb dL_law_734 (by decide) (fun _ => ?_) (fun c => absurd rfl c)
  exact kk σ' τ' hRR H locs G
set_option maxHeartbeats 4000000 in
set_option maxRecDepth 100000 in
theorem law_fault {p : Program} {l : Launch} {ev : Env} {s : State} {m : MethodId} {below : List Frame} {meth : Method} {c : Code} {b L : Nat} {xs : Nat → Int32} {B : gBs} {st : Nat → Nat → Bool} {RR : gM → gM → Prop} (S : gSteps RR) (hL : L ≤ 3072) (C : gC (xmk B 0 st) p s m #[Value.ref b] c code 4 RL) (hX : va_X b L xs s s.heap) (hbl : b < s.heap.size) (hbA : ¬ bA B b) (okC : ∀ τ, gok8 (XC B st τ) 0) (okM : ∀ σ, gok9 (XM B st σ) 124) {σ τ : gM} (h : RR σ τ) {i : Nat} {x3 : Int32} (ex : x3 = nI i) (hin : i + 6 ≤ L) {H : Heap} {locs : List Loc} {ls : Array Slot} (G : gG (XC B st τ) σ s H locs) (hl : lv_has ls 4 [(0, .ref b), (1, .ref (bN B + 0)), (2, .ref (bN B + 124)), (3, .int x3)])
    (kk : ∀ (σ2 τ2 : gM), RR σ2 τ2 → ∀ (H : Heap) (locs : List Loc), gG (XC B st τ2) σ2 s H locs → W p l ev room_1 s m #[Value.ref b] below meth c H locs 134 7172 (lw_Z below #[Value.ref b] s) (F0 m 752 ls [])) : W p l ev room_1 s m #[Value.ref b] below meth c H locs 134 7172 (lw_Z below #[Value.ref b] s) (F0 m 739 ls []) := by
  obtain ⟨⟨hx, hb, hml, hown, hts⟩, hK⟩ := id C
  obtain ⟨r, σ', τ', e1, e2, hRR⟩ := S.2.2.2.2.2.2.2.2.2.2.2.2.2.2.2.2.2.2.2.2.2 σ τ  h
  refine lv_aload_n hx hb dL_law_739 rfl (lv_at hl 1 rfl) ?_
  refine g_calli (X := (XC B st τ)) (g_runV (X := (XC B st τ)) (t := 0) (n := 0) (As := []) (rest := []) C G (mX8_fault l (XC B st τ) σ σ' 0  r (okC τ) e1) (okC τ).1.2 (gE_8 (okC τ).1.1) rfl (g_goodV u_ml_RL_103 u_im_yX8_fault u_se_yX8_fault u_in_RX8 u_co_yX8_fault) rfl rfl rfl (by decide +kernel) ⟨Nat.le_of_ble_eq_true rfl, Nat.le_of_ble_eq_true rfl⟩ rfl hl.1 rfl (Nat.le_of_ble_eq_true rfl) dL_law_740 ⟨Nat.le_of_ble_eq_true rfl, Nat.le_of_ble_eq_true rfl⟩) G (fun H locs G => ?_)
  have G := sw_CM G
  refine lv_aload_n hx hb dL_law_743 rfl (lv_at hl 2 rfl) ?_
  refine g_calli (X := (XM B st σ')) (g_runV (X := (XM B st σ')) (t := 124) (n := 0) (As := []) (rest := [.int r]) C G (mX9_fault l (XM B st σ') τ τ' 124  r (okM σ') e2) (okM σ').1.2 (gE_9 (okM σ').1.1) rfl (g_goodV u_ml_RL_106 u_im_yX9_fault u_se_yX9_fault u_in_RX9 u_co_yX9_fault) rfl rfl rfl (by decide +kernel) ⟨Nat.le_of_ble_eq_true rfl, Nat.le_of_ble_eq_true rfl⟩ rfl hl.1 rfl (Nat.le_of_ble_eq_true rfl) dL_law_744 ⟨Nat.le_of_ble_eq_true rfl, Nat.le_of_ble_eq_true rfl⟩) G (fun H locs G => ?_)
  have G := sw_MC G
  refine lv_icmp_eq (tgt := 752) hx hb dL_law_747 (by decide) (fun _ => ?_) (fun c => absurd rfl c)
  exact kk σ' τ' hRR H locs G
set_option maxHeartbeats 4000000 in
set_option maxRecDepth 100000 in
theorem law_loop {p : Program} {l : Launch} {ev : Env} {s : State} {m : MethodId} {below : List Frame} {meth : Method} {c : Code} {b L : Nat} {xs : Nat → Int32} {B : gBs} {st : Nat → Nat → Bool} {RR : gM → gM → Prop} (S : gSteps RR) (hL : L ≤ 3072) (C : gC (xmk B 0 st) p s m #[Value.ref b] c code 4 RL) (hX : va_X b L xs s s.heap) (hbl : b < s.heap.size) (hbA : ¬ bA B b) (okC : ∀ τ, gok8 (XC B st τ) 0) (okM : ∀ σ, gok9 (XM B st σ) 124) (fin : ∀ (H : Heap) (locs : List Loc) (ls : Array Slot) {σ τ : gM}, gG (XC B st τ) σ s H locs → W p l ev room_1 s m #[Value.ref b] below meth c H locs 134 7172 (lw_Z below #[Value.ref b] s) (F0 m 758 ls [])) :
    ∀ (n i : Nat) (x3 : Int32), i ≤ L → L + 6 ≤ i + 6 * n → x3 = nI i → ∀ (σ τ : gM), RR σ τ → ∀ (H : Heap) (locs : List Loc) (ls : Array Slot), gG (XC B st τ) σ s H locs → lv_has ls 4 [(0, .ref b), (1, .ref (bN B + 0)), (2, .ref (bN B + 124)), (3, .int x3)] → W p l ev room_1 s m #[Value.ref b] below meth c H locs 134 7172 (lw_Z below #[Value.ref b] s) (F0 m 18 ls []) := by
  obtain ⟨⟨hx, hb, hml, hown, hts⟩, hK⟩ := id C
  intro n
  induction n with
  | zero => exact fun i x3 hi hin => absurd hin (by omega)
  | succ n ih =>
    intro i x3 hi hin ex σ τ h H locs ls G hl
    refine lv_iload_n hx hb dL_law_18 rfl (lv_at hl 3 rfl) ?_
    refine lv_aload_n hx hb dL_law_19 rfl (lv_at hl 0 rfl) ?_
    refine va_slen hx hb hX hbl hbA G.2.2 dL_law_20 ?_
    refine lv_bipush (v := 6) hx hb dL_law_21 (by decide) ?_
    refine lv_isub hx hb dL_law_23 ?_
    refine lv_icmp_gt (tgt := 758) hx hb dL_law_24 (by decide) (fun _ => ?_) (fun cq => ?_)
    · exact fin H locs ls G
    · have hle : i + 6 ≤ L := law_end ex (by omega) hL cq
      have hi0 : vp_in x3 L := by rw [ex]; exact vp_in_nI (by omega) (by omega)
      have kk : ∀ (σ2 τ2 : gM), RR σ2 τ2 → ∀ (H : Heap) (locs : List Loc), gG (XC B st τ2) σ2 s H locs → W p l ev room_1 s m #[Value.ref b] below meth c H locs 134 7172 (lw_Z below #[Value.ref b] s) (F0 m 752 ls []) := by
        intro σ2 τ2 h2 H locs G2
        obtain ⟨x4, ex4⟩ : ∃ y : Int32, y = x3 + 6 := ⟨_, rfl⟩
        refine lv_iinc (v := x4) (lv' := [(3, .int x4), (0, .ref b), (1, .ref (bN B + 0)), (2, .ref (bN B + 124))]) hx hb dL_law_752 hl (k := 3) rfl (by rw [ex4]; rfl) (by decide) rfl (fun ls hl => ?_)
        refine lv_goto (tgt := 18) hx hb dL_law_755 (by decide) ?_
        exact ih (i + 6) x4 (by omega) (by omega) (by rw [ex4, ex]; exact nI_add i 6) σ2 τ2 h2 H locs ls G2 (lv_sub hl [1, 2, 3, 0] rfl)
      refine lv_aload_n hx hb dL_law_27 rfl (lv_at hl 0 rfl) ?_
      refine lv_iload_n hx hb dL_law_28 rfl (lv_at hl 3 rfl) ?_
      refine va_sld hx hb hX hbl hbA G.2.2 hi0 dL_law_29 ?_
      refine lv_bipush (v := 31) hx hb dL_law_30 (by decide) ?_
      refine lv_iand hx hb dL_law_32 ?_
      refine lv_topi (fun z ez => ?_)
      by_cases c0 : z = 0
      · refine lv_tableIn (off := 103) (tgt := 136) hx hb dL_law_33 (by rw [c0]; decide) (by rw [c0]; decide) (by rw [c0]; rfl) (by decide) ?_
        exact law_reset S hL C hX hbl hbA okC okM h ex hle G hl kk
      by_cases c1 : z = 1
      · refine lv_tableIn (off := 136) (tgt := 169) hx hb dL_law_33 (by rw [c1]; decide) (by rw [c1]; decide) (by rw [c1]; rfl) (by decide) ?_
        exact law_addScrap S hL C hX hbl hbA okC okM h ex hle G hl kk
      by_cases c2 : z = 2
      · refine lv_tableIn (off := 199) (tgt := 232) hx hb dL_law_33 (by rw [c2]; decide) (by rw [c2]; decide) (by rw [c2]; rfl) (by decide) ?_
        exact law_add S hL C hX hbl hbA okC okM h ex hle G hl kk
      by_cases c3 : z = 3
      · refine lv_tableIn (off := 212) (tgt := 245) hx hb dL_law_33 (by rw [c3]; decide) (by rw [c3]; decide) (by rw [c3]; rfl) (by decide) ?_
        exact law_removeScrap S hL C hX hbl hbA okC okM h ex hle G hl kk
      by_cases c4 : z = 4
      · refine lv_tableIn (off := 235) (tgt := 268) hx hb dL_law_33 (by rw [c4]; decide) (by rw [c4]; decide) (by rw [c4]; rfl) (by decide) ?_
        exact law_scrap S hL C hX hbl hbA okC okM h ex hle G hl kk
      by_cases c5 : z = 5
      · refine lv_tableIn (off := 268) (tgt := 301) hx hb dL_law_33 (by rw [c5]; decide) (by rw [c5]; decide) (by rw [c5]; rfl) (by decide) ?_
        exact law_edge S hL C hX hbl hbA okC okM h ex hle G hl kk
      by_cases c6 : z = 6
      · refine lv_tableIn (off := 321) (tgt := 354) hx hb dL_law_33 (by rw [c6]; decide) (by rw [c6]; decide) (by rw [c6]; rfl) (by decide) ?_
        exact law_undo S hL C hX hbl hbA okC okM h ex hle G hl kk
      by_cases c7 : z = 7
      · refine lv_tableIn (off := 334) (tgt := 367) hx hb dL_law_33 (by rw [c7]; decide) (by rw [c7]; decide) (by rw [c7]; rfl) (by decide) ?_
        exact law_count S hL C hX hbl hbA okC okM h ex hle G hl kk
      by_cases c8 : z = 8
      · refine lv_tableIn (off := 357) (tgt := 390) hx hb dL_law_33 (by rw [c8]; decide) (by rw [c8]; decide) (by rw [c8]; rfl) (by decide) ?_
        exact law_lay S hL C hX hbl hbA okC okM h ex hle G hl kk
      by_cases c9 : z = 9
      · refine lv_tableIn (off := 400) (tgt := 433) hx hb dL_law_33 (by rw [c9]; decide) (by rw [c9]; decide) (by rw [c9]; rfl) (by decide) ?_
        exact law_force S hL C hX hbl hbA okC okM h ex hle G hl kk
      by_cases c10 : z = 10
      · refine lv_tableIn (off := 443) (tgt := 476) hx hb dL_law_33 (by rw [c10]; decide) (by rw [c10]; decide) (by rw [c10]; rfl) (by decide) ?_
        exact law_lift S hL C hX hbl hbA okC okM h ex hle G hl kk
      by_cases c11 : z = 11
      · refine lv_tableIn (off := 466) (tgt := 499) hx hb dL_law_33 (by rw [c11]; decide) (by rw [c11]; decide) (by rw [c11]; rfl) (by decide) ?_
        exact law_turn S hL C hX hbl hbA okC okM h ex hle G hl kk
      by_cases c12 : z = 12
      · refine lv_tableIn (off := 499) (tgt := 532) hx hb dL_law_33 (by rw [c12]; decide) (by rw [c12]; decide) (by rw [c12]; rfl) (by decide) ?_
        exact law_at S hL C hX hbl hbA okC okM h ex hle G hl kk
      by_cases c13 : z = 13
      · refine lv_tableIn (off := 522) (tgt := 555) hx hb dL_law_33 (by rw [c13]; decide) (by rw [c13]; decide) (by rw [c13]; rfl) (by decide) ?_
        exact law_reason S hL C hX hbl hbA okC okM h ex hle G hl kk
      by_cases c14 : z = 14
      · refine lv_tableIn (off := 555) (tgt := 588) hx hb dL_law_33 (by rw [c14]; decide) (by rw [c14]; decide) (by rw [c14]; rfl) (by decide) ?_
        exact law_ways S hL C hX hbl hbA okC okM h ex hle G hl kk
      by_cases c15 : z = 15
      · refine lv_tableIn (off := 588) (tgt := 621) hx hb dL_law_33 (by rw [c15]; decide) (by rw [c15]; decide) (by rw [c15]; rfl) (by decide) ?_
        exact law_bestFor S hL C hX hbl hbA okC okM h ex hle G hl kk
      by_cases c16 : z = 16
      · refine lv_tableIn (off := 611) (tgt := 644) hx hb dL_law_33 (by rw [c16]; decide) (by rw [c16]; decide) (by rw [c16]; rfl) (by decide) ?_
        exact law_fill S hL C hX hbl hbA okC okM h ex hle G hl kk
      by_cases c17 : z = 17
      · refine lv_tableIn (off := 624) (tgt := 657) hx hb dL_law_33 (by rw [c17]; decide) (by rw [c17]; decide) (by rw [c17]; rfl) (by decide) ?_
        exact law_member S hL C hX hbl hbA okC okM h ex hle G hl kk
      by_cases c18 : z = 18
      · refine lv_tableIn (off := 657) (tgt := 690) hx hb dL_law_33 (by rw [c18]; decide) (by rw [c18]; decide) (by rw [c18]; rfl) (by decide) ?_
        exact law_canFill S hL C hX hbl hbA okC okM h ex hle G hl kk
      by_cases c19 : z = 19
      · refine lv_tableIn (off := 670) (tgt := 703) hx hb dL_law_33 (by rw [c19]; decide) (by rw [c19]; decide) (by rw [c19]; rfl) (by decide) ?_
        exact law_type S hL C hX hbl hbA okC okM h ex hle G hl kk
      by_cases c20 : z = 20
      · refine lv_tableIn (off := 693) (tgt := 726) hx hb dL_law_33 (by rw [c20]; decide) (by rw [c20]; decide) (by rw [c20]; rfl) (by decide) ?_
        exact law_clearText S hL C hX hbl hbA okC okM h ex hle G hl kk
      by_cases c21 : z = 21
      · refine lv_tableIn (off := 706) (tgt := 739) hx hb dL_law_33 (by rw [c21]; decide) (by rw [c21]; decide) (by rw [c21]; rfl) (by decide) ?_
        exact law_fault S hL C hX hbl hbA okC okM h ex hle G hl kk
      refine lv_tableOut (tgt := 752) hx hb dL_law_33 (by have q0 := lv_neT c0 (a := 0) (by decide); have q1 := lv_neT c1 (a := 1) (by decide); have q2 := lv_neT c2 (a := 2) (by decide); have q3 := lv_neT c3 (a := 3) (by decide); have q4 := lv_neT c4 (a := 4) (by decide); have q5 := lv_neT c5 (a := 5) (by decide); have q6 := lv_neT c6 (a := 6) (by decide); have q7 := lv_neT c7 (a := 7) (by decide); have q8 := lv_neT c8 (a := 8) (by decide); have q9 := lv_neT c9 (a := 9) (by decide); have q10 := lv_neT c10 (a := 10) (by decide); have q11 := lv_neT c11 (a := 11) (by decide); have q12 := lv_neT c12 (a := 12) (by decide); have q13 := lv_neT c13 (a := 13) (by decide); have q14 := lv_neT c14 (a := 14) (by decide); have q15 := lv_neT c15 (a := 15) (by decide); have q16 := lv_neT c16 (a := 16) (by decide); have q17 := lv_neT c17 (a := 17) (by decide); have q18 := lv_neT c18 (a := 18) (by decide); have q19 := lv_neT c19 (a := 19) (by decide); have q20 := lv_neT c20 (a := 20) (by decide); have q21 := lv_neT c21 (a := 21) (by decide); omega) (by decide) ?_
      exact kk σ τ h H locs G
