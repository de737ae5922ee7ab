/-! p25: A STATE TOLD BY A SNAPSHOT AND A HISTORY; THE CALLS THAT READ -/
variable {σ : gM} {w h n k : Nat} {f : Nat → Int32} {g : Nat → Nat → Int32}
theorem HH.mv {σ' : gM} (H : HH σ k g) (A : ∀ c, 31 ≤ c → c ≤ 107 → σ' c = σ c) : HH σ' k g := by
  obtain ⟨o, hk, ho, r1, r2, H⟩ := H
  refine ⟨o, hk, ho, by rw [A 31 (by decide) (by decide)]; exact r1, by rw [A 31 (by decide) (by decide)]; exact r2, fun i hi => ?_⟩
  obtain ⟨w, h, n, D⟩ := H i hi
  exact ⟨w, h, n, D.mv (fun c _ h => A c (by omega) (by omega))⟩
/-- desk and history are alike -/
def FR (σ σ' : gM) : Prop := ∀ c, c ≤ 107 → σ' c = σ c
theorem FR.rf {σ : gM} : FR σ σ := fun _ _ => rfl
theorem FR.tr {a b c : gM} (h : FR a b) (g : FR b c) : FR a c := fun x hx => (g x hx).trans (h x hx)
def PP (σ : gM) (f : Nat → Int32) (w h n k : Nat) (g : Nat → Nat → Int32) : Prop := DDo σ 1 f w h n ∧ HH σ k g
theorem DDo.fr {σ' : gM} (D : DDo σ 1 f w h n) (F : FR σ σ') : DDo σ' 1 f w h n := D.mv (fun c _ h => F c (by omega))
theorem PP.fr {σ' : gM} (P : PP σ f w h n k g) (F : FR σ σ') : PP σ' f w h n k g := ⟨P.1.fr F, P.2.mv (fun c _ h => F c h)⟩
/-! count -/
def nSs (f : Nat → Int32) (w h n : Nat) : Nat := up (u4 (dS f w h n)) n 0 0
def nSf (f : Nat → Int32) (w h n : Nat) : Nat := up (u4 (dF f w h n)) n 0 0
def nBf (f : Nat → Int32) (w h n : Nat) : Nat := up (u4 (dA f w h n)) n 0 0
def nBn (f : Nat → Int32) (w h n : Nat) : Nat := up (u4 (dB f w h n)) n 0 0
theorem cnt_0 (D : DDo σ 1 f w h n) : fX8_count σ 0 0 = some (nI n, σ) := by
  unfold fX8_count
  rw [if_pos rfl, show fX6_size σ (0 + 1 + 1) = _ from siz8 D, Option.bind_some]
theorem cnt_1 (D : DDo σ 1 f w h n) : fX8_count σ 0 1 = some (nI (nLy f n), σ) := by
  show (fX0_countLying σ (0 + 1)).bind _ = _
  rw [show fX0_countLying σ (0 + 1) = _ from cly8 D, Option.bind_some]
theorem cnt_2 (D : DDo σ 1 f w h n) : fX8_count σ 0 2 = some (nI w, σ) := congrArg (fun x => some (x, σ)) D.2.2.1.2.1
theorem cnt_3 (D : DDo σ 1 f w h n) : fX8_count σ 0 3 = some (nI h, σ) := congrArg (fun x => some (x, σ)) D.2.2.1.2.2
theorem cnt_5 (D : DDo σ 1 f w h n) : fX8_count σ 0 5 = some (nI (nSs f w h n), σ) := by
  have n12 := D.2.1.2.1.2.2.2.2
  show (fX0_countSeams σ 1).bind _ = _
  rw [show fX0_countSeams σ 1 = _ from cs4 D n 0 gF 0 (by omega) (gF_lt (by omega)), Option.bind_some]
  rfl
theorem cnt_6 (D : DDo σ 1 f w h n) : fX8_count σ 0 6 = some (nI (nSf f w h n), σ) := by
  have n12 := D.2.1.2.1.2.2.2.2
  show (fX0_countFittingSeams σ 1).bind _ = _
  rw [show fX0_countFittingSeams σ 1 = _ from cf4 D n 0 gF 0 (by omega) (gF_lt (by omega)), Option.bind_some]
  rfl
theorem cnt_7 (D : DDo σ 1 f w h n) : fX8_count σ 0 7 = some (nI (nBf f w h n), σ) := by
  have n12 := D.2.1.2.1.2.2.2.2
  show (fX0_countBorderEdges σ 1 0).bind _ = _
  rw [show fX0_countBorderEdges σ 1 0 = _ from cb4 D (Or.inl ⟨rfl, rfl⟩) n 0 gF 0 (by omega) (gF_lt (by omega)), Option.bind_some]
  rfl
theorem cnt_8 (D : DDo σ 1 f w h n) : fX8_count σ 0 8 = some (nI (nBn f w h n), σ) := by
  have n12 := D.2.1.2.1.2.2.2.2
  show (fX0_countBorderEdges σ 1 4).bind _ = _
  rw [show fX0_countBorderEdges σ 1 4 = _ from cb4 D (Or.inr ⟨rfl, rfl⟩) n 0 gF 0 (by omega) (gF_lt (by omega)), Option.bind_some]
  rfl
theorem cnt_9 (D : DDo σ 1 f w h n) : fX8_count σ 0 9 = some (nI (w * h) - nI (nLy f n), σ) := by
  unfold fX8_count
  rw [if_neg (show ¬ (9 : Int32) = 0 by decide), if_neg (show ¬ (9 : Int32) = 1 by decide), if_neg (show ¬ (9 : Int32) = 2 by decide), if_neg (show ¬ (9 : Int32) = 3 by decide), if_neg (show ¬ (9 : Int32) = 4 by decide), if_neg (show ¬ (9 : Int32) = 5 by decide), if_neg (show ¬ (9 : Int32) = 6 by decide), if_neg (show ¬ (9 : Int32) = 7 by decide), if_neg (show ¬ (9 : Int32) = 8 by decide), if_pos rfl, show fX4_places σ (0 + 1 + 8) = _ from pls8 D, Option.bind_some, show fX0_countLying σ (0 + 1) = _ from cly8 D, Option.bind_some]
theorem cnt_10 (H : HH σ k g) : fX8_count σ 0 10 = some (nI k, σ) := by
  obtain ⟨o, hk, ho, r1, r2, H⟩ := H
  exact congrArg (fun x => some (x, σ)) r1
/-! groups: what is gathered is told by the snapshot -/
theorem GI.uni {L L' : Nat → Int32} (G : GI f w h n L) (G' : GI f w h n L') (n12 : n ≤ 12) : ∀ s, s < n → L' s = L s := by
  intro s hs
  by_cases c : f (123 + s) = -1
  · rw [G.1 s hs c, G'.1 s hs c]
  · have lk : ∀ (M : Nat → Int32), GI f w h n M → ∀ q a t, rch (Jn f w h n) q a t → M a = M t := by
      intro M GM q
      induction q with
      | zero => intro a t hr; rw [rch_0] at hr; rw [hr]
      | succ q ih =>
        intro a t hr
        rw [rch_s] at hr
        rcases hr with hr | ⟨u, hu, hj⟩
        · exact ih a t hr
        · rw [ih a u hu]; exact GM.2.2 u t hj
    obtain ⟨a, q, e1, e2, e3, e4, e5, e6⟩ := G.2.1 s hs c
    obtain ⟨b, r, d1, d2, d3, d4, d5, d6⟩ := G'.2.1 s hs c
    have h1 : L b = L s := lk L G r b s d5
    have h2 : L' a = L' s := lk L' G' q a s e5
    obtain ⟨a', q', x1, x2, x3, -⟩ := G.2.1 b d3 d4
    obtain ⟨b', r', y1, y2, y3, -⟩ := G'.2.1 a e3 e4
    have z1 : a' = a := (nI_eq (by omega) (by omega)).mp (x1.symm.trans (h1.trans e1))
    have z2 : b' = b := (nI_eq (by omega) (by omega)).mp (y1.symm.trans (h2.trans d1))
    rw [d1, e1, show b = a by omega]
theorem nRt_cong {L L' : Nat → Int32} {N : Nat} (E : ∀ s, s < N → L' s = L s) : ∀ x, x ≤ N → nRt L' x = nRt L x := by
  intro x
  induction x with
  | zero => intro _; rfl
  | succ x ih =>
    intro hx
    rw [nRt_s, nRt_s, ih (by omega)]
    unfold gRt
    rw [E x (by omega)]
theorem cnt_4 (D : DDo σ 1 f w h n) {L : Nat → Int32} (GL : GI f w h n L) : ∃ σ', fX8_count σ 0 4 = some (nI (nRt L n), σ') ∧ FR σ σ' := by
  have n12 := D.2.1.2.1.2.2.2.2
  obtain ⟨σ', p8, A8, z8, G⟩ := gat8 D
  refine ⟨σ', ?_, fun c hc => A8 c (by omega) (by omega)⟩
  show (fX2_gather σ 108 1).bind _ = _
  unfold fX2_size
  rw [p8, Option.bind_some, show σ' (0 + 108) 1 = nI n from z8, show fX2_countBelow σ' (0 + 108) (nI n) = _ from cbw z8 n12 (Nat.le_refl _), Option.bind_some, Option.bind_some, nRt_cong (GL.uni G n12) n (Nat.le_refl _)]
/-! scrap -/
theorem scr_in (D : DDo σ 1 f w h n) {s : Nat} (hs : s < n) : fX8_isScrap σ 0 (nI s) = some 1 := by
  have n12 := D.2.1.2.1.2.2.2.2
  rw [isc8 D]
  rcases inN (nI s) (n := n) (by omega) with c | ⟨s', _, _, c⟩
  · unfold inI at c
    rw [if_neg (nI_pos (by omega))] at c
    by_cases c2 : nI n - 1 < nI s
    · rw [nIs1 (by omega)] at c2
      exact absurd c2 (nI_nlt (by omega) (by omega))
    · rw [if_neg c2] at c
      cases c
  · rw [c]
theorem scr_0 (D : DDo σ 1 f w h n) {s : Nat} (hs : s < n) : fX8_scrap σ 0 (nI s) 0 = some (f (99 + s), σ) := by
  unfold fX8_scrap
  rw [scr_in D hs, Option.bind_some, if_neg n10]
  show (fX6_kind σ (0 + 1 + 1) (nI s)).bind _ = _
  rw [show fX6_kind σ (0 + 1 + 1) (nI s) = _ from knd8 D hs, Option.bind_some]
theorem scr_1 (D : DDo σ 1 f w h n) {s : Nat} (hs : s < n) : fX8_scrap σ 0 (nI s) 1 = some (nI (ovN f s), σ) := by
  unfold fX8_scrap
  rw [scr_in D hs, Option.bind_some, if_neg n10]
  show (fX4_orientationOf σ (0 + 1 + 8) (nI s)).bind _ = _
  rw [show fX4_orientationOf σ (0 + 1 + 8) (nI s) = _ from ori8 D hs, Option.bind_some]
theorem scr_no (D : DDo σ 1 f w h n) {s : Nat} (hs : s < n) (c : f (123 + s) = -1) {x : Int32} (hx : x = 2 ∨ x = 3 ∨ x = 4 ∨ x = 5) : fX8_scrap σ 0 (nI s) x = some (-1004, σ) := by
  unfold fX8_scrap
  rw [scr_in D hs, Option.bind_some, if_neg n10]
  rcases hx with rfl | rfl | rfl | rfl
  all_goals
    show (fX4_lies σ (0 + 1 + 8) (nI s)).bind _ = _
    rw [show fX4_lies σ (0 + 1 + 8) (nI s) = _ from lie8 D hs, Option.bind_some, if_pos c, if_pos rfl]
theorem scr_2 (D : DDo σ 1 f w h n) {s : Nat} (hs : s < n) (c : f (123 + s) ≠ -1) : fX8_scrap σ 0 (nI s) 2 = some (f (123 + s), σ) := by
  unfold fX8_scrap
  rw [scr_in D hs, Option.bind_some, if_neg n10]
  show (fX4_lies σ (0 + 1 + 8) (nI s)).bind _ = _
  rw [show fX4_lies σ (0 + 1 + 8) (nI s) = _ from lie8 D hs, Option.bind_some, if_neg c, if_neg n10]
  show (fX4_placeOf σ (0 + 1 + 8) (nI s)).bind _ = _
  rw [show fX4_placeOf σ (0 + 1 + 8) (nI s) = _ from plc8 D hs, Option.bind_some]
theorem scr_3 (D : DDo σ 1 f w h n) {L : Nat → Int32} (GL : GI f w h n L) {s a : Nat} (hs : s < n) (c : f (123 + s) ≠ -1) (ha : a < n) (hL : L s = nI a) : ∃ σ', fX8_scrap σ 0 (nI s) 3 = some (nI (nRt L a), σ') ∧ FR σ σ' := by
  have n12 := D.2.1.2.1.2.2.2.2
  obtain ⟨σ', p8, A8, z8, G⟩ := gat8 D
  refine ⟨σ', ?_, fun c hc => A8 c (by omega) (by omega)⟩
  unfold fX8_scrap
  rw [scr_in D hs, Option.bind_some, if_neg n10]
  show (fX4_lies σ (0 + 1 + 8) (nI s)).bind _ = _
  rw [show fX4_lies σ (0 + 1 + 8) (nI s) = _ from lie8 D hs, Option.bind_some, if_neg c, if_neg n10]
  show (fX2_gather σ (0 + 108) (0 + 1)).bind _ = _
  rw [show fX2_gather σ (0 + 108) (0 + 1) = _ from p8, Option.bind_some]
  unfold fX2_groupOf
  rw [get_in (show s < gln (0 + 108 + 1 + 1) by rw [show gln (0 + 108 + 1 + 1) = 12 from g110]; omega), Option.bind_some, show σ' (0 + 108 + 1 + 1) s = nI a from (GL.uni G n12 s hs).trans hL, show fX2_countBelow σ' (0 + 108) (nI a) = _ from cbw z8 n12 (by omega), Option.bind_some, Option.bind_some, nRt_cong (GL.uni G n12) a (by omega)]
theorem scr_4 (D : DDo σ 1 f w h n) {s p : Nat} (hs : s < n) (hp : p < w * h) (c : f (123 + s) = nI p) : fX8_scrap σ 0 (nI s) 4 = some (nI (nFit f w h n s p (ovN f s)), σ) := by
  have hwh := wh_le D.2.1.2.1.2.1 D.2.1.2.1.2.2.2.1
  have c0 : ¬ f (123 + s) = -1 := by rw [c]; exact m1_ne (by omega)
  unfold fX8_scrap
  rw [scr_in D hs, Option.bind_some, if_neg n10]
  show (fX4_lies σ (0 + 1 + 8) (nI s)).bind _ = _
  rw [show fX4_lies σ (0 + 1 + 8) (nI s) = _ from lie8 D hs, Option.bind_some, if_neg c0, if_neg n10]
  show (fX0_countFits σ (0 + 1) (nI s)).bind _ = _
  rw [show fX0_countFits σ (0 + 1) (nI s) = _ from cft8 D hs hp c, Option.bind_some]
theorem scr_5 (D : DDo σ 1 f w h n) {s p : Nat} (hs : s < n) (hp : p < w * h) (c : f (123 + s) = nI p) : fX8_scrap σ 0 (nI s) 5 = some (nI (nFlt f w h n s p (ovN f s)), σ) := by
  have hwh := wh_le D.2.1.2.1.2.1 D.2.1.2.1.2.2.2.1
  have c0 : ¬ f (123 + s) = -1 := by rw [c]; exact m1_ne (by omega)
  unfold fX8_scrap
  rw [scr_in D hs, Option.bind_some, if_neg n10]
  show (fX4_lies σ (0 + 1 + 8) (nI s)).bind _ = _
  rw [show fX4_lies σ (0 + 1 + 8) (nI s) = _ from lie8 D hs, Option.bind_some, if_neg c0, if_neg n10]
  show (fX0_countFaults σ (0 + 1) (nI s)).bind _ = _
  rw [show fX0_countFaults σ (0 + 1) (nI s) = _ from cfl8 D hs hp c, Option.bind_some]
/-! at, reason, ways, edge -/
def sO : Option Nat → Int32
  | none => -1004
  | some v => nI v
theorem pla_in (D : DDo σ 1 f w h n) {p : Nat} (hp : p < w * h) : fX8_isPlace σ 0 (nI p) = some 1 := by
  have hwh := wh_le D.2.1.2.1.2.1 D.2.1.2.1.2.2.2.1
  rw [ipl8 D]
  rcases inN (nI p) (n := w * h) (by omega) with c | ⟨s', _, _, c⟩
  · unfold inI at c
    rw [if_neg (nI_pos (by omega))] at c
    by_cases c2 : nI (w * h) - 1 < nI p
    · rw [nIs1 (by omega)] at c2
      exact absurd c2 (nI_nlt (by omega) (by omega))
    · rw [if_neg c2] at c
      cases c
  · rw [c]
theorem at_p (D : DDo σ 1 f w h n) {p : Nat} (hp : p < w * h) : fX8_at σ 0 (nI p) = some (sO (sc f n p)) := by
  have hwh := wh_le D.2.1.2.1.2.1 D.2.1.2.1.2.2.2.1
  have n12 := D.2.1.2.1.2.2.2.2
  unfold fX8_at
  rw [pla_in D hp, Option.bind_some, if_neg n10, show fX4_scrapAt σ (0 + 1 + 8) (nI p) = some (oI (sc f n p)) from sca8s D (by omega), Option.bind_some]
  cases hv : sc f n p with
  | none => rw [if_pos oI_n]; rfl
  | some v =>
    have := (sc_lt hv).1
    rw [oI_s, if_neg (m1_ne (by omega))]
    rfl
theorem ed_in {e : Nat} (he : e < 4) : fX8_isEdge σ (nI e) = some 1 := by
  rw [ied8]
  rcases (show e = 0 ∨ e = 1 ∨ e = 2 ∨ e = 3 by omega) with rfl | rfl | rfl | rfl <;> rfl
theorem or_in {o : Nat} (ho : o < 8) : fX8_isOrientation σ (nI o) = some 1 := by
  rw [ior8]
  rcases (show o = 0 ∨ o = 1 ∨ o = 2 ∨ o = 3 ∨ o = 4 ∨ o = 5 ∨ o = 6 ∨ o = 7 by omega) with rfl | rfl | rfl | rfl | rfl | rfl | rfl | rfl <;> rfl
theorem rea_p (D : DDo σ 1 f w h n) {p s e : Nat} (hp : p < w * h) (he : e < 4) (hc : sc f n p = some s) : fX8_reason σ 0 (nI p) (nI e) = some (if rs f w h n s p (ovN f s) e = -1 then -1004 else rs f w h n s p (ovN f s) e) := by
  have hwh := wh_le D.2.1.2.1.2.1 D.2.1.2.1.2.2.2.1
  have n12 := D.2.1.2.1.2.2.2.2
  have hvn := (sc_lt hc).1
  have hov := D.2.1.ov hvn
  unfold fX8_reason
  rw [pla_in D hp, Option.bind_some, if_neg n10, ed_in he, Option.bind_some, if_neg n10, show fX4_scrapAt σ (0 + 1 + 8) (nI p) = some (oI (sc f n p)) from sca8s D (by omega), Option.bind_some, hc, oI_s, if_neg (m1_ne (by omega)), show fX4_orientationOf σ (0 + 1 + 8) (nI s) = _ from ori8 D hvn, Option.bind_some, show fX0_verdict σ (0 + 1) (nI s) (nI p) (nI (ovN f s)) (nI e) = _ from ver8 D hvn hp hov.1 he, Option.bind_some]
  split <;> rfl
theorem way_p (D : DDo σ 1 f w h n) {s p : Nat} (hs : s < n) (hp : p < w * h) : ∃ v, fX8_ways σ 0 (nI s) (nI p) = some v ∧ (sc f n p = none → v = nI (nWay f w h n s p)) := by
  have hwh := wh_le D.2.1.2.1.2.1 D.2.1.2.1.2.2.2.1
  have n12 := D.2.1.2.1.2.2.2.2
  have q : fX0_countWays σ (0 + 1) (nI s) (nI p) = _ := way8L D hs hp 8 0 gF 0 rfl (gF_lt (by decide))
  unfold fX8_ways
  rw [scr_in D hs, Option.bind_some, if_neg n10, pla_in D hp, Option.bind_some, if_neg n10, show fX4_scrapAt σ (0 + 1 + 8) (nI p) = some (oI (sc f n p)) from sca8s D (by omega), Option.bind_some, q, Option.bind_some]
  cases hv : sc f n p with
  | none =>
    rw [if_pos oI_n]
    exact ⟨_, rfl, fun _ => rfl⟩
  | some v =>
    have hvn := (sc_lt hv).1
    rw [oI_s, if_neg (m1_ne (by omega))]
    by_cases c : nI v = nI s
    · rw [if_pos c]
      exact ⟨_, rfl, fun q => by cases q⟩
    · rw [if_neg c]
      exact ⟨_, rfl, fun q => by cases q⟩
theorem edg_0 (D : DDo σ 1 f w h n) {s o e : Nat} (hs : s < n) (ho : o < 8) (he : e < 4) : fX8_edge σ 0 (nI s) (nI o) (nI e) 0 = some (tP f s o e) := by
  unfold fX8_edge
  rw [scr_in D hs, Option.bind_some, if_neg n10, or_in ho, Option.bind_some, if_neg n10, ed_in he, Option.bind_some, if_neg n10]
  show (fX6_profile σ (0 + 1 + 1) (nI s) (nI o) (nI e)).bind _ = _
  rw [show fX6_profile σ (0 + 1 + 1) (nI s) (nI o) (nI e) = _ from pro8 D hs ho he, Option.bind_some]
theorem edg_1 (D : DDo σ 1 f w h n) {s o e : Nat} (hs : s < n) (ho : o < 8) (he : e < 4) : fX8_edge σ 0 (nI s) (nI o) (nI e) 1 = some (tL f s o e) := by
  unfold fX8_edge
  rw [scr_in D hs, Option.bind_some, if_neg n10, or_in ho, Option.bind_some, if_neg n10, ed_in he, Option.bind_some, if_neg n10]
  show (fX6_line σ (0 + 1 + 1) (nI s) (nI o) (nI e)).bind _ = _
  rw [show fX6_line σ (0 + 1 + 1) (nI s) (nI o) (nI e) = _ from lin8 D hs ho he, Option.bind_some]
/-! member -/
/-- how many of the first n are in a set -/
def cn (P : Nat → Bool) : Nat → Nat
  | 0 => 0
  | n + 1 => cn P n + if P n = true then 1 else 0
theorem cn_s {P : Nat → Bool} {n : Nat} : cn P (n + 1) = cn P n + if P n = true then 1 else 0 := rfl
/-- the scraps of the group q -/
def gP (f : Nat → Int32) (L : Nat → Int32) (q s : Nat) : Bool := decide (f (123 + s) ≠ -1) && decide (nRt L (L s).toNatClampNeg = q)
theorem memL8 {σ : gM} {q A : Nat} {L : Nat → Int32} (n12 : n ≤ 12) (hA : A < 2 ^ 31) (hq : q ≤ n) (z8 : σ 108 1 = nI n) (EL : ∀ s, s < n → σ 110 s = L s) (GL : GI f w h n L) : ∀ (d i m j : Nat), i + d = n → d < m → j ≤ A → j = cn (gP f L q) i → ∃ p : Option Nat, (∀ v, p = some v → v < n ∧ gP f L q v = true ∧ cn (gP f L q) v = A) ∧ (p = none → cn (gP f L q) n ≤ A) ∧ fX2_scrapOf_5 σ 108 (nI q) (nI A) m (nI j) (nI i) = some (oI p) := by
  intro d
  induction d with
  | zero =>
    intro i m j hi hm hj ej
    obtain ⟨m, rfl⟩ : ∃ q, m = q + 1 := ⟨m - 1, by omega⟩
    obtain rfl : i = n := by omega
    refine ⟨none, (fun v q => by cases q), fun _ => by omega, ?_⟩
    rw [fX2_scrapOf_5, z8, if_pos (nI_le (by omega) (by omega))]
    rfl
  | succ d ih =>
    intro i m j hi hm hj ej
    obtain ⟨m, rfl⟩ : ∃ q, m = q + 1 := ⟨m - 1, by omega⟩
    rw [fX2_scrapOf_5, z8, if_neg (nI_ge (by omega) (by omega)), get_in (show i < gln (108 + 1 + 1) by rw [show gln (108 + 1 + 1) = 12 from g110]; omega), Option.bind_some, show σ (108 + 1 + 1) i = L i from EL i (by omega)]
    by_cases cl : f (123 + i) = -1
    · have e0 : gP f L q i = false := by unfold gP; rw [decide_eq_false (by simpa using cl)]; rfl
      obtain ⟨p, p1, p2, p3⟩ := ih (i + 1) m j (by omega) (by omega) hj (by rw [cn_s, e0, ej]; simp)
      rw [if_pos (show L i = -1 from GL.1 i (by omega) cl), gl_e, nIa1]
      exact ⟨p, p1, p2, p3⟩
    · obtain ⟨a, r, b1, b2, b3, b4, b5, b6⟩ := GL.2.1 i (by omega) cl
      have br := nRt_le L a
      have e1 : gP f L q i = decide (nRt L a = q) := by unfold gP; rw [b1, nI_cl (by omega), decide_eq_true (by simpa using cl)]; rfl
      rw [b1, if_neg (m1_ne (by omega))]
      unfold fX2_groupOf
      rw [get_in (show i < gln (108 + 1 + 1) by rw [show gln (108 + 1 + 1) = 12 from g110]; omega), Option.bind_some, show σ (108 + 1 + 1) i = nI a from (EL i (by omega)).trans b1, cbw z8 n12 (by omega), Option.bind_some, Option.bind_some, show nRt (σ 110) a = nRt L a from nRt_cong EL a (by omega)]
      by_cases cg : nRt L a = q
      · rw [if_pos (show nI (nRt L a) = nI q by rw [cg])]
        have e2 : gP f L q i = true := by rw [e1]; exact decide_eq_true cg
        by_cases cj : j = A
        · rw [if_pos (show nI j = nI A by rw [cj])]
          exact ⟨some i, (fun v x => by cases x; exact ⟨by omega, e2, by omega⟩), (fun x => by cases x), rfl⟩
        · obtain ⟨p, p1, p2, p3⟩ := ih (i + 1) m (j + 1) (by omega) (by omega) (by omega) (by rw [cn_s, e2, ej]; simp)
          rw [if_neg (show ¬ nI j = nI A from fun q => cj ((nI_eq (by omega) (by omega)).mp q)), gl_e, gl_e, nIa1, nIa1]
          exact ⟨p, p1, p2, p3⟩
      · have e2 : gP f L q i = false := by rw [e1]; exact decide_eq_false cg
        obtain ⟨p, p1, p2, p3⟩ := ih (i + 1) m j (by omega) (by omega) hj (by rw [cn_s, e2, ej]; simp)
        rw [if_neg (show ¬ nI (nRt L a) = nI q from fun x => cg ((nI_eq (by omega) (by omega)).mp x)), gl_e, nIa1]
        exact ⟨p, p1, p2, p3⟩
theorem mem_p (D : DDo σ 1 f w h n) {L : Nat → Int32} (GL : GI f w h n L) {q A : Nat} (hq : q < nRt L n) (hA : A < 2 ^ 31) : ∃ (p : Option Nat) (σ' : gM), fX8_member σ 0 (nI q) (nI A) = some (sO p, σ') ∧ FR σ σ' ∧ (∀ v, p = some v → v < n ∧ gP f L q v = true ∧ cn (gP f L q) v = A) ∧ (p = none → cn (gP f L q) n ≤ A) := by
  have n12 := D.2.1.2.1.2.2.2.2
  obtain ⟨σ', p8, A8, z8, G⟩ := gat8 D
  have EL := GL.uni G n12
  have er : nRt (σ' 110) n = nRt L n := nRt_cong EL n (Nat.le_refl _)
  have bn := nRt_le L n
  obtain ⟨p, p1, p2, p3⟩ := memL8 (q := q) (A := A) n12 hA (by omega) z8 EL GL n 0 gF 0 (by omega) (gF_lt (by omega)) (Nat.zero_le _) rfl
  refine ⟨p, σ', ?_, fun c hc => A8 c (by omega) (by omega), p1, p2⟩
  unfold fX8_member fX2_size
  rw [show fX2_gather σ (0 + 108) (0 + 1) = _ from p8, Option.bind_some, show σ' (0 + 108) 1 = nI n from z8, show fX2_countBelow σ' (0 + 108) (nI n) = _ from cbw z8 n12 (Nat.le_refl _), Option.bind_some, Option.bind_some, in8e, Option.bind_some, er]
  have c1 : inI (nI q) 0 (nI (nRt L n) - 1) = 1 := by
    unfold inI
    rw [if_neg (nI_pos (by omega)), nIs1 (by omega), if_neg (nI_nlt (by omega) (by omega))]
  rw [c1, if_neg n10, if_pos (show 0 ≤ nI A from nI_le (a := 0) (Nat.zero_le _) hA)]
  unfold fX2_scrapOf
  rw [show fX2_scrapOf_5 σ' (0 + 108) (nI q) (nI A) gF 0 0 = _ from p3, Option.bind_some]
  cases p with
  | none => rw [if_pos oI_n]; rfl
  | some v =>
    have := (p1 v rfl).1
    rw [oI_s, if_neg (m1_ne (by omega))]
    rfl
