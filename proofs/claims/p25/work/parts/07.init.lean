/-! THE CONSTRUCTORS -/
theorem k_fr_grow {X : gX} {σ : gM} {k u : Nat} (F : gFr X σ) (hk : xhi X = k) (hu : u = k + 1) : gFr (xgrow X u) σ := ⟨fun a h => F.1 a (by have h : u ≤ a := h; omega), fun a j h => F.2 a j (by have h : u ≤ a := h; omega)⟩
theorem k_fr_set {X : gX} {σ : gM} {k j : Nat} (F : gFr X σ) (hk : k < xhi X) : gFr (xset X k j) σ := ⟨F.1, fun a i h => by
  have h : xhi X ≤ a := h
  show (if a = k ∧ i = j then true else xst X a i) = false
  rw [if_neg (by omega), F.2 a i h]⟩
theorem k_fr_done {X : gX} {σ σ' : gM} {t u : Nat} (F : gFr X σ) (hu : xhi X ≤ u) (hs : ∀ k, u ≤ k → σ' k = σ k) : gFr (xdone X t u) σ' := ⟨fun a h => by
  have h : u ≤ a := h
  rw [hs a h, F.1 a (by omega)], fun a i h => by
  have h : u ≤ a := h
  show (if t ≤ a ∧ a < u then true else xst X a i) = false
  rw [if_neg (by omega), F.2 a i (by omega)]⟩
theorem k_fin {X Y : gX} {σ : gM} {s : State} {H : Heap} {locs : List Loc} (G : gG X σ s H locs) (e1 : xI Y = xI X) (e2 : xC Y = xC X) (e3 : xQ Y = xQ X) (e4 : xN Y = xN X) (el : xlo Y = xlo X) (eh : xhi Y = xhi X) (ew : xw Y = xw X) (eD : xD Y = xD X) (eA : xA Y = xA X) (h : ∀ k j, xlo X ≤ k → k < xhi X → gneed (gkd k) j = true → xst Y k j = xst X k j) : gG Y σ s H locs := by
  have e := gws_eqX (σ := σ) e1 e2 e3 e4 el eh ew h
  unfold gG
  rw [e, eD, eA]
  exact G
theorem x_set {A : gX} {t i k j : Nat} : xst (xset A t i) k j = if k = t ∧ j = i then true else xst A k j := rfl
theorem x_grow {A : gX} {u k j : Nat} : xst (xgrow A u) k j = xst A k j := rfl
theorem x_done {A : gX} {t u k j : Nat} : xst (xdone A t u) k j = if t ≤ k ∧ k < u then true else xst A k j := rfl
theorem gref_set {X : gX} {t j d : Nat} : gref (xset X t j) t j d = .ref (xN X + (t + d)) := by
  unfold gref
  exact if_pos (show xst (xset X t j) t j = true from if_pos ⟨rfl, rfl⟩)
theorem gref_ne {X : gX} {t i j d : Nat} (h : ¬ i = j) : gref (xset X t j) t i d = gref X t i d := by
  unfold gref
  have e : xst (xset X t j) t i = xst X t i := if_neg (fun q => h q.2)
  rw [e]
  rfl
theorem fr_fill5 {o1 : Nat} {a2 : Int32} : ∀ (n : Nat) (σ σ' : gM) (x2 x3 : Int32), fJ7_fill_53178_5 o1 a2 n σ x2 x3 = some σ' → ∀ k, ¬ k = o1 → σ' k = σ k := by
  intro n
  induction n with
  | zero =>
    intro σ σ' x2 x3 h
    rw [fJ7_fill_53178_5] at h
    cases h
  | succ n ih =>
    intro σ σ' x2 x3 h k hk
    rw [fJ7_fill_53178_5] at h
    by_cases c : x3 ≤ x2
    · have h := g_it h c
      rw [← Option.some.inj h]
    · have h := g_if h c
      obtain ⟨-, h⟩ := g_chk h
      exact (ih _ _ _ _ h k hk).trans (gset_ne hk)
theorem fr_setAll {σ σ' : gM} {t : Nat} {a : Int32} (h : fX5_setAll σ t a = some σ') : ∀ k, ¬ k = t + 1 → σ' k = σ k := by
  unfold fX5_setAll at h
  obtain ⟨σ2, h1, h⟩ := g_bind h
  rw [← Option.some.inj h]
  exact fr_fill5 _ _ _ _ _ h1
theorem fr_clear {σ σ' : gM} {t : Nat} {a b : Int32} (h : fX4_clear σ t a b = some σ') : ∀ k, (k < t ∨ t + 7 ≤ k) → σ' k = σ k := by
  intro k hk
  unfold fX4_clear at h
  obtain ⟨σ1, e1, h⟩ := g_let h
  obtain ⟨σ2, e2, h⟩ := g_let h
  obtain ⟨σ3, h3, h⟩ := g_bind h
  obtain ⟨σ4, h4, h⟩ := g_bind h
  obtain ⟨σ5, h5, h⟩ := g_bind h
  rw [← Option.some.inj h, fr_setAll h5 k (by omega), fr_setAll h4 k (by omega), fr_setAll h3 k (by omega), ← e2, gset_ne (by omega), ← e1, gset_ne (by omega)]

theorem gref_null {X : gX} {k j d : Nat} (h : xst X k j = false) : gref X k j d = .null := by
  unfold gref
  rw [h]
  rfl
/-- a call that makes nothing leaves the heap's size -/
theorem g_callv' {p : Program} {l : Launch} {e : Env} {R : Room} {s : State} {m : MethodId} {args : Array Value} {below : List Frame} {meth : Method} {c : Code} {H : Heap} {locs : List Loc} {cells slots : Nat} {Q : State → Prop} {pc : Nat} {ls : Array Slot} {rest st : List Value} {X : gX} {σ σ' : gM} {a : Array Value} (hr : va_Run p l e R s m args below meth c H locs cells slots 0 0 (F0 m pc ls st) rest (gQv X σ' a) (xA X)) (G : gG X σ s H locs) (hbd : s.heap.size + cells ≤ H.size) (kk : ∀ (H1 : Heap) (locs1 : List Loc), gG X σ' s H1 locs1 → H1.size = H.size → W p l e R s m args below meth c H1 locs1 cells slots Q (F0 m (pc + 3) ls rest)) : W p l e R s m args below meth c H locs cells slots Q (F0 m pc ls st) := by
  intro T hT Y
  obtain ⟨v, st₀, t, T', L, h0, Y', hL, e1, e2, ⟨⟨u, hv, hp, hb⟩, hz, hk⟩, st⟩ := hr T hT Y
  cases hv
  rw [h0] at hz hk
  have hup : T'.heap.size ≤ s.heap.size + cells := Y'.same.2.2.1
  obtain ⟨t2, a1, b1⟩ := kk T'.heap (locs ++ L) ⟨by rw [e1]; exact hb.1, hb.2.2.1, Nat.le_trans G.2.2.1 (by rw [e1]; exact hz), fun q h1 h2 => by rw [e1, hk q (Nat.lt_of_lt_of_le h1 G.2.2.1) h2]; exact G.2.2.2.1 q h1 h2, fun q hq => by
      rcases List.mem_append.mp hq with h | h
      · exact G.2.2.2.2 q h
      · exact hL q h⟩ (by rw [← e1] at hz; omega) T' rfl Y'
  exact ⟨t2, st t2 a1, b1⟩
abbrev gBs : Type := va_G × (ClassId × ClassId × ClassId) × (Nat → Prop) × Nat × Nat × va_W
/-- a pool by what stays (B), how far it is made (u), what references are set (st) -/
def xmk (B : gBs) (u : Nat) (st : Nat → Nat → Bool) : gX := (B.1, B.2.1, B.2.2.1, (B.2.2.2.1, B.2.2.2.2.1, u), st, B.2.2.2.2.2)
def bA (B : gBs) : Nat → Prop := B.2.2.1
def bN (B : gBs) : Nat := B.2.2.2.1
def blo (B : gBs) : Nat := B.2.2.2.2.1
def sset (st : Nat → Nat → Bool) (t j : Nat) : Nat → Nat → Bool := fun a b => if a = t ∧ b = j then true else st a b
def sdone (st : Nat → Nat → Bool) (t u : Nat) : Nat → Nat → Bool := fun a b => if t ≤ a ∧ a < u then true else st a b
/-- what isn't made yet is empty -/
def qFr (u : Nat) (st : Nat → Nat → Bool) (σ : gM) : Prop := (∀ k, u ≤ k → σ k = fun _ => 0) ∧ ∀ k j, u ≤ k → st k j = false
theorem gref_nullB {B : gBs} {u : Nat} {st : Nat → Nat → Bool} {k j d : Nat} (h : st k j = false) : gref (xmk B u st) k j d = .null := gref_null (X := xmk B u st) h
theorem sset_ne {S : Nat → Nat → Bool} {t i k j : Nat} (h : ¬ (k = t ∧ j = i)) : sset S t i k j = S k j := if_neg h
theorem sset_eq {S : Nat → Nat → Bool} {t i : Nat} : sset S t i t i = true := if_pos ⟨rfl, rfl⟩
theorem sdone_ne {S : Nat → Nat → Bool} {t u k j : Nat} (h : ¬ (t ≤ k ∧ k < u)) : sdone S t u k j = S k j := if_neg h
theorem sdone_eq {S : Nat → Nat → Bool} {t u k j : Nat} (h : t ≤ k ∧ k < u) : sdone S t u k j = true := if_pos h
theorem q_C {B : gBs} {u u' : Nat} {st st' : Nat → Nat → Bool} {p : Program} {s : State} {m : MethodId} {args : Array Value} {c : Code} {cc : ByteArray} {nL : Nat} {own : String} (K : gC (xmk B u st) p s m args c cc nL own) : gC (xmk B u' st') p s m args c cc nL own := K
theorem q_fr_grow {u k : Nat} {st : Nat → Nat → Bool} {σ : gM} (F : qFr k st σ) (hu : k ≤ u) : qFr u st σ := ⟨fun a h => F.1 a (Nat.le_trans hu h), fun a j h => F.2 a j (Nat.le_trans hu h)⟩
theorem q_fr_set {u k j : Nat} {st : Nat → Nat → Bool} {σ : gM} (F : qFr u st σ) (hk : k < u) : qFr u (sset st k j) σ := ⟨F.1, fun a i h => by
  unfold sset
  rw [if_neg (by omega), F.2 a i h]⟩
theorem q_fr_done {u t k : Nat} {st : Nat → Nat → Bool} {σ σ' : gM} (F : qFr k st σ) (hu : k ≤ u) (hs : ∀ k, u ≤ k → σ' k = σ k) : qFr u (sdone st t u) σ' := ⟨fun a h => by rw [hs a h, F.1 a (by omega)], fun a i h => by
  unfold sdone
  rw [if_neg (by omega), F.2 a i (by omega)]⟩
theorem q_fin {B : gBs} {u : Nat} {st st' : Nat → Nat → Bool} {σ : gM} {s : State} {H : Heap} {locs : List Loc} (G : gG (xmk B u st) σ s H locs) (h : ∀ k j, k < u → gneed (gkd k) j = true → st' k j = st k j) : gG (xmk B u st') σ s H locs := by
  have e := gws_eqX (X := xmk B u st) (Y := xmk B u st') (σ := σ) rfl rfl rfl rfl rfl rfl rfl (fun k j _ h2 h3 => h k j h2 h3)
  unfold gG
  rw [e]
  exact G
theorem arrV_congr {cA : ClassId} {n : Nat} {f g : Nat → Value} (h : ∀ j, j < n → f j = g j) : arrV cA n f = arrV cA n g := by
  have e : (Array.ofFn (n := n) fun i => f i.val) = Array.ofFn (n := n) fun i => g i.val := by
    congr 1
    funext i
    exact h i.val i.isLt
  unfold arrV
  first | rw [e] | (congr 1; first | (apply List.map_congr_left; intro i hi; exact h i (List.mem_range.mp hi)) | skip)
theorem gws_key {B : gBs} {u : Nat} {st st' : Nat → Nat → Bool} {σ : gM} {i : Nat} {q : Nat × va_E} (hq : (gws (xmk B u st') σ)[i]? = some q) : ∃ e0, (gws (xmk B u st) σ)[i]? = some (q.1, e0) ∧ (e0 = q.2 ∨ ∃ k, k < u ∧ e0 = gE (xmk B u st) σ k ∧ q.2 = gE (xmk B u st') σ k) := by
  unfold gws at hq ⊢
  by_cases hi : i < (xw (xmk B u st')).length
  · rw [List.getElem?_append_left hi] at hq
    exact ⟨q.2, by rw [List.getElem?_append_left (show i < (xw (xmk B u st)).length from hi)]; exact hq, Or.inl rfl⟩
  · rw [List.getElem?_append_right (by omega), List.getElem?_map] at hq
    rw [List.getElem?_append_right (show (xw (xmk B u st)).length ≤ i from by have h2 : ¬ i < (xw (xmk B u st)).length := hi; omega), List.getElem?_map]
    have eh : xhi (xmk B u st') = u := rfl
    by_cases hj : i - (xw (xmk B u st')).length < u - blo B
    · have e1 : (List.range (xhi (xmk B u st') - xlo (xmk B u st')))[i - (xw (xmk B u st')).length]? = some (i - (xw (xmk B u st')).length) := List.getElem?_range hj
      have e2 : (List.range (xhi (xmk B u st) - xlo (xmk B u st)))[i - (xw (xmk B u st)).length]? = some (i - (xw (xmk B u st')).length) := List.getElem?_range hj
      rw [e1] at hq
      rw [e2]
      have hq := Option.some.inj hq
      subst hq
      exact ⟨_, rfl, Or.inr ⟨blo B + (i - (xw (xmk B u st')).length), by omega, rfl, rfl⟩⟩
    · have e1 : (List.range (xhi (xmk B u st') - xlo (xmk B u st')))[i - (xw (xmk B u st')).length]? = none := List.getElem?_eq_none (by rw [List.length_range]; show u - blo B ≤ _; omega)
      rw [e1] at hq
      cases hq
theorem q_fin2 {B : gBs} {u : Nat} {st st' : Nat → Nat → Bool} {σ : gM} {s : State} {H : Heap} {locs : List Loc} (G : gG (xmk B u st) σ s H locs) (h : ∀ k j, k < u → gneed (gkd k) j = true → (gkd k = 12 → j < gln k) → st' k j = st k j) : gG (xmk B u st') σ s H locs := by
  refine ⟨fun i q hq => ?_, ⟨fun i j a b ha hb hab => ?_, fun k q hq => ?_⟩, G.2.2⟩
  · obtain ⟨e0, h1, h2⟩ := gws_key (st := st) hq
    have g0 := G.1 i _ h1
    rcases h2 with h2 | ⟨k, hk, h2, h3⟩
    · subst h2
      exact g0
    · obtain ⟨a, e⟩ := q
      have h3 : e = gE (xmk B u st') σ k := h3
      subst h3
      subst h2
      by_cases h12 : gkd k = 12
      · have g1 : va_at (xD (xmk B u st)) vwCl (a, gE (xmk B u st) σ k) H := g0
        rw [gE_12 (X := xmk B u st) h12] at g1
        have g1 : H[a]? = some (vp_cell _ _) := g1
        rw [gE_12 (X := xmk B u st') h12]
        show H[a]? = some (vp_cell _ _)
        rw [g1, vp_cell_q, vp_cell_q]
        congr 1
        apply arrV_congr
        intro j hj
        have e9 : xst (xmk B u st') k j = xst (xmk B u st) k j := h k j hk (by rw [h12]; rfl) (fun _ => hj)
        rw [e9]
        rfl
      · rw [gE_eqX (X := xmk B u st) (Y := xmk B u st') rfl rfl rfl rfl (fun j hj => h k j hk hj (fun z => absurd z h12))]
        exact g0
  · obtain ⟨e0, h1, -⟩ := gws_key (st := st) ha
    obtain ⟨e2, h3, -⟩ := gws_key (st := st) hb
    exact G.2.1.1 i j _ _ h1 h3 hab
  · obtain ⟨e0, h1, -⟩ := gws_key (st := st) hq
    exact G.2.1.2 k (q.1, e0) h1
theorem q_met {l : Launch} {y : MethodName} {ws : List Cond} {fr mc ms lo : Nat} {cc : ByteArray} {maxL : Nat} {own : String} {av : List Value} {B : gBs} {u u' : Nat} {st st' : Nat → Nat → Bool} {σ σ' : gM} (hy : plainName y.cls = true) (hw : ws = Cond.code y cc maxL none :: gBig) (hcl : y.cls = own) (hnm : y.name = "<init>") (hav : (lg_sl av).length ≤ maxL)
    (body : ∀ {p : Program} {e : Env} {s : State} {m : MethodId} {args : Array Value} {below : List Frame} {meth : Method} {c : Code} {Q : State → Prop}, gC (xmk B u st) p s m args c cc maxL own → gG (xmk B u st) σ s s.heap [] → s.heap.size = bN B + u → (∀ q, s.heap.size ≤ q → bA B q) → meth.name = "<init>" →
      (∀ {pc : Nat} {H : Heap} {locs : List Loc} {ls : Array Slot}, decode cc pc = .ok (.return_, 1) → gG (xmk B u' st') σ' s H locs → H.size = bN B + u' → W p l e ({ frames := fr, cells := mc, slots := ms, locals := lo }) s m args below meth c H locs mc ms Q (F0 m pc ls [])) →
      ∀ ls : Array Slot, lv_has ls maxL (lv_args 0 av) → W p l e ({ frames := fr, cells := mc, slots := ms, locals := lo }) s m args below meth c s.heap [] 0 0 Q (F0 m 0 ls [])) :
    Met l y ws ({ frames := fr, cells := mc, slots := ms, locals := lo }) (kPc (xmk B u st) σ av) (kQv (xmk B u st) (xmk B u' st') σ') mc ms (bA B) :=
  k_met (X := xmk B u st) (Y := xmk B u' st') hy hw hcl hnm hav (fun C G Z hA hin ret ls hl => body C G Z hA hin (fun hd g z => ret hd g z rfl) ls hl) rfl rfl
section QROWS
variable {p : Program} {l : Launch} {e : Env} {R : Room} {s : State} {m : MethodId} {args : Array Value} {below : List Frame} {meth : Method} {c : Code} {H : Heap} {locs : List Loc} {cells slots : Nat} {Q : State → Prop}
variable {cc : ByteArray} {pc nL : Nat} {ls : Array Slot} {rest stk : List Value} {own : String} {B : gBs} {st st' : Nat → Nat → Bool} {σ σ' : gM} {t idx k u u' : Nat}
theorem q_new {C : String} {T : u_T} {N ci : Nat} {fs : List Value} (K : gC (xmk B k st) p s m args c cc nL own) (G : gG (xmk B k st) σ s H locs) (hz : H.size = bN B + k) (hu : u = k + 1) (hl : blo B ≤ k) (hA : ∀ q, s.heap.size ≤ q → bA B q) (hc : vwCl[ci]? = some (C, T, N)) (hin : ∀ w ∈ u_ws C T N, w ∈ gBig) (ty : Nat → FieldType) (hty : ∀ k, k < N → parseFieldDescriptor (T k).2.2.1 = some (ty k)) (hcl : Cond.classLink own idx C ∈ gBig) (hinst : Cond.instantiable C N ∈ gBig) (hini : Cond.initialized C ∈ gBig) (hE : gE (xmk B k st) σ k = .inr (ci, fs)) (hfs : ∀ j, j < N → defaultValue (ty j) = vp_V fs j) (hcells : cells + 1 ≤ R.cells) (hslots : slots + N ≤ R.slots) (hdg : decode cc pc = .ok (.new idx, 3))
    (kk : ∀ (H1 : Heap), gG (xmk B u st) σ s H1 locs → H1.size = bN B + u → W p l e R s m args below meth c H1 locs (cells + 1) (slots + N) Q (F0 m (pc + 3) ls (.ref (bN B + k) :: rest))) : W p l e R s m args below meth c H locs cells slots Q (F0 m pc ls rest) :=
  k_new (X := xmk B k st) K G hz rfl hu hl hA hc hin ty hty hcl hinst hini hE hfs hcells hslots hdg kk
theorem q_newI {N : Nat} {n : Int32} (K : gC (xmk B k st) p s m args c cc nL own) (G : gG (xmk B k st) σ s H locs) (hz : H.size = bN B + k) (hu : u = k + 1) (hl : blo B ≤ k) (hA : ∀ q, s.heap.size ≤ q → bA B q) (hkd : gkd k = 10) (hln : gln k = N) (hfr : qFr k st σ) (hn : ¬ n < 0) (hN : n.toNatClampNeg = N) (hbytes : N * 4 ≤ 536870912) (hcells : cells + 1 ≤ R.cells) (hslots : slots + N ≤ R.slots) (hdg : decode cc pc = .ok (.newarray .int, 2))
    (kk : ∀ (H1 : Heap), gG (xmk B u st) σ s H1 locs → H1.size = bN B + u → W p l e R s m args below meth c H1 locs (cells + 1) (slots + N) Q (F0 m (pc + 2) ls (.ref (bN B + k) :: rest))) : W p l e R s m args below meth c H locs cells slots Q (F0 m pc ls (.int n :: rest)) :=
  k_newI (X := xmk B k st) K G hz rfl hu hl hA hkd hln hfr hn hN hbytes hcells hslots hdg kk
theorem q_newQ {N : Nat} {n : Int32} (K : gC (xmk B k st) p s m args c cc nL own) (G : gG (xmk B k st) σ s H locs) (hz : H.size = bN B + k) (hu : u = k + 1) (hl : blo B ≤ k) (hA : ∀ q, s.heap.size ≤ q → bA B q) (hkd : gkd k = 12) (hln : gln k = N) (hfr : qFr k st σ) (hcl : Cond.classLink own idx RX0 ∈ gBig) (hn : ¬ n < 0) (hN : n.toNatClampNeg = N) (hbytes : N * 4 ≤ 536870912) (hcells : cells + 1 ≤ R.cells) (hslots : slots + N ≤ R.slots) (hdg : decode cc pc = .ok (.anewarray idx, 3))
    (kk : ∀ (H1 : Heap), gG (xmk B u st) σ s H1 locs → H1.size = bN B + u → W p l e R s m args below meth c H1 locs (cells + 1) (slots + N) Q (F0 m (pc + 3) ls (.ref (bN B + k) :: rest))) : W p l e R s m args below meth c H locs cells slots Q (F0 m pc ls (.int n :: rest)) :=
  k_newQ (X := xmk B k st) K G hz rfl hu hl hA hkd hln hfr hcl hn hN hbytes hcells hslots hdg kk
theorem q_aast {i : Int32} {j : Nat} (K : gC (xmk B u st) p s m args c cc nL own) (G : gG (xmk B u st) σ s H locs) (ht : gkd t = 12 ∧ blo B ≤ t ∧ t < u) (hv : gkd (t + (1 + 15 * j)) = 0 ∧ blo B ≤ t + (1 + 15 * j) ∧ t + (1 + 15 * j) < u) (hi : ¬ (i < 0 ∨ gln t ≤ i.toNatClampNeg)) (hij : i.toNatClampNeg = j) (hdg : decode cc pc = .ok (.aastore, 1))
    (kk : ∀ (H1 : Heap) (locs1 : List Loc), gG (xmk B u (sset st t j)) σ s H1 locs1 → H1.size = H.size → W p l e R s m args below meth c H1 locs1 cells slots Q (F0 m (pc + 1) ls rest)) : W p l e R s m args below meth c H locs cells slots Q (F0 m pc ls (.ref (bN B + (t + (1 + 15 * j))) :: .int i :: .ref (bN B + t) :: rest)) :=
  k_aast (X := xmk B u st) K G ht hv hi hij hdg kk
variable {y : MethodName} {rm : Room} {As : List Value} {bytes : ByteArray} {maxL n mc ms : Nat}
theorem q_call {a : Array Value} (hr : va_Run p l e R s m args below meth c H locs cells slots mc ms (F0 m pc ls stk) rest (kQv (xmk B u st) (xmk B u' st') σ' a) (bA B)) (G : gG (xmk B u st) σ s H locs) (kk : ∀ (H1 : Heap) (locs1 : List Loc), gG (xmk B u' st') σ' s H1 locs1 → H1.size = bN B + u' → W p l e R s m args below meth c H1 locs1 (cells + mc) (slots + ms) Q (F0 m (pc + 3) ls rest)) : W p l e R s m args below meth c H locs cells slots Q (F0 m pc ls stk) :=
  k_call (X := xmk B u st) (Y := xmk B u' st') hr G rfl kk
theorem q_runI (K : gC (xmk B u st) p s m args c cc nL own) (G : gG (xmk B u st) σ s H locs) (hz : H.size = bN B + u) (hA : ∀ q, s.heap.size ≤ q → bA B q) (hM : Met l y (Cond.code y bytes maxL none :: gBig) rm (kPc (xmk B u st) σ (.ref (bN B + t) :: As)) (kQv (xmk B u st) (xmk B u' st') σ') mc ms (bA B)) (hrc : rm.cells = mc) (hrs : rm.slots = ms) (hini : Cond.initialized y.cls ∈ gBig) (hl : Cond.methodLink own idx y ∈ gBig) (him : Cond.instanceMethod y ∈ gBig) (hco : Cond.code y bytes maxL none ∈ gBig) (hnm : y.name = "<init>")
    (hd : y.cls ≠ "java/lang/invoke/MethodHandle" ∧ y.cls ≠ "java/lang/invoke/VarHandle" ∧ (parseMethodDescriptor y.desc).map (fun d => d.parameters.length) = some n) (hR : rm.frames + 1 ≤ R.frames ∧ 8 + (maxL + 11) + rm.locals ≤ R.locals) (hn : As.length = n) (hsz : ls.size = nL) (hst : stk = As.reverse ++ .ref (bN B + t) :: rest) (hr8 : (rest.map fun v => v.category).sum ≤ 8) (hdg : decode cc pc = .ok (.invokespecial idx, 3)) (hf : cells + mc ≤ R.cells ∧ slots + ms ≤ R.slots) :
    va_Run p l e R s m args below meth c H locs cells slots mc ms (F0 m pc ls stk) rest (kQv (xmk B u st) (xmk B u' st') σ' (Value.ref (bN B + t) :: As).toArray) (bA B) :=
  k_runI (X := xmk B u st) (Y := xmk B u' st') K G hz hA hM hrc hrs hini hl him hco hnm hd hR hn hsz hst hr8 hdg hf
theorem q_runIN {host : String} (K : gC (xmk B u st) p s m args c cc nL own) (G : gG (xmk B u st) σ s H locs) (hz : H.size = bN B + u) (hA : ∀ q, s.heap.size ≤ q → bA B q) (hM : Met l y (Cond.code y bytes maxL none :: gBig) rm (kPc (xmk B u st) σ (.ref (bN B + t) :: As)) (kQv (xmk B u st) (xmk B u' st') σ') mc ms (bA B)) (hrc : rm.cells = mc) (hrs : rm.slots = ms) (hini : Cond.initialized y.cls ∈ gBig) (hl : (own, idx, y, host) ∈ gNM) (him : Cond.instanceMethod y ∈ gBig) (hco : Cond.code y bytes maxL none ∈ gBig) (hnm : y.name = "<init>")
    (hd : y.cls ≠ "java/lang/invoke/MethodHandle" ∧ y.cls ≠ "java/lang/invoke/VarHandle" ∧ (parseMethodDescriptor y.desc).map (fun d => d.parameters.length) = some n) (hR : rm.frames + 1 ≤ R.frames ∧ 8 + (maxL + 11) + rm.locals ≤ R.locals) (hn : As.length = n) (hsz : ls.size = nL) (hst : stk = As.reverse ++ .ref (bN B + t) :: rest) (hr8 : (rest.map fun v => v.category).sum ≤ 8) (hdg : decode cc pc = .ok (.invokespecial idx, 3)) (hf : cells + mc ≤ R.cells ∧ slots + ms ≤ R.slots) :
    va_Run p l e R s m args below meth c H locs cells slots mc ms (F0 m pc ls stk) rest (kQv (xmk B u st) (xmk B u' st') σ' (Value.ref (bN B + t) :: As).toArray) (bA B) :=
  k_runIN (X := xmk B u st) (Y := xmk B u' st') K G hz hA hM hrc hrs hini hl him hco hnm hd hR hn hsz hst hr8 hdg hf
end QROWS
section KP
variable {p : Program} {l : Launch} {e : Env} {R : Room} {s : State} {m : MethodId} {args : Array Value} {below : List Frame} {meth : Method} {c : Code} {H : Heap} {locs : List Loc} {cells slots : Nat} {Q : State → Prop}
variable {cc : ByteArray} {pc nL : Nat} {ls : Array Slot} {rest : List Value} {X : gX} {σ : gM} {t idx : Nat}
theorem kp0_0 (K : gC X p s m args c cc nL RX0) (G : gG X σ s H locs) (ht : gkd t = 0 ∧ xlo X ≤ t ∧ t < xhi X) (hin : meth.name = "<init>") (hl : Cond.fieldLink RX0 idx "TornPages$Desk" "scraps" "LTornPages$Scraps;" ∈ gBig) (hdg : decode cc pc = .ok (.putfield idx, 3)) (kk : ∀ (H1 : Heap) (locs1 : List Loc), gG (xset X t 0) σ s H1 locs1 → H1.size = H.size → W p l e R s m args below meth c H1 locs1 cells slots Q (F0 m (pc + 3) ls rest)) : W p l e R s m args below meth c H locs cells slots Q (F0 m pc ls (.ref (xN X + (t + 1)) :: .ref (xN X + t) :: rest)) := k_putR (C := RX0) (T := TX0) (N := 2) (j := 0) (fs := [gref X t 0 1, gref X t 1 8]) (fs' := [gref (xset X t 0) t 0 1, gref (xset X t 0) t 1 8]) (ty := .object "TornPages$Scraps") K G ht.2 (gE_0 ht.1) (gE_0 ht.1) rfl inB0 tyX0 tyX0_ok nmX0 (by decide) hl rfl hin rfl (by decide +kernel) rfl rfl (Nat.le_of_ble_eq_true rfl) (by rw [gref_set, gref_ne (i := 1) (j := 0) (by decide)]; rfl) hdg kk
theorem kp0_1 (K : gC X p s m args c cc nL RX0) (G : gG X σ s H locs) (ht : gkd t = 0 ∧ xlo X ≤ t ∧ t < xhi X) (hin : meth.name = "<init>") (hl : Cond.fieldLink RX0 idx "TornPages$Desk" "page" "LTornPages$Page;" ∈ gBig) (hdg : decode cc pc = .ok (.putfield idx, 3)) (kk : ∀ (H1 : Heap) (locs1 : List Loc), gG (xset X t 1) σ s H1 locs1 → H1.size = H.size → W p l e R s m args below meth c H1 locs1 cells slots Q (F0 m (pc + 3) ls rest)) : W p l e R s m args below meth c H locs cells slots Q (F0 m pc ls (.ref (xN X + (t + 8)) :: .ref (xN X + t) :: rest)) := k_putR (C := RX0) (T := TX0) (N := 2) (j := 1) (fs := [gref X t 0 1, gref X t 1 8]) (fs' := [gref (xset X t 1) t 0 1, gref (xset X t 1) t 1 8]) (ty := .object "TornPages$Page") K G ht.2 (gE_0 ht.1) (gE_0 ht.1) rfl inB0 tyX0 tyX0_ok nmX0 (by decide) hl rfl hin rfl (by decide +kernel) rfl rfl (Nat.le_of_ble_eq_true rfl) (by rw [gref_set, gref_ne (i := 0) (j := 1) (by decide)]; rfl) hdg kk
theorem kp1_0 (K : gC X p s m args c cc nL RX1) (G : gG X σ s H locs) (ht : gkd t = 1 ∧ xlo X ≤ t ∧ t < xhi X) (hin : meth.name = "<init>") (hl : Cond.fieldLink RX1 idx "TornPages$Draft" "profiles" "LTornPages$Row;" ∈ gBig) (hdg : decode cc pc = .ok (.putfield idx, 3)) (kk : ∀ (H1 : Heap) (locs1 : List Loc), gG (xset X t 0) σ s H1 locs1 → H1.size = H.size → W p l e R s m args below meth c H1 locs1 cells slots Q (F0 m (pc + 3) ls rest)) : W p l e R s m args below meth c H locs cells slots Q (F0 m pc ls (.ref (xN X + (t + 1)) :: .ref (xN X + t) :: rest)) := k_putR (C := RX1) (T := TX1) (N := 3) (j := 0) (fs := [gref X t 0 1, gref X t 1 3, .int (σ t 2)]) (fs' := [gref (xset X t 0) t 0 1, gref (xset X t 0) t 1 3, .int (σ t 2)]) (ty := .object "TornPages$Row") K G ht.2 (gE_1 ht.1) (gE_1 ht.1) rfl inB1 tyX1 tyX1_ok nmX1 (by decide) hl rfl hin rfl (by decide +kernel) rfl rfl (Nat.le_of_ble_eq_true rfl) (by rw [gref_set, gref_ne (i := 1) (j := 0) (by decide)]; rfl) hdg kk
theorem kp1_1 (K : gC X p s m args c cc nL RX1) (G : gG X σ s H locs) (ht : gkd t = 1 ∧ xlo X ≤ t ∧ t < xhi X) (hin : meth.name = "<init>") (hl : Cond.fieldLink RX1 idx "TornPages$Draft" "lines" "LTornPages$Row;" ∈ gBig) (hdg : decode cc pc = .ok (.putfield idx, 3)) (kk : ∀ (H1 : Heap) (locs1 : List Loc), gG (xset X t 1) σ s H1 locs1 → H1.size = H.size → W p l e R s m args below meth c H1 locs1 cells slots Q (F0 m (pc + 3) ls rest)) : W p l e R s m args below meth c H locs cells slots Q (F0 m pc ls (.ref (xN X + (t + 3)) :: .ref (xN X + t) :: rest)) := k_putR (C := RX1) (T := TX1) (N := 3) (j := 1) (fs := [gref X t 0 1, gref X t 1 3, .int (σ t 2)]) (fs' := [gref (xset X t 1) t 0 1, gref (xset X t 1) t 1 3, .int (σ t 2)]) (ty := .object "TornPages$Row") K G ht.2 (gE_1 ht.1) (gE_1 ht.1) rfl inB1 tyX1 tyX1_ok nmX1 (by decide) hl rfl hin rfl (by decide +kernel) rfl rfl (Nat.le_of_ble_eq_true rfl) (by rw [gref_set, gref_ne (i := 0) (j := 1) (by decide)]; rfl) hdg kk
theorem kp2_0 (K : gC X p s m args c cc nL RX2) (G : gG X σ s H locs) (ht : gkd t = 2 ∧ xlo X ≤ t ∧ t < xhi X) (hin : meth.name = "<init>") (hl : Cond.fieldLink RX2 idx "TornPages$Groups" "lowest" "LTornPages$Row;" ∈ gBig) (hdg : decode cc pc = .ok (.putfield idx, 3)) (kk : ∀ (H1 : Heap) (locs1 : List Loc), gG (xset X t 0) σ s H1 locs1 → H1.size = H.size → W p l e R s m args below meth c H1 locs1 cells slots Q (F0 m (pc + 3) ls rest)) : W p l e R s m args below meth c H locs cells slots Q (F0 m pc ls (.ref (xN X + (t + 1)) :: .ref (xN X + t) :: rest)) := k_putR (C := RX2) (T := TX2) (N := 2) (j := 0) (fs := [gref X t 0 1, .int (σ t 1)]) (fs' := [gref (xset X t 0) t 0 1, .int (σ t 1)]) (ty := .object "TornPages$Row") K G ht.2 (gE_2 ht.1) (gE_2 ht.1) rfl inB2 tyX2 tyX2_ok nmX2 (by decide) hl rfl hin rfl (by decide +kernel) rfl rfl (Nat.le_of_ble_eq_true rfl) (by rw [gref_set]; rfl) hdg kk
theorem kp3_0 (K : gC X p s m args c cc nL RX3) (G : gG X σ s H locs) (ht : gkd t = 3 ∧ xlo X ≤ t ∧ t < xhi X) (hin : meth.name = "<init>") (hl : Cond.fieldLink RX3 idx "TornPages$History" "states" "[LTornPages$Desk;" ∈ gBig) (hdg : decode cc pc = .ok (.putfield idx, 3)) (kk : ∀ (H1 : Heap) (locs1 : List Loc), gG (xset X t 0) σ s H1 locs1 → H1.size = H.size → W p l e R s m args below meth c H1 locs1 cells slots Q (F0 m (pc + 3) ls rest)) : W p l e R s m args below meth c H locs cells slots Q (F0 m pc ls (.ref (xN X + (t + 1)) :: .ref (xN X + t) :: rest)) := k_putR (C := RX3) (T := TX3) (N := 3) (j := 0) (fs := [gref X t 0 1, .int (σ t 1), .int (σ t 2)]) (fs' := [gref (xset X t 0) t 0 1, .int (σ t 1), .int (σ t 2)]) (ty := .array (.object "TornPages$Desk")) K G ht.2 (gE_3 ht.1) (gE_3 ht.1) rfl inB3 tyX3 tyX3_ok nmX3 (by decide) hl rfl hin rfl (by decide +kernel) rfl rfl (Nat.le_of_ble_eq_true rfl) (by rw [gref_set]; rfl) hdg kk
theorem kp4_0 (K : gC X p s m args c cc nL RX4) (G : gG X σ s H locs) (ht : gkd t = 4 ∧ xlo X ≤ t ∧ t < xhi X) (hin : meth.name = "<init>") (hl : Cond.fieldLink RX4 idx "TornPages$Page" "places" "LTornPages$Row;" ∈ gBig) (hdg : decode cc pc = .ok (.putfield idx, 3)) (kk : ∀ (H1 : Heap) (locs1 : List Loc), gG (xset X t 0) σ s H1 locs1 → H1.size = H.size → W p l e R s m args below meth c H1 locs1 cells slots Q (F0 m (pc + 3) ls rest)) : W p l e R s m args below meth c H locs cells slots Q (F0 m pc ls (.ref (xN X + (t + 1)) :: .ref (xN X + t) :: rest)) := k_putR (C := RX4) (T := TX4) (N := 5) (j := 0) (fs := [gref X t 0 1, gref X t 1 3, gref X t 2 5, .int (σ t 3), .int (σ t 4)]) (fs' := [gref (xset X t 0) t 0 1, gref (xset X t 0) t 1 3, gref (xset X t 0) t 2 5, .int (σ t 3), .int (σ t 4)]) (ty := .object "TornPages$Row") K G ht.2 (gE_4 ht.1) (gE_4 ht.1) rfl inB4 tyX4 tyX4_ok nmX4 (by decide) hl rfl hin rfl (by decide +kernel) rfl rfl (Nat.le_of_ble_eq_true rfl) (by rw [gref_set, gref_ne (i := 1) (j := 0) (by decide), gref_ne (i := 2) (j := 0) (by decide)]; rfl) hdg kk
theorem kp4_1 (K : gC X p s m args c cc nL RX4) (G : gG X σ s H locs) (ht : gkd t = 4 ∧ xlo X ≤ t ∧ t < xhi X) (hin : meth.name = "<init>") (hl : Cond.fieldLink RX4 idx "TornPages$Page" "orientations" "LTornPages$Row;" ∈ gBig) (hdg : decode cc pc = .ok (.putfield idx, 3)) (kk : ∀ (H1 : Heap) (locs1 : List Loc), gG (xset X t 1) σ s H1 locs1 → H1.size = H.size → W p l e R s m args below meth c H1 locs1 cells slots Q (F0 m (pc + 3) ls rest)) : W p l e R s m args below meth c H locs cells slots Q (F0 m pc ls (.ref (xN X + (t + 3)) :: .ref (xN X + t) :: rest)) := k_putR (C := RX4) (T := TX4) (N := 5) (j := 1) (fs := [gref X t 0 1, gref X t 1 3, gref X t 2 5, .int (σ t 3), .int (σ t 4)]) (fs' := [gref (xset X t 1) t 0 1, gref (xset X t 1) t 1 3, gref (xset X t 1) t 2 5, .int (σ t 3), .int (σ t 4)]) (ty := .object "TornPages$Row") K G ht.2 (gE_4 ht.1) (gE_4 ht.1) rfl inB4 tyX4 tyX4_ok nmX4 (by decide) hl rfl hin rfl (by decide +kernel) rfl rfl (Nat.le_of_ble_eq_true rfl) (by rw [gref_set, gref_ne (i := 0) (j := 1) (by decide), gref_ne (i := 2) (j := 1) (by decide)]; rfl) hdg kk
theorem kp4_2 (K : gC X p s m args c cc nL RX4) (G : gG X σ s H locs) (ht : gkd t = 4 ∧ xlo X ≤ t ∧ t < xhi X) (hin : meth.name = "<init>") (hl : Cond.fieldLink RX4 idx "TornPages$Page" "lying" "LTornPages$Row;" ∈ gBig) (hdg : decode cc pc = .ok (.putfield idx, 3)) (kk : ∀ (H1 : Heap) (locs1 : List Loc), gG (xset X t 2) σ s H1 locs1 → H1.size = H.size → W p l e R s m args below meth c H1 locs1 cells slots Q (F0 m (pc + 3) ls rest)) : W p l e R s m args below meth c H locs cells slots Q (F0 m pc ls (.ref (xN X + (t + 5)) :: .ref (xN X + t) :: rest)) := k_putR (C := RX4) (T := TX4) (N := 5) (j := 2) (fs := [gref X t 0 1, gref X t 1 3, gref X t 2 5, .int (σ t 3), .int (σ t 4)]) (fs' := [gref (xset X t 2) t 0 1, gref (xset X t 2) t 1 3, gref (xset X t 2) t 2 5, .int (σ t 3), .int (σ t 4)]) (ty := .object "TornPages$Row") K G ht.2 (gE_4 ht.1) (gE_4 ht.1) rfl inB4 tyX4 tyX4_ok nmX4 (by decide) hl rfl hin rfl (by decide +kernel) rfl rfl (Nat.le_of_ble_eq_true rfl) (by rw [gref_set, gref_ne (i := 0) (j := 2) (by decide), gref_ne (i := 1) (j := 2) (by decide)]; rfl) hdg kk
theorem kp5_0 (K : gC X p s m args c cc nL RX5) (G : gG X σ s H locs) (ht : gkd t = 5 ∧ xlo X ≤ t ∧ t < xhi X) (hin : meth.name = "<init>") (hl : Cond.fieldLink RX5 idx "TornPages$Row" "numbers" "[I" ∈ gBig) (hdg : decode cc pc = .ok (.putfield idx, 3)) (kk : ∀ (H1 : Heap) (locs1 : List Loc), gG (xset X t 0) σ s H1 locs1 → H1.size = H.size → W p l e R s m args below meth c H1 locs1 cells slots Q (F0 m (pc + 3) ls rest)) : W p l e R s m args below meth c H locs cells slots Q (F0 m pc ls (.ref (xN X + (t + 1)) :: .ref (xN X + t) :: rest)) := k_putR (C := RX5) (T := TX5) (N := 1) (j := 0) (fs := [gref X t 0 1]) (fs' := [gref (xset X t 0) t 0 1]) (ty := .array .int) K G ht.2 (gE_5 ht.1) (gE_5 ht.1) rfl inB5 tyX5 tyX5_ok nmX5 (by decide) hl rfl hin rfl (by decide +kernel) rfl rfl (Nat.le_of_ble_eq_true rfl) (by rw [gref_set]; rfl) hdg kk
theorem kp6_0 (K : gC X p s m args c cc nL RX6) (G : gG X σ s H locs) (ht : gkd t = 6 ∧ xlo X ≤ t ∧ t < xhi X) (hin : meth.name = "<init>") (hl : Cond.fieldLink RX6 idx "TornPages$Scraps" "kinds" "LTornPages$Row;" ∈ gBig) (hdg : decode cc pc = .ok (.putfield idx, 3)) (kk : ∀ (H1 : Heap) (locs1 : List Loc), gG (xset X t 0) σ s H1 locs1 → H1.size = H.size → W p l e R s m args below meth c H1 locs1 cells slots Q (F0 m (pc + 3) ls rest)) : W p l e R s m args below meth c H locs cells slots Q (F0 m pc ls (.ref (xN X + (t + 1)) :: .ref (xN X + t) :: rest)) := k_putR (C := RX6) (T := TX6) (N := 4) (j := 0) (fs := [gref X t 0 1, gref X t 1 3, gref X t 2 5, .int (σ t 3)]) (fs' := [gref (xset X t 0) t 0 1, gref (xset X t 0) t 1 3, gref (xset X t 0) t 2 5, .int (σ t 3)]) (ty := .object "TornPages$Row") K G ht.2 (gE_6 ht.1) (gE_6 ht.1) rfl inB6 tyX6 tyX6_ok nmX6 (by decide) hl rfl hin rfl (by decide +kernel) rfl rfl (Nat.le_of_ble_eq_true rfl) (by rw [gref_set, gref_ne (i := 1) (j := 0) (by decide), gref_ne (i := 2) (j := 0) (by decide)]; rfl) hdg kk
theorem kp6_1 (K : gC X p s m args c cc nL RX6) (G : gG X σ s H locs) (ht : gkd t = 6 ∧ xlo X ≤ t ∧ t < xhi X) (hin : meth.name = "<init>") (hl : Cond.fieldLink RX6 idx "TornPages$Scraps" "profiles" "LTornPages$Row;" ∈ gBig) (hdg : decode cc pc = .ok (.putfield idx, 3)) (kk : ∀ (H1 : Heap) (locs1 : List Loc), gG (xset X t 1) σ s H1 locs1 → H1.size = H.size → W p l e R s m args below meth c H1 locs1 cells slots Q (F0 m (pc + 3) ls rest)) : W p l e R s m args below meth c H locs cells slots Q (F0 m pc ls (.ref (xN X + (t + 3)) :: .ref (xN X + t) :: rest)) := k_putR (C := RX6) (T := TX6) (N := 4) (j := 1) (fs := [gref X t 0 1, gref X t 1 3, gref X t 2 5, .int (σ t 3)]) (fs' := [gref (xset X t 1) t 0 1, gref (xset X t 1) t 1 3, gref (xset X t 1) t 2 5, .int (σ t 3)]) (ty := .object "TornPages$Row") K G ht.2 (gE_6 ht.1) (gE_6 ht.1) rfl inB6 tyX6 tyX6_ok nmX6 (by decide) hl rfl hin rfl (by decide +kernel) rfl rfl (Nat.le_of_ble_eq_true rfl) (by rw [gref_set, gref_ne (i := 0) (j := 1) (by decide), gref_ne (i := 2) (j := 1) (by decide)]; rfl) hdg kk
theorem kp6_2 (K : gC X p s m args c cc nL RX6) (G : gG X σ s H locs) (ht : gkd t = 6 ∧ xlo X ≤ t ∧ t < xhi X) (hin : meth.name = "<init>") (hl : Cond.fieldLink RX6 idx "TornPages$Scraps" "lines" "LTornPages$Row;" ∈ gBig) (hdg : decode cc pc = .ok (.putfield idx, 3)) (kk : ∀ (H1 : Heap) (locs1 : List Loc), gG (xset X t 2) σ s H1 locs1 → H1.size = H.size → W p l e R s m args below meth c H1 locs1 cells slots Q (F0 m (pc + 3) ls rest)) : W p l e R s m args below meth c H locs cells slots Q (F0 m pc ls (.ref (xN X + (t + 5)) :: .ref (xN X + t) :: rest)) := k_putR (C := RX6) (T := TX6) (N := 4) (j := 2) (fs := [gref X t 0 1, gref X t 1 3, gref X t 2 5, .int (σ t 3)]) (fs' := [gref (xset X t 2) t 0 1, gref (xset X t 2) t 1 3, gref (xset X t 2) t 2 5, .int (σ t 3)]) (ty := .object "TornPages$Row") K G ht.2 (gE_6 ht.1) (gE_6 ht.1) rfl inB6 tyX6 tyX6_ok nmX6 (by decide) hl rfl hin rfl (by decide +kernel) rfl rfl (Nat.le_of_ble_eq_true rfl) (by rw [gref_set, gref_ne (i := 0) (j := 2) (by decide), gref_ne (i := 1) (j := 2) (by decide)]; rfl) hdg kk
theorem kp7_0 (K : gC X p s m args c cc nL RX7) (G : gG X σ s H locs) (ht : gkd t = 7 ∧ xlo X ≤ t ∧ t < xhi X) (hin : meth.name = "<init>") (hl : Cond.fieldLink RX7 idx "TornPages$Text" "signs" "LTornPages$Row;" ∈ gBig) (hdg : decode cc pc = .ok (.putfield idx, 3)) (kk : ∀ (H1 : Heap) (locs1 : List Loc), gG (xset X t 0) σ s H1 locs1 → H1.size = H.size → W p l e R s m args below meth c H1 locs1 cells slots Q (F0 m (pc + 3) ls rest)) : W p l e R s m args below meth c H locs cells slots Q (F0 m pc ls (.ref (xN X + (t + 1)) :: .ref (xN X + t) :: rest)) := k_putR (C := RX7) (T := TX7) (N := 5) (j := 0) (fs := [gref X t 0 1, gref X t 1 3, .int (σ t 2), .int (σ t 3), .int (σ t 4)]) (fs' := [gref (xset X t 0) t 0 1, gref (xset X t 0) t 1 3, .int (σ t 2), .int (σ t 3), .int (σ t 4)]) (ty := .object "TornPages$Row") K G ht.2 (gE_7 ht.1) (gE_7 ht.1) rfl inB7 tyX7 tyX7_ok nmX7 (by decide) hl rfl hin rfl (by decide +kernel) rfl rfl (Nat.le_of_ble_eq_true rfl) (by rw [gref_set, gref_ne (i := 1) (j := 0) (by decide)]; rfl) hdg kk
theorem kp7_1 (K : gC X p s m args c cc nL RX7) (G : gG X σ s H locs) (ht : gkd t = 7 ∧ xlo X ≤ t ∧ t < xhi X) (hin : meth.name = "<init>") (hl : Cond.fieldLink RX7 idx "TornPages$Text" "draft" "LTornPages$Draft;" ∈ gBig) (hdg : decode cc pc = .ok (.putfield idx, 3)) (kk : ∀ (H1 : Heap) (locs1 : List Loc), gG (xset X t 1) σ s H1 locs1 → H1.size = H.size → W p l e R s m args below meth c H1 locs1 cells slots Q (F0 m (pc + 3) ls rest)) : W p l e R s m args below meth c H locs cells slots Q (F0 m pc ls (.ref (xN X + (t + 3)) :: .ref (xN X + t) :: rest)) := k_putR (C := RX7) (T := TX7) (N := 5) (j := 1) (fs := [gref X t 0 1, gref X t 1 3, .int (σ t 2), .int (σ t 3), .int (σ t 4)]) (fs' := [gref (xset X t 1) t 0 1, gref (xset X t 1) t 1 3, .int (σ t 2), .int (σ t 3), .int (σ t 4)]) (ty := .object "TornPages$Draft") K G ht.2 (gE_7 ht.1) (gE_7 ht.1) rfl inB7 tyX7 tyX7_ok nmX7 (by decide) hl rfl hin rfl (by decide +kernel) rfl rfl (Nat.le_of_ble_eq_true rfl) (by rw [gref_set, gref_ne (i := 0) (j := 1) (by decide)]; rfl) hdg kk
theorem kp8_0 (K : gC X p s m args c cc nL RX8) (G : gG X σ s H locs) (ht : gkd t = 8 ∧ xlo X ≤ t ∧ t < xhi X) (hin : meth.name = "<init>") (hl : Cond.fieldLink RX8 idx "TornPages" "desk" "LTornPages$Desk;" ∈ gBig) (hdg : decode cc pc = .ok (.putfield idx, 3)) (kk : ∀ (H1 : Heap) (locs1 : List Loc), gG (xset X t 0) σ s H1 locs1 → H1.size = H.size → W p l e R s m args below meth c H1 locs1 cells slots Q (F0 m (pc + 3) ls rest)) : W p l e R s m args below meth c H locs cells slots Q (F0 m pc ls (.ref (xN X + (t + 1)) :: .ref (xN X + t) :: rest)) := k_putR (C := RX8) (T := TX8) (N := 6) (j := 0) (fs := [gref X t 0 1, gref X t 1 16, gref X t 2 31, gref X t 3 108, gref X t 4 111, gref X t 5 119]) (fs' := [gref (xset X t 0) t 0 1, gref (xset X t 0) t 1 16, gref (xset X t 0) t 2 31, gref (xset X t 0) t 3 108, gref (xset X t 0) t 4 111, gref (xset X t 0) t 5 119]) (ty := .object "TornPages$Desk") K G ht.2 (gE_8 ht.1) (gE_8 ht.1) rfl inB8 tyX8 tyX8_ok nmX8 (by decide) hl rfl hin rfl (by decide +kernel) rfl rfl (Nat.le_of_ble_eq_true rfl) (by rw [gref_set, gref_ne (i := 1) (j := 0) (by decide), gref_ne (i := 2) (j := 0) (by decide), gref_ne (i := 3) (j := 0) (by decide), gref_ne (i := 4) (j := 0) (by decide), gref_ne (i := 5) (j := 0) (by decide)]; rfl) hdg kk
theorem kp8_1 (K : gC X p s m args c cc nL RX8) (G : gG X σ s H locs) (ht : gkd t = 8 ∧ xlo X ≤ t ∧ t < xhi X) (hin : meth.name = "<init>") (hl : Cond.fieldLink RX8 idx "TornPages" "trial" "LTornPages$Desk;" ∈ gBig) (hdg : decode cc pc = .ok (.putfield idx, 3)) (kk : ∀ (H1 : Heap) (locs1 : List Loc), gG (xset X t 1) σ s H1 locs1 → H1.size = H.size → W p l e R s m args below meth c H1 locs1 cells slots Q (F0 m (pc + 3) ls rest)) : W p l e R s m args below meth c H locs cells slots Q (F0 m pc ls (.ref (xN X + (t + 16)) :: .ref (xN X + t) :: rest)) := k_putR (C := RX8) (T := TX8) (N := 6) (j := 1) (fs := [gref X t 0 1, gref X t 1 16, gref X t 2 31, gref X t 3 108, gref X t 4 111, gref X t 5 119]) (fs' := [gref (xset X t 1) t 0 1, gref (xset X t 1) t 1 16, gref (xset X t 1) t 2 31, gref (xset X t 1) t 3 108, gref (xset X t 1) t 4 111, gref (xset X t 1) t 5 119]) (ty := .object "TornPages$Desk") K G ht.2 (gE_8 ht.1) (gE_8 ht.1) rfl inB8 tyX8 tyX8_ok nmX8 (by decide) hl rfl hin rfl (by decide +kernel) rfl rfl (Nat.le_of_ble_eq_true rfl) (by rw [gref_set, gref_ne (i := 0) (j := 1) (by decide), gref_ne (i := 2) (j := 1) (by decide), gref_ne (i := 3) (j := 1) (by decide), gref_ne (i := 4) (j := 1) (by decide), gref_ne (i := 5) (j := 1) (by decide)]; rfl) hdg kk
theorem kp8_2 (K : gC X p s m args c cc nL RX8) (G : gG X σ s H locs) (ht : gkd t = 8 ∧ xlo X ≤ t ∧ t < xhi X) (hin : meth.name = "<init>") (hl : Cond.fieldLink RX8 idx "TornPages" "history" "LTornPages$History;" ∈ gBig) (hdg : decode cc pc = .ok (.putfield idx, 3)) (kk : ∀ (H1 : Heap) (locs1 : List Loc), gG (xset X t 2) σ s H1 locs1 → H1.size = H.size → W p l e R s m args below meth c H1 locs1 cells slots Q (F0 m (pc + 3) ls rest)) : W p l e R s m args below meth c H locs cells slots Q (F0 m pc ls (.ref (xN X + (t + 31)) :: .ref (xN X + t) :: rest)) := k_putR (C := RX8) (T := TX8) (N := 6) (j := 2) (fs := [gref X t 0 1, gref X t 1 16, gref X t 2 31, gref X t 3 108, gref X t 4 111, gref X t 5 119]) (fs' := [gref (xset X t 2) t 0 1, gref (xset X t 2) t 1 16, gref (xset X t 2) t 2 31, gref (xset X t 2) t 3 108, gref (xset X t 2) t 4 111, gref (xset X t 2) t 5 119]) (ty := .object "TornPages$History") K G ht.2 (gE_8 ht.1) (gE_8 ht.1) rfl inB8 tyX8 tyX8_ok nmX8 (by decide) hl rfl hin rfl (by decide +kernel) rfl rfl (Nat.le_of_ble_eq_true rfl) (by rw [gref_set, gref_ne (i := 0) (j := 2) (by decide), gref_ne (i := 1) (j := 2) (by decide), gref_ne (i := 3) (j := 2) (by decide), gref_ne (i := 4) (j := 2) (by decide), gref_ne (i := 5) (j := 2) (by decide)]; rfl) hdg kk
theorem kp8_3 (K : gC X p s m args c cc nL RX8) (G : gG X σ s H locs) (ht : gkd t = 8 ∧ xlo X ≤ t ∧ t < xhi X) (hin : meth.name = "<init>") (hl : Cond.fieldLink RX8 idx "TornPages" "groups" "LTornPages$Groups;" ∈ gBig) (hdg : decode cc pc = .ok (.putfield idx, 3)) (kk : ∀ (H1 : Heap) (locs1 : List Loc), gG (xset X t 3) σ s H1 locs1 → H1.size = H.size → W p l e R s m args below meth c H1 locs1 cells slots Q (F0 m (pc + 3) ls rest)) : W p l e R s m args below meth c H locs cells slots Q (F0 m pc ls (.ref (xN X + (t + 108)) :: .ref (xN X + t) :: rest)) := k_putR (C := RX8) (T := TX8) (N := 6) (j := 3) (fs := [gref X t 0 1, gref X t 1 16, gref X t 2 31, gref X t 3 108, gref X t 4 111, gref X t 5 119]) (fs' := [gref (xset X t 3) t 0 1, gref (xset X t 3) t 1 16, gref (xset X t 3) t 2 31, gref (xset X t 3) t 3 108, gref (xset X t 3) t 4 111, gref (xset X t 3) t 5 119]) (ty := .object "TornPages$Groups") K G ht.2 (gE_8 ht.1) (gE_8 ht.1) rfl inB8 tyX8 tyX8_ok nmX8 (by decide) hl rfl hin rfl (by decide +kernel) rfl rfl (Nat.le_of_ble_eq_true rfl) (by rw [gref_set, gref_ne (i := 0) (j := 3) (by decide), gref_ne (i := 1) (j := 3) (by decide), gref_ne (i := 2) (j := 3) (by decide), gref_ne (i := 4) (j := 3) (by decide), gref_ne (i := 5) (j := 3) (by decide)]; rfl) hdg kk
theorem kp8_4 (K : gC X p s m args c cc nL RX8) (G : gG X σ s H locs) (ht : gkd t = 8 ∧ xlo X ≤ t ∧ t < xhi X) (hin : meth.name = "<init>") (hl : Cond.fieldLink RX8 idx "TornPages" "text" "LTornPages$Text;" ∈ gBig) (hdg : decode cc pc = .ok (.putfield idx, 3)) (kk : ∀ (H1 : Heap) (locs1 : List Loc), gG (xset X t 4) σ s H1 locs1 → H1.size = H.size → W p l e R s m args below meth c H1 locs1 cells slots Q (F0 m (pc + 3) ls rest)) : W p l e R s m args below meth c H locs cells slots Q (F0 m pc ls (.ref (xN X + (t + 111)) :: .ref (xN X + t) :: rest)) := k_putR (C := RX8) (T := TX8) (N := 6) (j := 4) (fs := [gref X t 0 1, gref X t 1 16, gref X t 2 31, gref X t 3 108, gref X t 4 111, gref X t 5 119]) (fs' := [gref (xset X t 4) t 0 1, gref (xset X t 4) t 1 16, gref (xset X t 4) t 2 31, gref (xset X t 4) t 3 108, gref (xset X t 4) t 4 111, gref (xset X t 4) t 5 119]) (ty := .object "TornPages$Text") K G ht.2 (gE_8 ht.1) (gE_8 ht.1) rfl inB8 tyX8 tyX8_ok nmX8 (by decide) hl rfl hin rfl (by decide +kernel) rfl rfl (Nat.le_of_ble_eq_true rfl) (by rw [gref_set, gref_ne (i := 0) (j := 4) (by decide), gref_ne (i := 1) (j := 4) (by decide), gref_ne (i := 2) (j := 4) (by decide), gref_ne (i := 3) (j := 4) (by decide), gref_ne (i := 5) (j := 4) (by decide)]; rfl) hdg kk
theorem kp8_5 (K : gC X p s m args c cc nL RX8) (G : gG X σ s H locs) (ht : gkd t = 8 ∧ xlo X ≤ t ∧ t < xhi X) (hin : meth.name = "<init>") (hl : Cond.fieldLink RX8 idx "TornPages" "draft" "LTornPages$Draft;" ∈ gBig) (hdg : decode cc pc = .ok (.putfield idx, 3)) (kk : ∀ (H1 : Heap) (locs1 : List Loc), gG (xset X t 5) σ s H1 locs1 → H1.size = H.size → W p l e R s m args below meth c H1 locs1 cells slots Q (F0 m (pc + 3) ls rest)) : W p l e R s m args below meth c H locs cells slots Q (F0 m pc ls (.ref (xN X + (t + 119)) :: .ref (xN X + t) :: rest)) := k_putR (C := RX8) (T := TX8) (N := 6) (j := 5) (fs := [gref X t 0 1, gref X t 1 16, gref X t 2 31, gref X t 3 108, gref X t 4 111, gref X t 5 119]) (fs' := [gref (xset X t 5) t 0 1, gref (xset X t 5) t 1 16, gref (xset X t 5) t 2 31, gref (xset X t 5) t 3 108, gref (xset X t 5) t 4 111, gref (xset X t 5) t 5 119]) (ty := .object "TornPages$Draft") K G ht.2 (gE_8 ht.1) (gE_8 ht.1) rfl inB8 tyX8 tyX8_ok nmX8 (by decide) hl rfl hin rfl (by decide +kernel) rfl rfl (Nat.le_of_ble_eq_true rfl) (by rw [gref_set, gref_ne (i := 0) (j := 5) (by decide), gref_ne (i := 1) (j := 5) (by decide), gref_ne (i := 2) (j := 5) (by decide), gref_ne (i := 3) (j := 5) (by decide), gref_ne (i := 4) (j := 5) (by decide)]; rfl) hdg kk
theorem kq0_0 {B : gBs} {u : Nat} {st : Nat → Nat → Bool} (K : gC (xmk B u st) p s m args c cc nL RX0) (G : gG (xmk B u st) σ s H locs) (ht : gkd t = 0 ∧ blo B ≤ t ∧ t < u) (hin : meth.name = "<init>") (hl : Cond.fieldLink RX0 idx "TornPages$Desk" "scraps" "LTornPages$Scraps;" ∈ gBig) (hdg : decode cc pc = .ok (.putfield idx, 3)) (kk : ∀ (H1 : Heap) (locs1 : List Loc), gG (xmk B u (sset st t 0)) σ s H1 locs1 → H1.size = H.size → W p l e R s m args below meth c H1 locs1 cells slots Q (F0 m (pc + 3) ls rest)) : W p l e R s m args below meth c H locs cells slots Q (F0 m pc ls (.ref (bN B + (t + 1)) :: .ref (bN B + t) :: rest)) := kp0_0 (X := xmk B u st) K G ht hin hl hdg kk
theorem kq0_1 {B : gBs} {u : Nat} {st : Nat → Nat → Bool} (K : gC (xmk B u st) p s m args c cc nL RX0) (G : gG (xmk B u st) σ s H locs) (ht : gkd t = 0 ∧ blo B ≤ t ∧ t < u) (hin : meth.name = "<init>") (hl : Cond.fieldLink RX0 idx "TornPages$Desk" "page" "LTornPages$Page;" ∈ gBig) (hdg : decode cc pc = .ok (.putfield idx, 3)) (kk : ∀ (H1 : Heap) (locs1 : List Loc), gG (xmk B u (sset st t 1)) σ s H1 locs1 → H1.size = H.size → W p l e R s m args below meth c H1 locs1 cells slots Q (F0 m (pc + 3) ls rest)) : W p l e R s m args below meth c H locs cells slots Q (F0 m pc ls (.ref (bN B + (t + 8)) :: .ref (bN B + t) :: rest)) := kp0_1 (X := xmk B u st) K G ht hin hl hdg kk
theorem kq1_0 {B : gBs} {u : Nat} {st : Nat → Nat → Bool} (K : gC (xmk B u st) p s m args c cc nL RX1) (G : gG (xmk B u st) σ s H locs) (ht : gkd t = 1 ∧ blo B ≤ t ∧ t < u) (hin : meth.name = "<init>") (hl : Cond.fieldLink RX1 idx "TornPages$Draft" "profiles" "LTornPages$Row;" ∈ gBig) (hdg : decode cc pc = .ok (.putfield idx, 3)) (kk : ∀ (H1 : Heap) (locs1 : List Loc), gG (xmk B u (sset st t 0)) σ s H1 locs1 → H1.size = H.size → W p l e R s m args below meth c H1 locs1 cells slots Q (F0 m (pc + 3) ls rest)) : W p l e R s m args below meth c H locs cells slots Q (F0 m pc ls (.ref (bN B + (t + 1)) :: .ref (bN B + t) :: rest)) := kp1_0 (X := xmk B u st) K G ht hin hl hdg kk
theorem kq1_1 {B : gBs} {u : Nat} {st : Nat → Nat → Bool} (K : gC (xmk B u st) p s m args c cc nL RX1) (G : gG (xmk B u st) σ s H locs) (ht : gkd t = 1 ∧ blo B ≤ t ∧ t < u) (hin : meth.name = "<init>") (hl : Cond.fieldLink RX1 idx "TornPages$Draft" "lines" "LTornPages$Row;" ∈ gBig) (hdg : decode cc pc = .ok (.putfield idx, 3)) (kk : ∀ (H1 : Heap) (locs1 : List Loc), gG (xmk B u (sset st t 1)) σ s H1 locs1 → H1.size = H.size → W p l e R s m args below meth c H1 locs1 cells slots Q (F0 m (pc + 3) ls rest)) : W p l e R s m args below meth c H locs cells slots Q (F0 m pc ls (.ref (bN B + (t + 3)) :: .ref (bN B + t) :: rest)) := kp1_1 (X := xmk B u st) K G ht hin hl hdg kk
theorem kq2_0 {B : gBs} {u : Nat} {st : Nat → Nat → Bool} (K : gC (xmk B u st) p s m args c cc nL RX2) (G : gG (xmk B u st) σ s H locs) (ht : gkd t = 2 ∧ blo B ≤ t ∧ t < u) (hin : meth.name = "<init>") (hl : Cond.fieldLink RX2 idx "TornPages$Groups" "lowest" "LTornPages$Row;" ∈ gBig) (hdg : decode cc pc = .ok (.putfield idx, 3)) (kk : ∀ (H1 : Heap) (locs1 : List Loc), gG (xmk B u (sset st t 0)) σ s H1 locs1 → H1.size = H.size → W p l e R s m args below meth c H1 locs1 cells slots Q (F0 m (pc + 3) ls rest)) : W p l e R s m args below meth c H locs cells slots Q (F0 m pc ls (.ref (bN B + (t + 1)) :: .ref (bN B + t) :: rest)) := kp2_0 (X := xmk B u st) K G ht hin hl hdg kk
theorem kq3_0 {B : gBs} {u : Nat} {st : Nat → Nat → Bool} (K : gC (xmk B u st) p s m args c cc nL RX3) (G : gG (xmk B u st) σ s H locs) (ht : gkd t = 3 ∧ blo B ≤ t ∧ t < u) (hin : meth.name = "<init>") (hl : Cond.fieldLink RX3 idx "TornPages$History" "states" "[LTornPages$Desk;" ∈ gBig) (hdg : decode cc pc = .ok (.putfield idx, 3)) (kk : ∀ (H1 : Heap) (locs1 : List Loc), gG (xmk B u (sset st t 0)) σ s H1 locs1 → H1.size = H.size → W p l e R s m args below meth c H1 locs1 cells slots Q (F0 m (pc + 3) ls rest)) : W p l e R s m args below meth c H locs cells slots Q (F0 m pc ls (.ref (bN B + (t + 1)) :: .ref (bN B + t) :: rest)) := kp3_0 (X := xmk B u st) K G ht hin hl hdg kk
theorem kq4_0 {B : gBs} {u : Nat} {st : Nat → Nat → Bool} (K : gC (xmk B u st) p s m args c cc nL RX4) (G : gG (xmk B u st) σ s H locs) (ht : gkd t = 4 ∧ blo B ≤ t ∧ t < u) (hin : meth.name = "<init>") (hl : Cond.fieldLink RX4 idx "TornPages$Page" "places" "LTornPages$Row;" ∈ gBig) (hdg : decode cc pc = .ok (.putfield idx, 3)) (kk : ∀ (H1 : Heap) (locs1 : List Loc), gG (xmk B u (sset st t 0)) σ s H1 locs1 → H1.size = H.size → W p l e R s m args below meth c H1 locs1 cells slots Q (F0 m (pc + 3) ls rest)) : W p l e R s m args below meth c H locs cells slots Q (F0 m pc ls (.ref (bN B + (t + 1)) :: .ref (bN B + t) :: rest)) := kp4_0 (X := xmk B u st) K G ht hin hl hdg kk
theorem kq4_1 {B : gBs} {u : Nat} {st : Nat → Nat → Bool} (K : gC (xmk B u st) p s m args c cc nL RX4) (G : gG (xmk B u st) σ s H locs) (ht : gkd t = 4 ∧ blo B ≤ t ∧ t < u) (hin : meth.name = "<init>") (hl : Cond.fieldLink RX4 idx "TornPages$Page" "orientations" "LTornPages$Row;" ∈ gBig) (hdg : decode cc pc = .ok (.putfield idx, 3)) (kk : ∀ (H1 : Heap) (locs1 : List Loc), gG (xmk B u (sset st t 1)) σ s H1 locs1 → H1.size = H.size → W p l e R s m args below meth c H1 locs1 cells slots Q (F0 m (pc + 3) ls rest)) : W p l e R s m args below meth c H locs cells slots Q (F0 m pc ls (.ref (bN B + (t + 3)) :: .ref (bN B + t) :: rest)) := kp4_1 (X := xmk B u st) K G ht hin hl hdg kk
theorem kq4_2 {B : gBs} {u : Nat} {st : Nat → Nat → Bool} (K : gC (xmk B u st) p s m args c cc nL RX4) (G : gG (xmk B u st) σ s H locs) (ht : gkd t = 4 ∧ blo B ≤ t ∧ t < u) (hin : meth.name = "<init>") (hl : Cond.fieldLink RX4 idx "TornPages$Page" "lying" "LTornPages$Row;" ∈ gBig) (hdg : decode cc pc = .ok (.putfield idx, 3)) (kk : ∀ (H1 : Heap) (locs1 : List Loc), gG (xmk B u (sset st t 2)) σ s H1 locs1 → H1.size = H.size → W p l e R s m args below meth c H1 locs1 cells slots Q (F0 m (pc + 3) ls rest)) : W p l e R s m args below meth c H locs cells slots Q (F0 m pc ls (.ref (bN B + (t + 5)) :: .ref (bN B + t) :: rest)) := kp4_2 (X := xmk B u st) K G ht hin hl hdg kk
theorem kq5_0 {B : gBs} {u : Nat} {st : Nat → Nat → Bool} (K : gC (xmk B u st) p s m args c cc nL RX5) (G : gG (xmk B u st) σ s H locs) (ht : gkd t = 5 ∧ blo B ≤ t ∧ t < u) (hin : meth.name = "<init>") (hl : Cond.fieldLink RX5 idx "TornPages$Row" "numbers" "[I" ∈ gBig) (hdg : decode cc pc = .ok (.putfield idx, 3)) (kk : ∀ (H1 : Heap) (locs1 : List Loc), gG (xmk B u (sset st t 0)) σ s H1 locs1 → H1.size = H.size → W p l e R s m args below meth c H1 locs1 cells slots Q (F0 m (pc + 3) ls rest)) : W p l e R s m args below meth c H locs cells slots Q (F0 m pc ls (.ref (bN B + (t + 1)) :: .ref (bN B + t) :: rest)) := kp5_0 (X := xmk B u st) K G ht hin hl hdg kk
theorem kq6_0 {B : gBs} {u : Nat} {st : Nat → Nat → Bool} (K : gC (xmk B u st) p s m args c cc nL RX6) (G : gG (xmk B u st) σ s H locs) (ht : gkd t = 6 ∧ blo B ≤ t ∧ t < u) (hin : meth.name = "<init>") (hl : Cond.fieldLink RX6 idx "TornPages$Scraps" "kinds" "LTornPages$Row;" ∈ gBig) (hdg : decode cc pc = .ok (.putfield idx, 3)) (kk : ∀ (H1 : Heap) (locs1 : List Loc), gG (xmk B u (sset st t 0)) σ s H1 locs1 → H1.size = H.size → W p l e R s m args below meth c H1 locs1 cells slots Q (F0 m (pc + 3) ls rest)) : W p l e R s m args below meth c H locs cells slots Q (F0 m pc ls (.ref (bN B + (t + 1)) :: .ref (bN B + t) :: rest)) := kp6_0 (X := xmk B u st) K G ht hin hl hdg kk
theorem kq6_1 {B : gBs} {u : Nat} {st : Nat → Nat → Bool} (K : gC (xmk B u st) p s m args c cc nL RX6) (G : gG (xmk B u st) σ s H locs) (ht : gkd t = 6 ∧ blo B ≤ t ∧ t < u) (hin : meth.name = "<init>") (hl : Cond.fieldLink RX6 idx "TornPages$Scraps" "profiles" "LTornPages$Row;" ∈ gBig) (hdg : decode cc pc = .ok (.putfield idx, 3)) (kk : ∀ (H1 : Heap) (locs1 : List Loc), gG (xmk B u (sset st t 1)) σ s H1 locs1 → H1.size = H.size → W p l e R s m args below meth c H1 locs1 cells slots Q (F0 m (pc + 3) ls rest)) : W p l e R s m args below meth c H locs cells slots Q (F0 m pc ls (.ref (bN B + (t + 3)) :: .ref (bN B + t) :: rest)) := kp6_1 (X := xmk B u st) K G ht hin hl hdg kk
theorem kq6_2 {B : gBs} {u : Nat} {st : Nat → Nat → Bool} (K : gC (xmk B u st) p s m args c cc nL RX6) (G : gG (xmk B u st) σ s H locs) (ht : gkd t = 6 ∧ blo B ≤ t ∧ t < u) (hin : meth.name = "<init>") (hl : Cond.fieldLink RX6 idx "TornPages$Scraps" "lines" "LTornPages$Row;" ∈ gBig) (hdg : decode cc pc = .ok (.putfield idx, 3)) (kk : ∀ (H1 : Heap) (locs1 : List Loc), gG (xmk B u (sset st t 2)) σ s H1 locs1 → H1.size = H.size → W p l e R s m args below meth c H1 locs1 cells slots Q (F0 m (pc + 3) ls rest)) : W p l e R s m args below meth c H locs cells slots Q (F0 m pc ls (.ref (bN B + (t + 5)) :: .ref (bN B + t) :: rest)) := kp6_2 (X := xmk B u st) K G ht hin hl hdg kk
theorem kq7_0 {B : gBs} {u : Nat} {st : Nat → Nat → Bool} (K : gC (xmk B u st) p s m args c cc nL RX7) (G : gG (xmk B u st) σ s H locs) (ht : gkd t = 7 ∧ blo B ≤ t ∧ t < u) (hin : meth.name = "<init>") (hl : Cond.fieldLink RX7 idx "TornPages$Text" "signs" "LTornPages$Row;" ∈ gBig) (hdg : decode cc pc = .ok (.putfield idx, 3)) (kk : ∀ (H1 : Heap) (locs1 : List Loc), gG (xmk B u (sset st t 0)) σ s H1 locs1 → H1.size = H.size → W p l e R s m args below meth c H1 locs1 cells slots Q (F0 m (pc + 3) ls rest)) : W p l e R s m args below meth c H locs cells slots Q (F0 m pc ls (.ref (bN B + (t + 1)) :: .ref (bN B + t) :: rest)) := kp7_0 (X := xmk B u st) K G ht hin hl hdg kk
theorem kq7_1 {B : gBs} {u : Nat} {st : Nat → Nat → Bool} (K : gC (xmk B u st) p s m args c cc nL RX7) (G : gG (xmk B u st) σ s H locs) (ht : gkd t = 7 ∧ blo B ≤ t ∧ t < u) (hin : meth.name = "<init>") (hl : Cond.fieldLink RX7 idx "TornPages$Text" "draft" "LTornPages$Draft;" ∈ gBig) (hdg : decode cc pc = .ok (.putfield idx, 3)) (kk : ∀ (H1 : Heap) (locs1 : List Loc), gG (xmk B u (sset st t 1)) σ s H1 locs1 → H1.size = H.size → W p l e R s m args below meth c H1 locs1 cells slots Q (F0 m (pc + 3) ls rest)) : W p l e R s m args below meth c H locs cells slots Q (F0 m pc ls (.ref (bN B + (t + 3)) :: .ref (bN B + t) :: rest)) := kp7_1 (X := xmk B u st) K G ht hin hl hdg kk
theorem kq8_0 {B : gBs} {u : Nat} {st : Nat → Nat → Bool} (K : gC (xmk B u st) p s m args c cc nL RX8) (G : gG (xmk B u st) σ s H locs) (ht : gkd t = 8 ∧ blo B ≤ t ∧ t < u) (hin : meth.name = "<init>") (hl : Cond.fieldLink RX8 idx "TornPages" "desk" "LTornPages$Desk;" ∈ gBig) (hdg : decode cc pc = .ok (.putfield idx, 3)) (kk : ∀ (H1 : Heap) (locs1 : List Loc), gG (xmk B u (sset st t 0)) σ s H1 locs1 → H1.size = H.size → W p l e R s m args below meth c H1 locs1 cells slots Q (F0 m (pc + 3) ls rest)) : W p l e R s m args below meth c H locs cells slots Q (F0 m pc ls (.ref (bN B + (t + 1)) :: .ref (bN B + t) :: rest)) := kp8_0 (X := xmk B u st) K G ht hin hl hdg kk
theorem kq8_1 {B : gBs} {u : Nat} {st : Nat → Nat → Bool} (K : gC (xmk B u st) p s m args c cc nL RX8) (G : gG (xmk B u st) σ s H locs) (ht : gkd t = 8 ∧ blo B ≤ t ∧ t < u) (hin : meth.name = "<init>") (hl : Cond.fieldLink RX8 idx "TornPages" "trial" "LTornPages$Desk;" ∈ gBig) (hdg : decode cc pc = .ok (.putfield idx, 3)) (kk : ∀ (H1 : Heap) (locs1 : List Loc), gG (xmk B u (sset st t 1)) σ s H1 locs1 → H1.size = H.size → W p l e R s m args below meth c H1 locs1 cells slots Q (F0 m (pc + 3) ls rest)) : W p l e R s m args below meth c H locs cells slots Q (F0 m pc ls (.ref (bN B + (t + 16)) :: .ref (bN B + t) :: rest)) := kp8_1 (X := xmk B u st) K G ht hin hl hdg kk
theorem kq8_2 {B : gBs} {u : Nat} {st : Nat → Nat → Bool} (K : gC (xmk B u st) p s m args c cc nL RX8) (G : gG (xmk B u st) σ s H locs) (ht : gkd t = 8 ∧ blo B ≤ t ∧ t < u) (hin : meth.name = "<init>") (hl : Cond.fieldLink RX8 idx "TornPages" "history" "LTornPages$History;" ∈ gBig) (hdg : decode cc pc = .ok (.putfield idx, 3)) (kk : ∀ (H1 : Heap) (locs1 : List Loc), gG (xmk B u (sset st t 2)) σ s H1 locs1 → H1.size = H.size → W p l e R s m args below meth c H1 locs1 cells slots Q (F0 m (pc + 3) ls rest)) : W p l e R s m args below meth c H locs cells slots Q (F0 m pc ls (.ref (bN B + (t + 31)) :: .ref (bN B + t) :: rest)) := kp8_2 (X := xmk B u st) K G ht hin hl hdg kk
theorem kq8_3 {B : gBs} {u : Nat} {st : Nat → Nat → Bool} (K : gC (xmk B u st) p s m args c cc nL RX8) (G : gG (xmk B u st) σ s H locs) (ht : gkd t = 8 ∧ blo B ≤ t ∧ t < u) (hin : meth.name = "<init>") (hl : Cond.fieldLink RX8 idx "TornPages" "groups" "LTornPages$Groups;" ∈ gBig) (hdg : decode cc pc = .ok (.putfield idx, 3)) (kk : ∀ (H1 : Heap) (locs1 : List Loc), gG (xmk B u (sset st t 3)) σ s H1 locs1 → H1.size = H.size → W p l e R s m args below meth c H1 locs1 cells slots Q (F0 m (pc + 3) ls rest)) : W p l e R s m args below meth c H locs cells slots Q (F0 m pc ls (.ref (bN B + (t + 108)) :: .ref (bN B + t) :: rest)) := kp8_3 (X := xmk B u st) K G ht hin hl hdg kk
theorem kq8_4 {B : gBs} {u : Nat} {st : Nat → Nat → Bool} (K : gC (xmk B u st) p s m args c cc nL RX8) (G : gG (xmk B u st) σ s H locs) (ht : gkd t = 8 ∧ blo B ≤ t ∧ t < u) (hin : meth.name = "<init>") (hl : Cond.fieldLink RX8 idx "TornPages" "text" "LTornPages$Text;" ∈ gBig) (hdg : decode cc pc = .ok (.putfield idx, 3)) (kk : ∀ (H1 : Heap) (locs1 : List Loc), gG (xmk B u (sset st t 4)) σ s H1 locs1 → H1.size = H.size → W p l e R s m args below meth c H1 locs1 cells slots Q (F0 m (pc + 3) ls rest)) : W p l e R s m args below meth c H locs cells slots Q (F0 m pc ls (.ref (bN B + (t + 111)) :: .ref (bN B + t) :: rest)) := kp8_4 (X := xmk B u st) K G ht hin hl hdg kk
theorem kq8_5 {B : gBs} {u : Nat} {st : Nat → Nat → Bool} (K : gC (xmk B u st) p s m args c cc nL RX8) (G : gG (xmk B u st) σ s H locs) (ht : gkd t = 8 ∧ blo B ≤ t ∧ t < u) (hin : meth.name = "<init>") (hl : Cond.fieldLink RX8 idx "TornPages" "draft" "LTornPages$Draft;" ∈ gBig) (hdg : decode cc pc = .ok (.putfield idx, 3)) (kk : ∀ (H1 : Heap) (locs1 : List Loc), gG (xmk B u (sset st t 5)) σ s H1 locs1 → H1.size = H.size → W p l e R s m args below meth c H1 locs1 cells slots Q (F0 m (pc + 3) ls rest)) : W p l e R s m args below meth c H locs cells slots Q (F0 m pc ls (.ref (bN B + (t + 119)) :: .ref (bN B + t) :: rest)) := kp8_5 (X := xmk B u st) K G ht hin hl hdg kk
end KP
set_option maxHeartbeats 4000000 in
set_option maxRecDepth 100000 in
theorem nX5_init (l : Launch) (B : gBs) (st : Nat → Nat → Bool) (σ : gM) (t n : Nat) (a1 : Int32) (hg : gl5 t n) (hlo : blo B ≤ t) (F : qFr (t + 1) st σ) (h0 : ¬ a1 < 0) (h1 : a1.toNatClampNeg = n) (hn : n ≤ 1000) : Met l yX5_init (Cond.code yX5_init cX5_init 2 none :: gBig) ({ frames := 1, cells := 1, slots := n, locals := 64 }) (kPc (xmk B (t + 1) st) σ [.ref (bN B + t), .int a1]) (kQv (xmk B (t + 1) st) (xmk B (t + 2) (sdone st t (t + 2))) σ) 1 n (bA B) := by
  refine q_met (cc := cX5_init) (maxL := 2) (own := RX5) (by decide) rfl rfl rfl (Nat.le_of_ble_eq_true rfl) ?_
  intro p ev s m args below meth c Q C G Z hA hin ret ls hl
  obtain ⟨⟨hx, hb, hml, hown, hts⟩, hK⟩ := id C
  have hl : lv_has ls 2 [(0, .ref (bN B + t)), (1, .int a1)] := hl
  refine lv_aload_n hx hb dX5_init_0 rfl (lv_at hl 0 rfl) ?_
  refine k_objInit C hl.1 u_ml_RX5_3 dX5_init_1 (Nat.le_of_ble_eq_true rfl) (Nat.le_of_ble_eq_true rfl) ?_
  refine lv_aload_n hx hb dX5_init_4 rfl (lv_at hl 0 rfl) ?_
  refine lv_iload_n hx hb dX5_init_5 rfl (lv_at hl 1 rfl) ?_
  refine lv_iconst (v := 0) hx hb dX5_init_6 (by decide) ?_
  refine g_max C hl.1 u_ml_RX5_9 u_st_Lib_Math_max_name u_in_java_lang_Math u_co_Lib_Math_max_name (Nat.le_of_ble_eq_true rfl) (Nat.le_of_ble_eq_true rfl) (Nat.zero_le _) (Nat.zero_le _) dX5_init_7 ?_
  rw [if_neg h0]
  refine q_newI (k := t + 1) (u := t + 2) (N := n) C G Z rfl (by omega) hA hg.2.1 hg.2.2 F h0 h1 (by omega) (Nat.le_refl 1) (by dsimp only; omega) dX5_init_10 (fun H G Z => ?_)
  refine kq5_0 (q_C C) G ⟨hg.1, hlo, (by omega)⟩ hin u_fl_RX5_15 dX5_init_12 (fun H locs G Z2 => ?_)
  refine W.widen (k := 1) (n := n) (by omega) (by omega) ?_
  refine ret dX5_init_15 (q_fin G ?_) (Z2.trans Z)
  intro k j q2 q3
  have hj : k = t → j = 0 := by
    intro e
    rw [e, hg.1] at q3
    simpa [gneed] using q3
  have hk1 : ¬ k = t + 1 := by
    intro e
    rw [e, hg.2.1] at q3
    cases q3
  simp only [sset, sdone]
  by_cases ek : k = t
  · have ej := hj ek
    repeat' split
    all_goals first | rfl | (exfalso; omega)
  · clear hj
    repeat' split
    all_goals first | rfl | (exfalso; omega)
def fX4_init (σ : gM) (t : Nat) : Option gM := fX4_clear σ t 4 4
def fX0_init (σ : gM) (t : Nat) : Option gM := fX4_init σ (t + 8)
def fX3_init (σ : gM) (t : Nat) : Option gM := (fX0_init σ (t + 1 + (1 + 15 * 0))).bind fun σ1 => (fX0_init σ1 (t + 1 + (1 + 15 * 1))).bind fun σ2 => (fX0_init σ2 (t + 1 + (1 + 15 * 2))).bind fun σ3 => (fX0_init σ3 (t + 1 + (1 + 15 * 3))).bind fun σ4 => fX0_init σ4 (t + 1 + (1 + 15 * 4))
def fX8_init (σ : gM) (t : Nat) : Option gM := (fX0_init σ (t + 1)).bind fun σ1 => (fX0_init σ1 (t + 16)).bind fun σ2 => fX3_init σ2 (t + 31)
theorem fr_X4 {σ σ' : gM} {t : Nat} (h : fX4_init σ t = some σ') : ∀ k, (k < t ∨ t + 7 ≤ k) → σ' k = σ k := fr_clear h
theorem fr_X0 {σ σ' : gM} {t : Nat} (h : fX0_init σ t = some σ') : ∀ k, (k < t ∨ t + 15 ≤ k) → σ' k = σ k := fun k hk => fr_X4 h k (by omega)
theorem fr_X3 {σ σ' : gM} {t : Nat} (h : fX3_init σ t = some σ') : ∀ k, (k < t ∨ t + 77 ≤ k) → σ' k = σ k := by
  intro k hk
  unfold fX3_init at h
  obtain ⟨σ1, h1, h⟩ := g_bind h
  obtain ⟨σ2, h2, h⟩ := g_bind h
  obtain ⟨σ3, h3, h⟩ := g_bind h
  obtain ⟨σ4, h4, h⟩ := g_bind h
  rw [fr_X0 h k (by omega), fr_X0 h4 k (by omega), fr_X0 h3 k (by omega), fr_X0 h2 k (by omega), fr_X0 h1 k (by omega)]
set_option maxHeartbeats 4000000 in
set_option maxRecDepth 100000 in
theorem nX1_init (l : Launch) (B : gBs) (st : Nat → Nat → Bool) (σ : gM) (t : Nat) (hg : gl1 t) (hlo : blo B ≤ t) (F : qFr (t + 1) st σ) : Met l yX1_init (Cond.code yX1_init cX1_init 1 none :: gBig) ({ frames := 2, cells := 4, slots := 10, locals := 85 }) (kPc (xmk B (t + 1) st) σ [.ref (bN B + t)]) (kQv (xmk B (t + 1) st) (xmk B (t + 5) (sdone st t (t + 5))) σ) 4 10 (bA B) := by
  refine q_met (cc := cX1_init) (maxL := 1) (own := RX1) (by decide) rfl rfl rfl (Nat.le_of_ble_eq_true rfl) ?_
  intro p ev s m args below meth c Q C G Z hA hin ret ls hl
  obtain ⟨⟨hx, hb, hml, hown, hts⟩, hK⟩ := id C
  have hl : lv_has ls 1 [(0, .ref (bN B + t))] := hl
  have Z0 := Z
  refine lv_aload_n hx hb dX1_init_0 rfl (lv_at hl 0 rfl) ?_
  refine k_objInit C hl.1 u_ml_RX1_3 dX1_init_1 (Nat.le_of_ble_eq_true rfl) (Nat.le_of_ble_eq_true rfl) ?_
  refine lv_aload_n hx hb dX1_init_4 rfl (lv_at hl 0 rfl) ?_
  refine q_new (k := t + 1) (u := t + 2) (ci := 5) (C := RX5) (T := TX5) (N := 1) (fs := [.null]) (q_C C) G Z rfl (by omega) hA rfl inB5 tyX5 tyX5_ok u_cl_RX1_9 u_ins_RX5 u_in_RX5 (by rw [gE_5 hg.2.1.1]; rw [gref_nullB (F.2 (t + 1) 0 (Nat.le_refl _))]) (fun j hj => by rcases (show j = 0 by omega) with rfl <;> rfl) (Nat.le_of_ble_eq_true rfl) (Nat.le_of_ble_eq_true rfl) dX1_init_5 (fun H G Z => ?_)
  have F := q_fr_grow (u := t + 2) F (by omega)
  refine lv_dup hx hb dX1_init_8 rfl ?_
  refine lv_iconst (v := 4) hx hb dX1_init_9 (by decide) ?_
  refine q_call (q_runI (t := t + 1) (n := 1) (As := [.int 4]) (rest := [.ref (bN B + (t + 1)), .ref (bN B + t)]) (q_C C) G Z hA (nX5_init l B _ σ (t + 1) 4 4 hg.2.1 (by omega) F (by decide) (by decide) (by decide)) rfl rfl u_in_RX5 u_ml_RX1_11 u_im_yX5_init u_co_yX5_init rfl (by decide +kernel) ⟨Nat.le_of_ble_eq_true rfl, Nat.le_of_ble_eq_true rfl⟩ rfl hl.1 rfl (Nat.le_of_ble_eq_true rfl) dX1_init_10 ⟨Nat.le_of_ble_eq_true rfl, Nat.le_of_ble_eq_true rfl⟩) G (fun H locs G Z => ?_)
  have F := q_fr_done (t := t + 1) (u := t + 1 + 2) F (by omega) (fun _ _ => rfl)
  rw [show t + 1 + 2 = t + 3 from rfl] at G Z F
  refine kq1_0 (q_C C) G ⟨hg.1, hlo, (by omega)⟩ hin u_fl_RX1_14 dX1_init_13 (fun H locs G Z2 => ?_)
  have Z := Z2.trans Z
  have F := q_fr_set (k := t) (j := 0) F (by omega)
  refine lv_aload_n hx hb dX1_init_16 rfl (lv_at hl 0 rfl) ?_
  refine q_new (k := t + 3) (u := t + 4) (ci := 5) (C := RX5) (T := TX5) (N := 1) (fs := [.null]) (q_C C) G Z rfl (by omega) hA rfl inB5 tyX5 tyX5_ok u_cl_RX1_9 u_ins_RX5 u_in_RX5 (by rw [gE_5 hg.2.2.1]; rw [gref_nullB (F.2 (t + 3) 0 (Nat.le_refl _))]) (fun j hj => by rcases (show j = 0 by omega) with rfl <;> rfl) (Nat.le_of_ble_eq_true rfl) (Nat.le_of_ble_eq_true rfl) dX1_init_17 (fun H G Z => ?_)
  have F := q_fr_grow (u := t + 4) F (by omega)
  refine lv_dup hx hb dX1_init_20 rfl ?_
  refine lv_iconst (v := 4) hx hb dX1_init_21 (by decide) ?_
  refine q_call (q_runI (t := t + 3) (n := 1) (As := [.int 4]) (rest := [.ref (bN B + (t + 3)), .ref (bN B + t)]) (q_C C) G Z hA (nX5_init l B _ σ (t + 3) 4 4 hg.2.2 (by omega) F (by decide) (by decide) (by decide)) rfl rfl u_in_RX5 u_ml_RX1_11 u_im_yX5_init u_co_yX5_init rfl (by decide +kernel) ⟨Nat.le_of_ble_eq_true rfl, Nat.le_of_ble_eq_true rfl⟩ rfl hl.1 rfl (Nat.le_of_ble_eq_true rfl) dX1_init_22 ⟨Nat.le_of_ble_eq_true rfl, Nat.le_of_ble_eq_true rfl⟩) G (fun H locs G Z => ?_)
  have F := q_fr_done (t := t + 3) (u := t + 3 + 2) F (by omega) (fun _ _ => rfl)
  rw [show t + 3 + 2 = t + 5 from rfl] at G Z F
  refine kq1_1 (q_C C) G ⟨hg.1, hlo, (by omega)⟩ hin u_fl_RX1_20 dX1_init_25 (fun H locs G Z2 => ?_)
  have Z := Z2.trans Z
  have F := q_fr_set (k := t) (j := 1) F (by omega)
  refine W.widen (k := 4) (n := 10) (by omega) (by omega) ?_
  refine ret dX1_init_28 (q_fin G ?_) Z
  intro k j q2 q3
  have hj : k = t → j = 0 ∨ j = 1 := by
    intro e
    rw [e, hg.1] at q3
    simpa [gneed, or_assoc] using q3
  simp only [sset, sdone]
  by_cases ek : k = t
  · have ej := hj ek
    repeat' split
    all_goals first | rfl | (exfalso; omega)
  · clear hj
    repeat' split
    all_goals first | rfl | (exfalso; omega)
set_option maxHeartbeats 4000000 in
set_option maxRecDepth 100000 in
theorem nX6_init (l : Launch) (B : gBs) (st : Nat → Nat → Bool) (σ : gM) (t : Nat) (hg : gl6 t) (hlo : blo B ≤ t) (F : qFr (t + 1) st σ) : Met l yX6_init (Cond.code yX6_init cX6_init 1 none :: gBig) ({ frames := 2, cells := 6, slots := 783, locals := 85 }) (kPc (xmk B (t + 1) st) σ [.ref (bN B + t)]) (kQv (xmk B (t + 1) st) (xmk B (t + 7) (sdone st t (t + 7))) σ) 6 783 (bA B) := by
  refine q_met (cc := cX6_init) (maxL := 1) (own := RX6) (by decide) rfl rfl rfl (Nat.le_of_ble_eq_true rfl) ?_
  intro p ev s m args below meth c Q C G Z hA hin ret ls hl
  obtain ⟨⟨hx, hb, hml, hown, hts⟩, hK⟩ := id C
  have hl : lv_has ls 1 [(0, .ref (bN B + t))] := hl
  have Z0 := Z
  refine lv_aload_n hx hb dX6_init_0 rfl (lv_at hl 0 rfl) ?_
  refine k_objInit C hl.1 u_ml_RX6_3 dX6_init_1 (Nat.le_of_ble_eq_true rfl) (Nat.le_of_ble_eq_true rfl) ?_
  refine lv_aload_n hx hb dX6_init_4 rfl (lv_at hl 0 rfl) ?_
  refine q_new (k := t + 1) (u := t + 2) (ci := 5) (C := RX5) (T := TX5) (N := 1) (fs := [.null]) (q_C C) G Z rfl (by omega) hA rfl inB5 tyX5 tyX5_ok u_cl_RX6_9 u_ins_RX5 u_in_RX5 (by rw [gE_5 hg.2.1.1]; rw [gref_nullB (F.2 (t + 1) 0 (Nat.le_refl _))]) (fun j hj => by rcases (show j = 0 by omega) with rfl <;> rfl) (Nat.le_of_ble_eq_true rfl) (Nat.le_of_ble_eq_true rfl) dX6_init_5 (fun H G Z => ?_)
  have F := q_fr_grow (u := t + 2) F (by omega)
  refine lv_dup hx hb dX6_init_8 rfl ?_
  refine lv_bipush (v := 12) hx hb dX6_init_9 (by decide) ?_
  refine q_call (q_runI (t := t + 1) (n := 1) (As := [.int 12]) (rest := [.ref (bN B + (t + 1)), .ref (bN B + t)]) (q_C C) G Z hA (nX5_init l B _ σ (t + 1) 12 12 hg.2.1 (by omega) F (by decide) (by decide) (by decide)) rfl rfl u_in_RX5 u_ml_RX6_11 u_im_yX5_init u_co_yX5_init rfl (by decide +kernel) ⟨Nat.le_of_ble_eq_true rfl, Nat.le_of_ble_eq_true rfl⟩ rfl hl.1 rfl (Nat.le_of_ble_eq_true rfl) dX6_init_11 ⟨Nat.le_of_ble_eq_true rfl, Nat.le_of_ble_eq_true rfl⟩) G (fun H locs G Z => ?_)
  have F := q_fr_done (t := t + 1) (u := t + 1 + 2) F (by omega) (fun _ _ => rfl)
  rw [show t + 1 + 2 = t + 3 from rfl] at G Z F
  refine kq6_0 (q_C C) G ⟨hg.1, hlo, (by omega)⟩ hin u_fl_RX6_14 dX6_init_14 (fun H locs G Z2 => ?_)
  have Z := Z2.trans Z
  have F := q_fr_set (k := t) (j := 0) F (by omega)
  refine lv_aload_n hx hb dX6_init_17 rfl (lv_at hl 0 rfl) ?_
  refine q_new (k := t + 3) (u := t + 4) (ci := 5) (C := RX5) (T := TX5) (N := 1) (fs := [.null]) (q_C C) G Z rfl (by omega) hA rfl inB5 tyX5 tyX5_ok u_cl_RX6_9 u_ins_RX5 u_in_RX5 (by rw [gE_5 hg.2.2.1.1]; rw [gref_nullB (F.2 (t + 3) 0 (Nat.le_refl _))]) (fun j hj => by rcases (show j = 0 by omega) with rfl <;> rfl) (Nat.le_of_ble_eq_true rfl) (Nat.le_of_ble_eq_true rfl) dX6_init_18 (fun H G Z => ?_)
  have F := q_fr_grow (u := t + 4) F (by omega)
  refine lv_dup hx hb dX6_init_21 rfl ?_
  refine lv_sipush (v := 384) hx hb dX6_init_22 (by decide) ?_
  refine q_call (q_runI (t := t + 3) (n := 1) (As := [.int 384]) (rest := [.ref (bN B + (t + 3)), .ref (bN B + t)]) (q_C C) G Z hA (nX5_init l B _ σ (t + 3) 384 384 hg.2.2.1 (by omega) F (by decide) (by decide) (by decide)) rfl rfl u_in_RX5 u_ml_RX6_11 u_im_yX5_init u_co_yX5_init rfl (by decide +kernel) ⟨Nat.le_of_ble_eq_true rfl, Nat.le_of_ble_eq_true rfl⟩ rfl hl.1 rfl (Nat.le_of_ble_eq_true rfl) dX6_init_25 ⟨Nat.le_of_ble_eq_true rfl, Nat.le_of_ble_eq_true rfl⟩) G (fun H locs G Z => ?_)
  have F := q_fr_done (t := t + 3) (u := t + 3 + 2) F (by omega) (fun _ _ => rfl)
  rw [show t + 3 + 2 = t + 5 from rfl] at G Z F
  refine kq6_1 (q_C C) G ⟨hg.1, hlo, (by omega)⟩ hin u_fl_RX6_20 dX6_init_28 (fun H locs G Z2 => ?_)
  have Z := Z2.trans Z
  have F := q_fr_set (k := t) (j := 1) F (by omega)
  refine lv_aload_n hx hb dX6_init_31 rfl (lv_at hl 0 rfl) ?_
  refine q_new (k := t + 5) (u := t + 6) (ci := 5) (C := RX5) (T := TX5) (N := 1) (fs := [.null]) (q_C C) G Z rfl (by omega) hA rfl inB5 tyX5 tyX5_ok u_cl_RX6_9 u_ins_RX5 u_in_RX5 (by rw [gE_5 hg.2.2.2.1]; rw [gref_nullB (F.2 (t + 5) 0 (Nat.le_refl _))]) (fun j hj => by rcases (show j = 0 by omega) with rfl <;> rfl) (Nat.le_of_ble_eq_true rfl) (Nat.le_of_ble_eq_true rfl) dX6_init_32 (fun H G Z => ?_)
  have F := q_fr_grow (u := t + 6) F (by omega)
  refine lv_dup hx hb dX6_init_35 rfl ?_
  refine lv_sipush (v := 384) hx hb dX6_init_36 (by decide) ?_
  refine q_call (q_runI (t := t + 5) (n := 1) (As := [.int 384]) (rest := [.ref (bN B + (t + 5)), .ref (bN B + t)]) (q_C C) G Z hA (nX5_init l B _ σ (t + 5) 384 384 hg.2.2.2 (by omega) F (by decide) (by decide) (by decide)) rfl rfl u_in_RX5 u_ml_RX6_11 u_im_yX5_init u_co_yX5_init rfl (by decide +kernel) ⟨Nat.le_of_ble_eq_true rfl, Nat.le_of_ble_eq_true rfl⟩ rfl hl.1 rfl (Nat.le_of_ble_eq_true rfl) dX6_init_39 ⟨Nat.le_of_ble_eq_true rfl, Nat.le_of_ble_eq_true rfl⟩) G (fun H locs G Z => ?_)
  have F := q_fr_done (t := t + 5) (u := t + 5 + 2) F (by omega) (fun _ _ => rfl)
  rw [show t + 5 + 2 = t + 7 from rfl] at G Z F
  refine kq6_2 (q_C C) G ⟨hg.1, hlo, (by omega)⟩ hin u_fl_RX6_23 dX6_init_42 (fun H locs G Z2 => ?_)
  have Z := Z2.trans Z
  have F := q_fr_set (k := t) (j := 2) F (by omega)
  refine W.widen (k := 6) (n := 783) (by omega) (by omega) ?_
  refine ret dX6_init_45 (q_fin G ?_) Z
  intro k j q2 q3
  have hj : k = t → j = 0 ∨ j = 1 ∨ j = 2 := by
    intro e
    rw [e, hg.1] at q3
    simpa [gneed, or_assoc] using q3
  simp only [sset, sdone]
  by_cases ek : k = t
  · have ej := hj ek
    repeat' split
    all_goals first | rfl | (exfalso; omega)
  · clear hj
    repeat' split
    all_goals first | rfl | (exfalso; omega)
set_option maxHeartbeats 4000000 in
set_option maxRecDepth 100000 in
theorem nX2_init (l : Launch) (B : gBs) (st : Nat → Nat → Bool) (σ : gM) (t : Nat) (hg : gl2 t) (hlo : blo B ≤ t) (F : qFr (t + 1) st σ) : Met l yX2_init (Cond.code yX2_init cX2_init 1 none :: gBig) ({ frames := 2, cells := 2, slots := 13, locals := 85 }) (kPc (xmk B (t + 1) st) σ [.ref (bN B + t)]) (kQv (xmk B (t + 1) st) (xmk B (t + 3) (sdone st t (t + 3))) σ) 2 13 (bA B) := by
  refine q_met (cc := cX2_init) (maxL := 1) (own := RX2) (by decide) rfl rfl rfl (Nat.le_of_ble_eq_true rfl) ?_
  intro p ev s m args below meth c Q C G Z hA hin ret ls hl
  obtain ⟨⟨hx, hb, hml, hown, hts⟩, hK⟩ := id C
  have hl : lv_has ls 1 [(0, .ref (bN B + t))] := hl
  have Z0 := Z
  refine lv_aload_n hx hb dX2_init_0 rfl (lv_at hl 0 rfl) ?_
  refine k_objInit C hl.1 u_ml_RX2_3 dX2_init_1 (Nat.le_of_ble_eq_true rfl) (Nat.le_of_ble_eq_true rfl) ?_
  refine lv_aload_n hx hb dX2_init_4 rfl (lv_at hl 0 rfl) ?_
  refine q_new (k := t + 1) (u := t + 2) (ci := 5) (C := RX5) (T := TX5) (N := 1) (fs := [.null]) (q_C C) G Z rfl (by omega) hA rfl inB5 tyX5 tyX5_ok u_cl_RX2_9 u_ins_RX5 u_in_RX5 (by rw [gE_5 hg.2.1]; rw [gref_nullB (F.2 (t + 1) 0 (Nat.le_refl _))]) (fun j hj => by rcases (show j = 0 by omega) with rfl <;> rfl) (Nat.le_of_ble_eq_true rfl) (Nat.le_of_ble_eq_true rfl) dX2_init_5 (fun H G Z => ?_)
  have F := q_fr_grow (u := t + 2) F (by omega)
  refine lv_dup hx hb dX2_init_8 rfl ?_
  refine lv_bipush (v := 12) hx hb dX2_init_9 (by decide) ?_
  refine q_call (q_runI (t := t + 1) (n := 1) (As := [.int 12]) (rest := [.ref (bN B + (t + 1)), .ref (bN B + t)]) (q_C C) G Z hA (nX5_init l B _ σ (t + 1) 12 12 hg.2 (by omega) F (by decide) (by decide) (by decide)) rfl rfl u_in_RX5 u_ml_RX2_11 u_im_yX5_init u_co_yX5_init rfl (by decide +kernel) ⟨Nat.le_of_ble_eq_true rfl, Nat.le_of_ble_eq_true rfl⟩ rfl hl.1 rfl (Nat.le_of_ble_eq_true rfl) dX2_init_11 ⟨Nat.le_of_ble_eq_true rfl, Nat.le_of_ble_eq_true rfl⟩) G (fun H locs G Z => ?_)
  have F := q_fr_done (t := t + 1) (u := t + 1 + 2) F (by omega) (fun _ _ => rfl)
  rw [show t + 1 + 2 = t + 3 from rfl] at G Z F
  refine kq2_0 (q_C C) G ⟨hg.1, hlo, (by omega)⟩ hin u_fl_RX2_14 dX2_init_14 (fun H locs G Z2 => ?_)
  have Z := Z2.trans Z
  have F := q_fr_set (k := t) (j := 0) F (by omega)
  refine W.widen (k := 2) (n := 13) (by omega) (by omega) ?_
  refine ret dX2_init_17 (q_fin G ?_) Z
  intro k j q2 q3
  have hj : k = t → j = 0 := by
    intro e
    rw [e, hg.1] at q3
    simpa [gneed, or_assoc] using q3
  simp only [sset, sdone]
  by_cases ek : k = t
  · have ej := hj ek
    repeat' split
    all_goals first | rfl | (exfalso; omega)
  · clear hj
    repeat' split
    all_goals first | rfl | (exfalso; omega)
set_option maxHeartbeats 4000000 in
set_option maxRecDepth 100000 in
theorem nX7_init (l : Launch) (B : gBs) (st : Nat → Nat → Bool) (σ : gM) (t : Nat) (hg : gl7 t) (hlo : blo B ≤ t) (F : qFr (t + 1) st σ) : Met l yX7_init (Cond.code yX7_init cX7_init 1 none :: gBig) ({ frames := 3, cells := 7, slots := 74, locals := 105 }) (kPc (xmk B (t + 1) st) σ [.ref (bN B + t)]) (kQv (xmk B (t + 1) st) (xmk B (t + 8) (sdone st t (t + 8))) σ) 7 74 (bA B) := by
  refine q_met (cc := cX7_init) (maxL := 1) (own := RX7) (by decide) rfl rfl rfl (Nat.le_of_ble_eq_true rfl) ?_
  intro p ev s m args below meth c Q C G Z hA hin ret ls hl
  obtain ⟨⟨hx, hb, hml, hown, hts⟩, hK⟩ := id C
  have hl : lv_has ls 1 [(0, .ref (bN B + t))] := hl
  have Z0 := Z
  refine lv_aload_n hx hb dX7_init_0 rfl (lv_at hl 0 rfl) ?_
  refine k_objInit C hl.1 u_ml_RX7_3 dX7_init_1 (Nat.le_of_ble_eq_true rfl) (Nat.le_of_ble_eq_true rfl) ?_
  refine lv_aload_n hx hb dX7_init_4 rfl (lv_at hl 0 rfl) ?_
  refine q_new (k := t + 1) (u := t + 2) (ci := 5) (C := RX5) (T := TX5) (N := 1) (fs := [.null]) (q_C C) G Z rfl (by omega) hA rfl inB5 tyX5 tyX5_ok u_cl_RX7_9 u_ins_RX5 u_in_RX5 (by rw [gE_5 hg.2.1.1]; rw [gref_nullB (F.2 (t + 1) 0 (Nat.le_refl _))]) (fun j hj => by rcases (show j = 0 by omega) with rfl <;> rfl) (Nat.le_of_ble_eq_true rfl) (Nat.le_of_ble_eq_true rfl) dX7_init_5 (fun H G Z => ?_)
  have F := q_fr_grow (u := t + 2) F (by omega)
  refine lv_dup hx hb dX7_init_8 rfl ?_
  refine lv_bipush (v := 60) hx hb dX7_init_9 (by decide) ?_
  refine q_call (q_runI (t := t + 1) (n := 1) (As := [.int 60]) (rest := [.ref (bN B + (t + 1)), .ref (bN B + t)]) (q_C C) G Z hA (nX5_init l B _ σ (t + 1) 60 60 hg.2.1 (by omega) F (by decide) (by decide) (by decide)) rfl rfl u_in_RX5 u_ml_RX7_11 u_im_yX5_init u_co_yX5_init rfl (by decide +kernel) ⟨Nat.le_of_ble_eq_true rfl, Nat.le_of_ble_eq_true rfl⟩ rfl hl.1 rfl (Nat.le_of_ble_eq_true rfl) dX7_init_11 ⟨Nat.le_of_ble_eq_true rfl, Nat.le_of_ble_eq_true rfl⟩) G (fun H locs G Z => ?_)
  have F := q_fr_done (t := t + 1) (u := t + 1 + 2) F (by omega) (fun _ _ => rfl)
  rw [show t + 1 + 2 = t + 3 from rfl] at G Z F
  refine kq7_0 (q_C C) G ⟨hg.1, hlo, (by omega)⟩ hin u_fl_RX7_14 dX7_init_14 (fun H locs G Z2 => ?_)
  have Z := Z2.trans Z
  have F := q_fr_set (k := t) (j := 0) F (by omega)
  refine lv_aload_n hx hb dX7_init_17 rfl (lv_at hl 0 rfl) ?_
  refine q_new (k := t + 3) (u := t + 4) (ci := 1) (C := RX1) (T := TX1) (N := 3) (fs := [.null, .null, .int 0]) (q_C C) G Z rfl (by omega) hA rfl inB1 tyX1 tyX1_ok u_cl_RX7_20 u_ins_RX1 u_in_RX1 (by rw [gE_1 hg.2.2.1, F.1 (t + 3) (Nat.le_refl _)]; rw [gref_nullB (F.2 (t + 3) 0 (Nat.le_refl _))]; rw [gref_nullB (F.2 (t + 3) 1 (Nat.le_refl _))]) (fun j hj => by rcases (show j = 0 ∨ j = 1 ∨ j = 2 by omega) with rfl | rfl | rfl <;> rfl) (Nat.le_of_ble_eq_true rfl) (Nat.le_of_ble_eq_true rfl) dX7_init_18 (fun H G Z => ?_)
  have F := q_fr_grow (u := t + 4) F (by omega)
  refine lv_dup hx hb dX7_init_21 rfl ?_
  refine q_call (q_runIN (t := t + 3) (n := 0) (As := []) (rest := [.ref (bN B + (t + 3)), .ref (bN B + t)]) (q_C C) G Z hA (nX1_init l B _ σ (t + 3) hg.2.2 (by omega) F) rfl rfl u_in_RX1 (List.mem_of_getElem? (i := 5) rfl) u_im_yX1_init u_co_yX1_init rfl (by decide +kernel) ⟨Nat.le_of_ble_eq_true rfl, Nat.le_of_ble_eq_true rfl⟩ rfl hl.1 rfl (Nat.le_of_ble_eq_true rfl) dX7_init_22 ⟨Nat.le_of_ble_eq_true rfl, Nat.le_of_ble_eq_true rfl⟩) G (fun H locs G Z => ?_)
  have F := q_fr_done (t := t + 3) (u := t + 3 + 5) F (by omega) (fun _ _ => rfl)
  rw [show t + 3 + 5 = t + 8 from rfl] at G Z F
  refine kq7_1 (q_C C) G ⟨hg.1, hlo, (by omega)⟩ hin u_fl_RX7_23 dX7_init_25 (fun H locs G Z2 => ?_)
  have Z := Z2.trans Z
  have F := q_fr_set (k := t) (j := 1) F (by omega)
  refine W.widen (k := 7) (n := 74) (by omega) (by omega) ?_
  refine ret dX7_init_28 (q_fin G ?_) Z
  intro k j q2 q3
  have hj : k = t → j = 0 ∨ j = 1 := by
    intro e
    rw [e, hg.1] at q3
    simpa [gneed, or_assoc] using q3
  simp only [sset, sdone]
  by_cases ek : k = t
  · have ej := hj ek
    repeat' split
    all_goals first | rfl | (exfalso; omega)
  · clear hj
    repeat' split
    all_goals first | rfl | (exfalso; omega)
set_option maxHeartbeats 4000000 in
set_option maxRecDepth 100000 in
theorem nX4_init (l : Launch) (B : gBs) (st : Nat → Nat → Bool) (σ σ' : gM) (t : Nat) (hg : gl4 t) (hlo : blo B ≤ t) (F : qFr (t + 1) st σ) (h : fX4_init σ t = some σ') : Met l yX4_init (Cond.code yX4_init cX4_init 1 none :: gBig) ({ frames := 3, cells := 6, slots := 63, locals := 85 }) (kPc (xmk B (t + 1) st) σ [.ref (bN B + t)]) (kQv (xmk B (t + 1) st) (xmk B (t + 7) (sdone st t (t + 7))) σ') 6 63 (bA B) := by
  refine q_met (cc := cX4_init) (maxL := 1) (own := RX4) (by decide) rfl rfl rfl (Nat.le_of_ble_eq_true rfl) ?_
  intro p ev s m args below meth c Q C G Z hA hin ret ls hl
  obtain ⟨⟨hx, hb, hml, hown, hts⟩, hK⟩ := id C
  have hl : lv_has ls 1 [(0, .ref (bN B + t))] := hl
  have Z0 := Z
  refine lv_aload_n hx hb dX4_init_0 rfl (lv_at hl 0 rfl) ?_
  refine k_objInit C hl.1 u_ml_RX4_3 dX4_init_1 (Nat.le_of_ble_eq_true rfl) (Nat.le_of_ble_eq_true rfl) ?_
  refine lv_aload_n hx hb dX4_init_4 rfl (lv_at hl 0 rfl) ?_
  refine q_new (k := t + 1) (u := t + 2) (ci := 5) (C := RX5) (T := TX5) (N := 1) (fs := [.null]) (q_C C) G Z rfl (by omega) hA rfl inB5 tyX5 tyX5_ok u_cl_RX4_9 u_ins_RX5 u_in_RX5 (by rw [gE_5 hg.2.1.1]; rw [gref_nullB (F.2 (t + 1) 0 (Nat.le_refl _))]) (fun j hj => by rcases (show j = 0 by omega) with rfl <;> rfl) (Nat.le_of_ble_eq_true rfl) (Nat.le_of_ble_eq_true rfl) dX4_init_5 (fun H G Z => ?_)
  have F := q_fr_grow (u := t + 2) F (by omega)
  refine lv_dup hx hb dX4_init_8 rfl ?_
  refine lv_bipush (v := 12) hx hb dX4_init_9 (by decide) ?_
  refine q_call (q_runI (t := t + 1) (n := 1) (As := [.int 12]) (rest := [.ref (bN B + (t + 1)), .ref (bN B + t)]) (q_C C) G Z hA (nX5_init l B _ σ (t + 1) 12 12 hg.2.1 (by omega) F (by decide) (by decide) (by decide)) rfl rfl u_in_RX5 u_ml_RX4_11 u_im_yX5_init u_co_yX5_init rfl (by decide +kernel) ⟨Nat.le_of_ble_eq_true rfl, Nat.le_of_ble_eq_true rfl⟩ rfl hl.1 rfl (Nat.le_of_ble_eq_true rfl) dX4_init_11 ⟨Nat.le_of_ble_eq_true rfl, Nat.le_of_ble_eq_true rfl⟩) G (fun H locs G Z => ?_)
  have F := q_fr_done (t := t + 1) (u := t + 1 + 2) F (by omega) (fun _ _ => rfl)
  rw [show t + 1 + 2 = t + 3 from rfl] at G Z F
  refine kq4_0 (q_C C) G ⟨hg.1, hlo, (by omega)⟩ hin u_fl_RX4_14 dX4_init_14 (fun H locs G Z2 => ?_)
  have Z := Z2.trans Z
  have F := q_fr_set (k := t) (j := 0) F (by omega)
  refine lv_aload_n hx hb dX4_init_17 rfl (lv_at hl 0 rfl) ?_
  refine q_new (k := t + 3) (u := t + 4) (ci := 5) (C := RX5) (T := TX5) (N := 1) (fs := [.null]) (q_C C) G Z rfl (by omega) hA rfl inB5 tyX5 tyX5_ok u_cl_RX4_9 u_ins_RX5 u_in_RX5 (by rw [gE_5 hg.2.2.1.1]; rw [gref_nullB (F.2 (t + 3) 0 (Nat.le_refl _))]) (fun j hj => by rcases (show j = 0 by omega) with rfl <;> rfl) (Nat.le_of_ble_eq_true rfl) (Nat.le_of_ble_eq_true rfl) dX4_init_18 (fun H G Z => ?_)
  have F := q_fr_grow (u := t + 4) F (by omega)
  refine lv_dup hx hb dX4_init_21 rfl ?_
  refine lv_bipush (v := 12) hx hb dX4_init_22 (by decide) ?_
  refine q_call (q_runI (t := t + 3) (n := 1) (As := [.int 12]) (rest := [.ref (bN B + (t + 3)), .ref (bN B + t)]) (q_C C) G Z hA (nX5_init l B _ σ (t + 3) 12 12 hg.2.2.1 (by omega) F (by decide) (by decide) (by decide)) rfl rfl u_in_RX5 u_ml_RX4_11 u_im_yX5_init u_co_yX5_init rfl (by decide +kernel) ⟨Nat.le_of_ble_eq_true rfl, Nat.le_of_ble_eq_true rfl⟩ rfl hl.1 rfl (Nat.le_of_ble_eq_true rfl) dX4_init_24 ⟨Nat.le_of_ble_eq_true rfl, Nat.le_of_ble_eq_true rfl⟩) G (fun H locs G Z => ?_)
  have F := q_fr_done (t := t + 3) (u := t + 3 + 2) F (by omega) (fun _ _ => rfl)
  rw [show t + 3 + 2 = t + 5 from rfl] at G Z F
  refine kq4_1 (q_C C) G ⟨hg.1, hlo, (by omega)⟩ hin u_fl_RX4_20 dX4_init_27 (fun H locs G Z2 => ?_)
  have Z := Z2.trans Z
  have F := q_fr_set (k := t) (j := 1) F (by omega)
  refine lv_aload_n hx hb dX4_init_30 rfl (lv_at hl 0 rfl) ?_
  refine q_new (k := t + 5) (u := t + 6) (ci := 5) (C := RX5) (T := TX5) (N := 1) (fs := [.null]) (q_C C) G Z rfl (by omega) hA rfl inB5 tyX5 tyX5_ok u_cl_RX4_9 u_ins_RX5 u_in_RX5 (by rw [gE_5 hg.2.2.2.1]; rw [gref_nullB (F.2 (t + 5) 0 (Nat.le_refl _))]) (fun j hj => by rcases (show j = 0 by omega) with rfl <;> rfl) (Nat.le_of_ble_eq_true rfl) (Nat.le_of_ble_eq_true rfl) dX4_init_31 (fun H G Z => ?_)
  have F := q_fr_grow (u := t + 6) F (by omega)
  refine lv_dup hx hb dX4_init_34 rfl ?_
  refine lv_bipush (v := 36) hx hb dX4_init_35 (by decide) ?_
  refine q_call (q_runI (t := t + 5) (n := 1) (As := [.int 36]) (rest := [.ref (bN B + (t + 5)), .ref (bN B + t)]) (q_C C) G Z hA (nX5_init l B _ σ (t + 5) 36 36 hg.2.2.2 (by omega) F (by decide) (by decide) (by decide)) rfl rfl u_in_RX5 u_ml_RX4_11 u_im_yX5_init u_co_yX5_init rfl (by decide +kernel) ⟨Nat.le_of_ble_eq_true rfl, Nat.le_of_ble_eq_true rfl⟩ rfl hl.1 rfl (Nat.le_of_ble_eq_true rfl) dX4_init_37 ⟨Nat.le_of_ble_eq_true rfl, Nat.le_of_ble_eq_true rfl⟩) G (fun H locs G Z => ?_)
  have F := q_fr_done (t := t + 5) (u := t + 5 + 2) F (by omega) (fun _ _ => rfl)
  rw [show t + 5 + 2 = t + 7 from rfl] at G Z F
  refine kq4_2 (q_C C) G ⟨hg.1, hlo, (by omega)⟩ hin u_fl_RX4_23 dX4_init_40 (fun H locs G Z2 => ?_)
  have Z := Z2.trans Z
  have F := q_fr_set (k := t) (j := 2) F (by omega)
  refine lv_aload_n hx hb dX4_init_43 rfl (lv_at hl 0 rfl) ?_
  refine lv_iconst (v := 4) hx hb dX4_init_44 (by decide) ?_
  refine lv_iconst (v := 4) hx hb dX4_init_45 (by decide) ?_
  have G := q_fin (st' := sdone st t (t + 7)) G (by
      intro k j q2 q3
      have hj : k = t → j = 0 ∨ j = 1 ∨ j = 2 := by
        intro e
        rw [e, hg.1] at q3
        simpa [gneed, or_assoc] using q3
      simp only [sset, sdone]
      by_cases ek : k = t
      · have ej := hj ek
        repeat' split
        all_goals first | rfl | (exfalso; omega)
      · clear hj
        repeat' split
        all_goals first | rfl | (exfalso; omega))
  have ok : gok4 (xmk B (t + 7) (sdone st t (t + 7))) t := gok_4 hg hlo (Nat.le_refl _) (fun k j h1 h2 => if_pos ⟨h1, h2⟩)
  refine g_callv' (X := xmk B (t + 7) (sdone st t (t + 7))) (g_runV (X := xmk B (t + 7) (sdone st t (t + 7))) (n := 2) (As := [.int 4, .int 4]) (rest := []) (q_C C) G (mX4_clear l (xmk B (t + 7) (sdone st t (t + 7))) σ σ' t 4 4 ok h) ok.1.2 (gE_4 ok.1.1) rfl (g_goodV u_ml_RX4_26 u_im_yX4_clear u_se_yX4_clear u_in_RX4 u_co_yX4_clear) rfl rfl rfl (by decide +kernel) ⟨Nat.le_of_ble_eq_true rfl, Nat.le_of_ble_eq_true rfl⟩ rfl hl.1 rfl (Nat.le_of_ble_eq_true rfl) dX4_init_46 ⟨Nat.le_of_ble_eq_true rfl, Nat.le_of_ble_eq_true rfl⟩) G (by rw [Z, Z0]; omega) (fun H locs G Z2 => ?_)
  have Z := Z2.trans Z
  refine W.widen (k := 6) (n := 63) (by omega) (by omega) ?_
  refine ret dX4_init_49 G Z
set_option maxHeartbeats 4000000 in
set_option maxRecDepth 100000 in
theorem nX0_init (l : Launch) (B : gBs) (st : Nat → Nat → Bool) (σ σ' : gM) (t : Nat) (hg : gl0 t) (hlo : blo B ≤ t) (F : qFr (t + 1) st σ) (h : fX0_init σ t = some σ') : Met l yX0_init (Cond.code yX0_init cX0_init 1 none :: gBig) ({ frames := 4, cells := 14, slots := 855, locals := 105 }) (kPc (xmk B (t + 1) st) σ [.ref (bN B + t)]) (kQv (xmk B (t + 1) st) (xmk B (t + 15) (sdone st t (t + 15))) σ') 14 855 (bA B) := by
  refine q_met (cc := cX0_init) (maxL := 1) (own := RX0) (by decide) rfl rfl rfl (Nat.le_of_ble_eq_true rfl) ?_
  intro p ev s m args below meth c Q C G Z hA hin ret ls hl
  obtain ⟨⟨hx, hb, hml, hown, hts⟩, hK⟩ := id C
  have hl : lv_has ls 1 [(0, .ref (bN B + t))] := hl
  have Z0 := Z
  refine lv_aload_n hx hb dX0_init_0 rfl (lv_at hl 0 rfl) ?_
  refine k_objInit C hl.1 u_ml_RX0_3 dX0_init_1 (Nat.le_of_ble_eq_true rfl) (Nat.le_of_ble_eq_true rfl) ?_
  refine lv_aload_n hx hb dX0_init_4 rfl (lv_at hl 0 rfl) ?_
  refine q_new (k := t + 1) (u := t + 2) (ci := 6) (C := RX6) (T := TX6) (N := 4) (fs := [.null, .null, .null, .int 0]) (q_C C) G Z rfl (by omega) hA rfl inB6 tyX6 tyX6_ok u_cl_RX0_9 u_ins_RX6 u_in_RX6 (by rw [gE_6 hg.2.1.1, F.1 (t + 1) (Nat.le_refl _)]; rw [gref_nullB (F.2 (t + 1) 0 (Nat.le_refl _))]; rw [gref_nullB (F.2 (t + 1) 1 (Nat.le_refl _))]; rw [gref_nullB (F.2 (t + 1) 2 (Nat.le_refl _))]) (fun j hj => by rcases (show j = 0 ∨ j = 1 ∨ j = 2 ∨ j = 3 by omega) with rfl | rfl | rfl | rfl <;> rfl) (Nat.le_of_ble_eq_true rfl) (Nat.le_of_ble_eq_true rfl) dX0_init_5 (fun H G Z => ?_)
  have F := q_fr_grow (u := t + 2) F (by omega)
  refine lv_dup hx hb dX0_init_8 rfl ?_
  refine q_call (q_runIN (t := t + 1) (n := 0) (As := []) (rest := [.ref (bN B + (t + 1)), .ref (bN B + t)]) (q_C C) G Z hA (nX6_init l B _ σ (t + 1) hg.2.1 (by omega) F) rfl rfl u_in_RX6 (List.mem_of_getElem? (i := 1) rfl) u_im_yX6_init u_co_yX6_init rfl (by decide +kernel) ⟨Nat.le_of_ble_eq_true rfl, Nat.le_of_ble_eq_true rfl⟩ rfl hl.1 rfl (Nat.le_of_ble_eq_true rfl) dX0_init_9 ⟨Nat.le_of_ble_eq_true rfl, Nat.le_of_ble_eq_true rfl⟩) G (fun H locs G Z => ?_)
  have F := q_fr_done (t := t + 1) (u := t + 1 + 7) F (by omega) (fun _ _ => rfl)
  rw [show t + 1 + 7 = t + 8 from rfl] at G Z F
  refine kq0_0 (q_C C) G ⟨hg.1, hlo, (by omega)⟩ hin u_fl_RX0_12 dX0_init_12 (fun H locs G Z2 => ?_)
  have Z := Z2.trans Z
  have F := q_fr_set (k := t) (j := 0) F (by omega)
  refine lv_aload_n hx hb dX0_init_15 rfl (lv_at hl 0 rfl) ?_
  refine q_new (k := t + 8) (u := t + 9) (ci := 4) (C := RX4) (T := TX4) (N := 5) (fs := [.null, .null, .null, .int 0, .int 0]) (q_C C) G Z rfl (by omega) hA rfl inB4 tyX4 tyX4_ok u_cl_RX0_18 u_ins_RX4 u_in_RX4 (by rw [gE_4 hg.2.2.1, F.1 (t + 8) (Nat.le_refl _)]; rw [gref_nullB (F.2 (t + 8) 0 (Nat.le_refl _))]; rw [gref_nullB (F.2 (t + 8) 1 (Nat.le_refl _))]; rw [gref_nullB (F.2 (t + 8) 2 (Nat.le_refl _))]) (fun j hj => by rcases (show j = 0 ∨ j = 1 ∨ j = 2 ∨ j = 3 ∨ j = 4 by omega) with rfl | rfl | rfl | rfl | rfl <;> rfl) (Nat.le_of_ble_eq_true rfl) (Nat.le_of_ble_eq_true rfl) dX0_init_16 (fun H G Z => ?_)
  have F := q_fr_grow (u := t + 9) F (by omega)
  refine lv_dup hx hb dX0_init_19 rfl ?_
  have e_σ' := h
  refine q_call (q_runI (t := t + 8) (n := 0) (As := []) (rest := [.ref (bN B + (t + 8)), .ref (bN B + t)]) (q_C C) G Z hA (nX4_init l B _ σ σ' (t + 8) hg.2.2 (by omega) F e_σ') rfl rfl u_in_RX4 u_ml_RX0_20 u_im_yX4_init u_co_yX4_init rfl (by decide +kernel) ⟨Nat.le_of_ble_eq_true rfl, Nat.le_of_ble_eq_true rfl⟩ rfl hl.1 rfl (Nat.le_of_ble_eq_true rfl) dX0_init_20 ⟨Nat.le_of_ble_eq_true rfl, Nat.le_of_ble_eq_true rfl⟩) G (fun H locs G Z => ?_)
  have F := q_fr_done (t := t + 8) (u := t + 8 + 7) F (by omega) (fun k hk => fr_X4 e_σ' k (by omega))
  rw [show t + 8 + 7 = t + 15 from rfl] at G Z F
  refine kq0_1 (q_C C) G ⟨hg.1, hlo, (by omega)⟩ hin u_fl_RX0_21 dX0_init_23 (fun H locs G Z2 => ?_)
  have Z := Z2.trans Z
  have F := q_fr_set (k := t) (j := 1) F (by omega)
  refine W.widen (k := 14) (n := 855) (by omega) (by omega) ?_
  refine ret dX0_init_26 (q_fin G ?_) Z
  intro k j q2 q3
  have hj : k = t → j = 0 ∨ j = 1 := by
    intro e
    rw [e, hg.1] at q3
    simpa [gneed, or_assoc] using q3
  simp only [sset, sdone]
  by_cases ek : k = t
  · have ej := hj ek
    repeat' split
    all_goals first | rfl | (exfalso; omega)
  · clear hj
    repeat' split
    all_goals first | rfl | (exfalso; omega)
