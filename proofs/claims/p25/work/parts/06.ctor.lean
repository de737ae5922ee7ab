/-! MAKING OBJECTS: the pool grows, references are set -/
def xgrow (X : gX) (u : Nat) : gX := (X.1, X.2.1, X.2.2.1, (X.2.2.2.1.1, X.2.2.2.1.2.1, u), X.2.2.2.2)
def xset (X : gX) (k j : Nat) : gX := (X.1, X.2.1, X.2.2.1, X.2.2.2.1, (fun a b => if a = k ∧ b = j then true else X.2.2.2.2.1 a b), X.2.2.2.2.2)
def xdone (X : gX) (t u : Nat) : gX := (X.1, X.2.1, X.2.2.1, (X.2.2.2.1.1, X.2.2.2.1.2.1, u), (fun a b => if t ≤ a ∧ a < u then true else X.2.2.2.2.1 a b), X.2.2.2.2.2)
/-- what isn't made yet is empty -/
def gFr (X : gX) (σ : gM) : Prop := (∀ k, xhi X ≤ k → σ k = fun _ => 0) ∧ ∀ k j, xhi X ≤ k → xst X k j = false
theorem gws_setX {X Y : gX} {σ σ' : gM} {t : Nat} {e : va_E} (h1 : xlo X ≤ t) (h2 : t < xhi X) (eN : xN Y = xN X) (el : xlo Y = xlo X) (eh : xhi Y = xhi X) (ew : xw Y = xw X) (h : ∀ k, gE Y σ' k = if k = t then e else gE X σ k) : (gws X σ).set ((xw X).length + (t - xlo X)) (xN X + t, e) = gws Y σ' := by
  unfold gws
  rw [List.set_append_right _ _ (Nat.le_add_right _ _), Nat.add_sub_cancel_left, eN, el, eh, ew]
  congr 1
  apply List.ext_getElem?
  intro i
  rw [List.getElem?_set, List.getElem?_map, List.getElem?_map, List.length_map, List.length_range]
  by_cases hi : i < xhi X - xlo X
  · rw [List.getElem?_range hi]
    show _ = some (xN X + (xlo X + i), gE Y σ' (xlo X + i))
    rw [h]
    by_cases ht : t - xlo X = i
    · rw [if_pos ht, if_pos (by omega), if_pos (by omega)]
      rw [show xlo X + i = t by omega]
    · rw [if_neg ht, if_neg (by omega)]
      rfl
  · rw [List.getElem?_eq_none (by rw [List.length_range]; omega)]
    rw [if_neg (by omega)]
    rfl
theorem gws_grow {X : gX} {σ : gM} {k u : Nat} (hk : xhi X = k) (hu : u = k + 1) (hl : xlo X ≤ k) : gws (xgrow X u) σ = gws X σ ++ [(xN X + k, gE X σ k)] := by
  subst hu
  subst hk
  show xw X ++ (List.range (xhi X + 1 - xlo X)).map (fun i => (xN X + (xlo X + i), gE X σ (xlo X + i))) = (xw X ++ (List.range (xhi X - xlo X)).map (fun i => (xN X + (xlo X + i), gE X σ (xlo X + i)))) ++ [(xN X + xhi X, gE X σ (xhi X))]
  rw [show xhi X + 1 - xlo X = (xhi X - xlo X) + 1 by omega, List.range_succ, List.map_append, List.append_assoc]
  rw [show xhi X - xlo X = xhi X - xlo X from rfl]
  congr 2
  show [(xN X + (xlo X + (xhi X - xlo X)), gE X σ (xlo X + (xhi X - xlo X)))] = _
  rw [show xlo X + (xhi X - xlo X) = xhi X by omega]
theorem gE_13 {X : gX} {σ : gM} {k : Nat} (h : 12 < gkd k) : gE X σ k = .inl (xI X, 0, .inl (σ k)) := by
  unfold gE
  split <;> first | rfl | (exfalso; omega)
/-- which fields of a kind are references -/
def gneed (c j : Nat) : Bool := match c with
  | 0 => j == 0 || j == 1
  | 1 => j == 0 || j == 1
  | 2 => j == 0
  | 3 => j == 0
  | 4 => j == 0 || j == 1 || j == 2
  | 5 => j == 0
  | 6 => j == 0 || j == 1 || j == 2
  | 7 => j == 0 || j == 1
  | 8 => j == 0 || j == 1 || j == 2 || j == 3 || j == 4 || j == 5
  | 12 => true
  | _ => false
theorem gE_eqX {X Y : gX} {σ : gM} {k : Nat} (e1 : xI Y = xI X) (e2 : xC Y = xC X) (e3 : xQ Y = xQ X) (e4 : xN Y = xN X) (h : ∀ j, gneed (gkd k) j = true → xst Y k j = xst X k j) : gE Y σ k = gE X σ k := by
  have hr : ∀ j d, gneed (gkd k) j = true → gref Y k j d = gref X k j d := by
    intro j d hj
    unfold gref
    rw [h j hj, e4]
  have hlt : gkd k = 0 ∨ gkd k = 1 ∨ gkd k = 2 ∨ gkd k = 3 ∨ gkd k = 4 ∨ gkd k = 5 ∨ gkd k = 6 ∨ gkd k = 7 ∨ gkd k = 8 ∨ gkd k = 9 ∨ gkd k = 10 ∨ gkd k = 11 ∨ gkd k = 12 ∨ 12 < gkd k := by omega
  rcases hlt with h0 | h0 | h0 | h0 | h0 | h0 | h0 | h0 | h0 | h0 | h0 | h0 | h0 | h0
  · rw [gE_0 (X := Y) h0, gE_0 (X := X) h0, hr 0 1 (by rw [h0]; rfl), hr 1 8 (by rw [h0]; rfl)]
  · rw [gE_1 (X := Y) h0, gE_1 (X := X) h0, hr 0 1 (by rw [h0]; rfl), hr 1 3 (by rw [h0]; rfl)]
  · rw [gE_2 (X := Y) h0, gE_2 (X := X) h0, hr 0 1 (by rw [h0]; rfl)]
  · rw [gE_3 (X := Y) h0, gE_3 (X := X) h0, hr 0 1 (by rw [h0]; rfl)]
  · rw [gE_4 (X := Y) h0, gE_4 (X := X) h0, hr 0 1 (by rw [h0]; rfl), hr 1 3 (by rw [h0]; rfl), hr 2 5 (by rw [h0]; rfl)]
  · rw [gE_5 (X := Y) h0, gE_5 (X := X) h0, hr 0 1 (by rw [h0]; rfl)]
  · rw [gE_6 (X := Y) h0, gE_6 (X := X) h0, hr 0 1 (by rw [h0]; rfl), hr 1 3 (by rw [h0]; rfl), hr 2 5 (by rw [h0]; rfl)]
  · rw [gE_7 (X := Y) h0, gE_7 (X := X) h0, hr 0 1 (by rw [h0]; rfl), hr 1 3 (by rw [h0]; rfl)]
  · rw [gE_8 (X := Y) h0, gE_8 (X := X) h0, hr 0 1 (by rw [h0]; rfl), hr 1 16 (by rw [h0]; rfl), hr 2 31 (by rw [h0]; rfl), hr 3 108 (by rw [h0]; rfl), hr 4 111 (by rw [h0]; rfl), hr 5 119 (by rw [h0]; rfl)]
  · rw [gE_9 (X := Y) h0, gE_9 (X := X) h0, e1]
  · rw [gE_10 (X := Y) h0, gE_10 (X := X) h0, e1]
  · rw [gE_11 (X := Y) h0, gE_11 (X := X) h0, e2]
  · rw [gE_12 (X := Y) h0, gE_12 (X := X) h0, e3, e4]
    have e9 : (fun j => if xst Y k j = true then some (xN X + (k + (1 + 15 * j))) else none) = fun j => if xst X k j = true then some (xN X + (k + (1 + 15 * j))) else none := by
      funext j
      rw [h j (by rw [h0]; rfl)]
    rw [e9]
  · rw [gE_13 (X := Y) h0, gE_13 (X := X) h0, e1]
theorem gws_eqX {X Y : gX} {σ : gM} (e1 : xI Y = xI X) (e2 : xC Y = xC X) (e3 : xQ Y = xQ X) (e4 : xN Y = xN X) (el : xlo Y = xlo X) (eh : xhi Y = xhi X) (ew : xw Y = xw X) (h : ∀ k j, xlo X ≤ k → k < xhi X → gneed (gkd k) j = true → xst Y k j = xst X k j) : gws Y σ = gws X σ := by
  unfold gws
  rw [el, eh, ew, e4]
  congr 1
  apply List.map_congr_left
  intro i hi
  have hi := List.mem_range.mp hi
  rw [gE_eqX e1 e2 e3 e4 (fun j hj => h _ j (by omega) (by omega) hj)]
abbrev kPc (X : gX) (σ : gM) (av : List Value) : Array Value → State → Prop := va_Pc av (fun U => gB X σ U ∧ U.heap.size = xN X + xhi X ∧ ∀ q, U.heap.size ≤ q → xA X q)
abbrev kQv (X Y : gX) (σ : gM) : Array Value → State → Outcome → State → Prop := va_Qv (fun (_ : Unit) => True) (fun _ t => gB Y σ t ∧ t.heap.size = xN Y + xhi Y) (xA X)
theorem k_blind {X : gX} {σ : gM} {av : List Value} : FrameBlind (kPc X σ av) := fun a U g mk q => ⟨q.1, ⟨q.2.1.1, va_K.moved (u := U) (U := U.calling g mk a) (Vm.Alike.refl U.vm) q.2.1.2.1, q.2.1.2.2.1, gN.blind q.2.1.2.2.2⟩, q.2.2⟩
theorem k_met {l : Launch} {y : MethodName} {ws : List Cond} {fr mc ms lo : Nat} {cc : ByteArray} {maxL : Nat} {own : String} {av : List Value} {X Y : gX} {σ σ' : gM} (hy : plainName y.cls = true) (hw : ws = Cond.code y cc maxL none :: gBig) (hcl : y.cls = own) (hnm : y.name = "<init>") (hav : (lg_sl av).length ≤ maxL)
    (body : ∀ {p : Program} {e : Env} {s : State} {m : MethodId} {args : Array Value} {below : List Frame} {meth : Method} {c : Code} {Q : State → Prop}, gC X p s m args c cc maxL own → gG X σ s s.heap [] → s.heap.size = xN X + xhi X → (∀ q, s.heap.size ≤ q → xA X q) → meth.name = "<init>" →
      (∀ {pc : Nat} {H : Heap} {locs : List Loc} {ls : Array Slot}, decode cc pc = .ok (.return_, 1) → gG Y σ' s H locs → H.size = xN Y + xhi Y → xA Y = xA X → W p l e ({ frames := fr, cells := mc, slots := ms, locals := lo }) s m args below meth c H locs mc ms Q (F0 m pc ls [])) →
      ∀ ls : Array Slot, lv_has ls maxL (lv_args 0 av) → W p l e ({ frames := fr, cells := mc, slots := ms, locals := lo }) s m args below meth c s.heap [] 0 0 Q (F0 m 0 ls []))
    (eD : xD Y = xD X) (eT : xty Y = xty X) :
    Met l y ws ({ frames := fr, cells := mc, slots := ms, locals := lo }) (kPc X σ av) (kQv X Y σ') mc ms (xA X) := by
  refine Met.ofW (cc := cc) (maxL := maxL) (ret := none) hy hw ?_
  intro p e s m args below meth c s₁ B hml hv
  obtain ⟨rfl, ⟨hP, hK, hD, hN⟩, hz, hA⟩ := hv
  have hown : s.vm.findClass own = some m.cls := by rw [← hcl]; exact findClass_of_methodNamed B.named
  have hin : meth.name = "<init>" := (name_of_methodNamed B.named B.method).1.trans hnm
  have hlocks := B.notSynchronized
  rw [lg_entry_eq]
  refine body ⟨⟨B.exec, B.bytes, hml, hown, fun w h => atoms_spec (ws := ws) B.pre w (by rw [hw]; exact List.mem_cons_of_mem _ h)⟩, hK, hN⟩ ⟨hP, hD, va_S.rf⟩ hz hA hin ?_ _ (lv_entry av hav)
  intro pc H locs ls hdg hG hz2 eA
  have hS : va_S (xA X) s.heap H locs := by rw [← eA]; exact hG.2.2
  exact W.vret B.exec B.bytes B.returns (fun t ht hW => ⟨⟨(), rfl, trivial, ⟨by rw [ht]; exact hG.1, by rw [eD, eT]; exact va_K.moved hW.alike hK, hG.2.1, hN.warm hW⟩, by rw [ht]; exact hz2⟩, hS.F ht⟩) hS.2.2 hdg
section KROWS
variable {p : Program} {l : Launch} {e : Env} {R : Room} {s : State} {m : MethodId} {args : Array Value} {below : List Frame} {meth : Method} {c : Code} {H : Heap} {locs : List Loc} {cells slots : Nat} {Q : State → Prop}
variable {cc : ByteArray} {pc nL : Nat} {ls : Array Slot} {rest st : List Value} {own : String} {X X0 : gX} {σ σ' : gM} {t idx k u : Nat}
theorem k_new {C : String} {T : u_T} {N ci : Nat} {fs : List Value} (K : gC X p s m args c cc nL own) (G : gG X σ s H locs) (hz : H.size = xN X + k) (hk : xhi X = k) (hu : u = k + 1) (hl : xlo X ≤ k) (hA : ∀ q, s.heap.size ≤ q → xA X q) (hc : vwCl[ci]? = some (C, T, N)) (hin : ∀ w ∈ u_ws C T N, w ∈ gBig) (ty : Nat → FieldType) (hty : ∀ k, k < N → parseFieldDescriptor (T k).2.2.1 = some (ty k)) (hcl : Cond.classLink own idx C ∈ gBig) (hinst : Cond.instantiable C N ∈ gBig) (hini : Cond.initialized C ∈ gBig) (hE : gE X σ k = .inr (ci, fs)) (hfs : ∀ j, j < N → defaultValue (ty j) = vp_V fs j) (hcells : cells + 1 ≤ R.cells) (hslots : slots + N ≤ R.slots) (hdg : decode cc pc = .ok (.new idx, 3))
    (kk : ∀ (H1 : Heap), gG (xgrow X u) σ s H1 locs → H1.size = xN X + u → W p l e R s m args below meth c H1 locs (cells + 1) (slots + N) Q (F0 m (pc + 3) ls (.ref (xN X + k) :: rest))) : W p l e R s m args below meth c H locs cells slots Q (F0 m pc ls rest) := by
  obtain ⟨hP, hD, hS⟩ := G
  have hts := K.1.2.2.2.2
  have hKn := K.2.1.1 ci _ hc
  refine W.newcK K.1.1 K.1.2.1 K.1.2.2.2.1 (hts _ hcl) (hts _ hinst) (hts _ hini) rfl hdg hcells hslots hKn.2.1 rfl fun H1 kC hkC e1 z1 o1 => ?_
  have hk1 : ∀ (j : Nat) (x : Nat × va_E), (gws X σ)[j]? = some x → H1[x.1]? = H[x.1]? := fun j x hx => o1 x.1 ((hP j x hx).lt)
  have hP1 : va_P (xD X) vwCl (gws X σ ++ [(H.size, .inr (ci, fs))]) H1 := (hP.kept hk1).app (fun j x hx => by
    have hz : j < 1 := (List.getElem?_eq_some_iff.mp hx).1
    rw [show j = 0 by omega] at hx
    cases hx
    exact ⟨_, hc, (u_born ty hts hin hKn hkC e1 hty).to hfs⟩)
  have hD1 : va_D (xA X) (gws X σ ++ [(H.size, .inr (ci, fs))]) := hD.push hP rfl (hA _ hS.1)
  have eg : gws X σ ++ [(H.size, .inr (ci, fs))] = gws (xgrow X u) σ := by rw [gws_grow hk hu hl, hE, hz]
  rw [eg] at hP1 hD1
  have W2 := kk H1 ⟨hP1, hD1, Nat.le_trans hS.1 (by omega), fun x h1 h2 => (o1 x (Nat.lt_of_lt_of_le h1 hS.1)).trans (hS.2.1 x h1 h2), hS.2.2⟩ (by omega)
  rw [← hz] at W2
  exact W2
theorem k_newaK {ty : FieldType} {cA : ClassId} {N : Nat} {n : Int32} {at_ : ArrayType} (K : gC X p s m args c cc nL own) (G : gG X σ s H locs) (hz : H.size = xN X + k) (hk : xhi X = k) (hu : u = k + 1) (hl : xlo X ≤ k) (hA : ∀ q, s.heap.size ≤ q → xA X q) (hat : newarray.typeOf at_ = ty) (hac : Cond.arrayClass ty ∈ gBig) (hcA : s.vm.findClass ("[" ++ ty.toString) = some cA) (hdf : defaultValue ty = .int 0) (hE : gE X σ k = .inl (cA, N, .inl (fun _ => 0))) (hn : ¬ n < 0) (hN : n.toNatClampNeg = N) (hbytes : N * componentBytes ty ≤ 536870912) (hcells : cells + 1 ≤ R.cells) (hslots : slots + N ≤ R.slots) (hdg : decode cc pc = .ok (.newarray at_, 2))
    (kk : ∀ (H1 : Heap), gG (xgrow X u) σ s H1 locs → H1.size = xN X + u → W p l e R s m args below meth c H1 locs (cells + 1) (slots + N) Q (F0 m (pc + 2) ls (.ref (xN X + k) :: rest))) : W p l e R s m args below meth c H locs cells slots Q (F0 m pc ls (.int n :: rest)) := by
  subst hat
  obtain ⟨hP, hD, hS⟩ := G
  have hts := K.1.2.2.2.2
  refine va_newaK K.1.1 K.1.2.1 (hts _ hac) rfl hdg rfl hn hN hbytes hcells hslots rfl fun H1 cB e1 z1 o1 hAr hNm => ?_
  have hcB : cB = cA := Option.some.inj (hNm.symm.trans hcA)
  subst hcB
  have hk1 : ∀ (j : Nat) (x : Nat × va_E), (gws X σ)[j]? = some x → H1[x.1]? = H[x.1]? := fun j x hx => o1 x.1 ((hP j x hx).lt)
  have hP1 : va_P (xD X) vwCl (gws X σ ++ [(H.size, .inl (cB, N, .inl (fun _ => 0)))]) H1 := (hP.kept hk1).app (fun j x hx => by
    have hz : j < 1 := (List.getElem?_eq_some_iff.mp hx).1
    rw [show j = 0 by omega] at hx
    cases hx
    show H1[H.size]? = some (vp_cell _ _)
    rw [vp_cell_i, e1, hdf])
  have hD1 : va_D (xA X) (gws X σ ++ [(H.size, .inl (cB, N, .inl (fun _ => 0)))]) := hD.push hP rfl (hA _ hS.1)
  have eg : gws X σ ++ [(H.size, .inl (cB, N, .inl (fun _ => 0)))] = gws (xgrow X u) σ := by rw [gws_grow hk hu hl, hE, hz]
  rw [eg] at hP1 hD1
  have W2 := kk H1 ⟨hP1, hD1, Nat.le_trans hS.1 (by omega), fun x h1 h2 => (o1 x (Nat.lt_of_lt_of_le h1 hS.1)).trans (hS.2.1 x h1 h2), hS.2.2⟩ (by omega)
  rw [← hz] at W2
  exact W2
theorem k_newI {N : Nat} {n : Int32} (K : gC X p s m args c cc nL own) (G : gG X σ s H locs) (hz : H.size = xN X + k) (hk : xhi X = k) (hu : u = k + 1) (hl : xlo X ≤ k) (hA : ∀ q, s.heap.size ≤ q → xA X q) (hkd : gkd k = 10) (hln : gln k = N) (hfr : gFr X σ) (hn : ¬ n < 0) (hN : n.toNatClampNeg = N) (hbytes : N * 4 ≤ 536870912) (hcells : cells + 1 ≤ R.cells) (hslots : slots + N ≤ R.slots) (hdg : decode cc pc = .ok (.newarray .int, 2))
    (kk : ∀ (H1 : Heap), gG (xgrow X u) σ s H1 locs → H1.size = xN X + u → W p l e R s m args below meth c H1 locs (cells + 1) (slots + N) Q (F0 m (pc + 2) ls (.ref (xN X + k) :: rest))) : W p l e R s m args below meth c H locs cells slots Q (F0 m pc ls (.int n :: rest)) :=
  k_newaK (ty := .int) K G hz hk hu hl hA rfl u_ac_int (K.2.1.2 0 _ rfl).2 rfl (by rw [gE_10 hkd, hln, hfr.1 k (by omega)]) hn hN hbytes hcells hslots hdg kk
theorem k_newQ {N : Nat} {n : Int32} (K : gC X p s m args c cc nL own) (G : gG X σ s H locs) (hz : H.size = xN X + k) (hk : xhi X = k) (hu : u = k + 1) (hl : xlo X ≤ k) (hA : ∀ q, s.heap.size ≤ q → xA X q) (hkd : gkd k = 12) (hln : gln k = N) (hfr : gFr X σ) (hcl : Cond.classLink own idx RX0 ∈ gBig) (hn : ¬ n < 0) (hN : n.toNatClampNeg = N) (hbytes : N * 4 ≤ 536870912) (hcells : cells + 1 ≤ R.cells) (hslots : slots + N ≤ R.slots) (hdg : decode cc pc = .ok (.anewarray idx, 3))
    (kk : ∀ (H1 : Heap), gG (xgrow X u) σ s H1 locs → H1.size = xN X + u → W p l e R s m args below meth c H1 locs (cells + 1) (slots + N) Q (F0 m (pc + 3) ls (.ref (xN X + k) :: rest))) : W p l e R s m args below meth c H locs cells slots Q (F0 m pc ls (.int n :: rest)) := by
  subst hN
  obtain ⟨hP, hD, hS⟩ := G
  have hts := K.1.2.2.2.2
  refine W.anew K.1.1 K.1.2.1 K.1.2.2.2.1 (hts _ hcl) (va_AO.use K.2.2.2.2) rfl hdg rfl hn hbytes hcells hslots fun cB kA comp f1 f2 f3 f4 => ?_
  generalize hH1 : H.push ({ cls := cB, slots := Array.replicate n.toNatClampNeg .null, vm := .none } : Cell) = H1
  have z1 : H1.size = H.size + 1 := by rw [← hH1, Array.size_push]
  have e1 : H1[H.size]? = some (arrV cB n.toNatClampNeg (fun _ => .null)) := by rw [← hH1, Array.getElem?_push_size, ← arrV_new]
  have o1 : ∀ q : Nat, q < H.size → H1[q]? = H[q]? := fun q hq => by rw [← hH1, Array.getElem?_push, if_neg (Nat.ne_of_lt hq)]
  obtain ⟨kA2, comp2, g1, g2, g3, g4⟩ := (K.2.1.2 2 _ rfl).2
  have hcB : cB = xQ X := Option.some.inj (f1.symm.trans g4)
  subst hcB
  have hE : gE X σ k = .inl (xQ X, n.toNatClampNeg, .inr (.inr (.inr (.inr (fun _ => none))))) := by
    rw [gE_12 hkd, hln]
    have e9 : (fun j => if xst X k j = true then some (xN X + (k + (1 + 15 * j))) else none) = fun _ => none := by
      funext j
      rw [hfr.2 k j (by omega)]
      rfl
    rw [e9]
  have hk1 : ∀ (j : Nat) (x : Nat × va_E), (gws X σ)[j]? = some x → H1[x.1]? = H[x.1]? := fun j x hx => o1 x.1 ((hP j x hx).lt)
  have hP1 : va_P (xD X) vwCl (gws X σ ++ [(H.size, .inl (xQ X, n.toNatClampNeg, .inr (.inr (.inr (.inr (fun _ => none))))))]) H1 := (hP.kept hk1).app (fun j x hx => by
    have hz : j < 1 := (List.getElem?_eq_some_iff.mp hx).1
    rw [show j = 0 by omega] at hx
    cases hx
    show H1[H.size]? = some (vp_cell _ _)
    rw [vp_cell_q]
    exact e1)
  have hD1 : va_D (xA X) (gws X σ ++ [(H.size, .inl (xQ X, n.toNatClampNeg, .inr (.inr (.inr (.inr (fun _ => none))))))]) := hD.push hP rfl (hA _ hS.1)
  have eg : gws X σ ++ [(H.size, .inl (xQ X, n.toNatClampNeg, .inr (.inr (.inr (.inr (fun _ => none))))))] = gws (xgrow X u) σ := by rw [gws_grow hk hu hl, hE, hz]
  rw [eg] at hP1 hD1
  have W2 := kk H1 ⟨hP1, hD1, Nat.le_trans hS.1 (by omega), fun x h1 h2 => (o1 x (Nat.lt_of_lt_of_le h1 hS.1)).trans (hS.2.1 x h1 h2), hS.2.2⟩ (by omega)
  rw [← hz] at W2
  exact W2
theorem k_putR {C : String} {T : u_T} {N ci j d : Nat} {fs fs' : List Value} {ty : FieldType} (K : gC X p s m args c cc nL own) (G : gG X σ s H locs) (ht : xlo X ≤ t ∧ t < xhi X) (hE : gE X σ t = .inr (ci, fs)) (hE' : gE (xset X t j) σ t = .inr (ci, fs')) (hc : vwCl[ci]? = some (C, T, N)) (hin : ∀ w ∈ u_ws C T N, w ∈ gBig) (ty0 : Nat → FieldType) (hty : ∀ k, k < N → parseFieldDescriptor (T k).2.2.1 = some (ty0 k)) (hnm : ∀ a, a < N → ∀ b, b < N → a ≠ b → (T a).2.1 ≠ (T b).2.1) (hj : j < N) (hl : Cond.fieldLink own idx (T j).1 (T j).2.1 (T j).2.2.1 ∈ gBig) (hfin : (T j).2.2.2 = true) (hin2 : meth.name = "<init>") (hdecl : (T j).1 = own) (hd : parseFieldDescriptor (T j).2.2.1 = some ty) (hn : narrow ty (.ref (xN X + d)) = .ref (xN X + d)) (hfit : fits ty (.ref (xN X + d)) = true) (hlen : j < fs.length) (hs : fs.set j (.ref (xN X + d)) = fs') (hdg : decode cc pc = .ok (.putfield idx, 3))
    (kk : ∀ (H1 : Heap) (locs1 : List Loc), gG (xset X t j) σ s H1 locs1 → H1.size = H.size → W p l e R s m args below meth c H1 locs1 cells slots Q (F0 m (pc + 3) ls rest)) : W p l e R s m args below meth c H locs cells slots Q (F0 m pc ls (.ref (xN X + d) :: .ref (xN X + t) :: rest)) := by
  have hg : ∀ k, gE (xset X t j) σ k = if k = t then .inr (ci, fs') else gE X σ k := by
    intro k
    by_cases hkt : k = t
    · rw [if_pos hkt, hkt, hE']
    · rw [if_neg hkt]
      refine gE_eqX (X := X) (Y := xset X t j) rfl rfl rfl rfl (fun i _ => ?_)
      show (if k = t ∧ i = j then true else xst X k i) = xst X k i
      rw [if_neg (fun h => hkt h.1)]
  obtain ⟨hP, hD, hS⟩ := G
  have hts := K.1.2.2.2.2
  have hap := va_apart (own := own) hts hin ty0 hty hnm K.2.1 hc
  have he := (gws_at ht.1 ht.2).trans (congrArg (fun q => some (xN X + t, q)) hE)
  obtain ⟨r, h1, cell, q1, q2, q3, q4⟩ := hP _ _ he
  have hr : r = (C, T, N) := Option.some.inj (h1.symm.trans hc)
  subst hr
  obtain ⟨hSl, hfc, kC, hkC, hkind⟩ := K.2.1.1 ci _ hc
  obtain ⟨cf, kf, fi, f, hi, hsl⟩ := hSl j hj
  have hlay := hts _ (hin _ (u_in_lay hj))
  unfold u_lay at hlay
  rw [if_pos hfin] at hlay
  have hst := (u_facts hfc hkC (u_lays hts hin hj) hi).1
  have hcf : m.cls = cf := by
    obtain ⟨_, _, c', _, _, _, -, -, hf', -, -, -, hown2, -⟩ := Cond.laysFinal_spec hlay
    have e1 : c' = cf := by have := hi.symm.trans hf'; simp at this; exact this.1.symm
    rw [hdecl] at hown2
    rw [← e1]; exact Option.some.inj (K.1.2.2.2.1.symm.trans hown2)
  have h6 := u_fits hfc hkC hkind (Or.inr hlay) hi hd hn hfit
  refine W.putFinK K.1.1 K.1.2.1 K.1.2.2.2.1 (hts _ hl) hi hst hcf hin2 (by rw [q2]; exact h6) q1 q3 (by rw [hsl]; exact k2_hasslot (q4 j hj)) rfl rfl hdg fun H' e1 e2 e3 => ?_
  rw [hsl] at e1 ⊢
  have hat : va_at (xD X) vwCl (xN X + t, .inr (ci, fs.set j (.ref (xN X + d)))) H' := ⟨_, hc, t_OB.to (V := updV (vp_V fs) j (.ref (xN X + d))) ⟨_, e1, q2, q3, t_set q4 hap hj (.ref (xN X + d))⟩ (fun i _ => vp_updV_set hlen (.ref (xN X + d)) i)⟩
  have hP1 := hP.set hD he hat e3
  have hD1 : va_D (xA X) ((gws X σ).set ((xw X).length + (t - xlo X)) (xN X + t, .inr (ci, fs.set j (.ref (xN X + d))))) := hD.set he
  rw [hs, gws_setX (Y := xset X t j) (σ' := σ) ht.1 ht.2 rfl rfl rfl rfl hg] at hP1 hD1
  exact kk H' _ ⟨hP1, hD1, hS.put e2 e3 (hD.2 _ _ he)⟩ e2
theorem k_objInit (K : gC X p s m args c cc nL own) (hsz : ls.size = nL) {a : Addr} (hl : Cond.methodLink own idx objectInit ∈ gBig) (hdg : decode cc pc = .ok (.invokespecial idx, 3)) (hframes : 1 ≤ R.frames) (hlocals : (rest.map fun v => v.category).sum + 12 ≤ R.locals)
    (kk : W p l e R s m args below meth c H locs cells slots Q (F0 m (pc + 3) ls rest)) : W p l e R s m args below meth c H locs cells slots Q (F0 m pc ls (.ref a :: rest)) :=
  W.objInit K.1.1 K.1.2.1 K.1.2.2.2.1 (K.1.2.2.2.2 _ hl) (K.1.2.2.2.2 _ u_im_objectInit) (K.1.2.2.2.2 _ u_co_objectInit) (g := F0 m pc ls (.ref a :: rest)) rfl (by rw [K.1.2.2.1]; exact hsz) rfl hdg hframes (by show 2 * 0 + _ + 12 ≤ _; omega) kk
variable {y : MethodName} {rm : Room} {As : List Value} {bytes : ByteArray} {maxL n mc ms : Nat} {Y : gX}
theorem k_call {a : Array Value} (hr : va_Run p l e R s m args below meth c H locs cells slots mc ms (F0 m pc ls st) rest (kQv X Y σ' a) (xA X)) (G : gG X σ s H locs) (eA : xA Y = xA X) (kk : ∀ (H1 : Heap) (locs1 : List Loc), gG Y σ' s H1 locs1 → H1.size = xN Y + xhi Y → W p l e R s m args below meth c H1 locs1 (cells + mc) (slots + ms) Q (F0 m (pc + 3) ls rest)) : W p l e R s m args below meth c H locs cells slots Q (F0 m pc ls st) :=
  va_callv hr G.2.2 (fun _ _ h => h) (fun _ h => h) (fun u t H1 locs1 ht hvm hp hB hz hk hS => by
    subst ht
    exact kk _ _ ⟨hB.1.1, hB.1.2.2.1, by rw [eA]; exact hS⟩ hB.2)
theorem k_pre (K : gC X p s m args c cc nL own) (G : gG X σ s H locs) (hz : H.size = xN X + xhi X) (hA : ∀ q, s.heap.size ≤ q → xA X q) : PreS s H (kPc X σ As) As :=
  ⟨k_blind, fun U hU hW => ⟨rfl, ⟨by rw [hU]; exact G.1, va_K.moved hW.alike K.2.1, G.2.1, K.2.2.warm hW⟩, by rw [hU]; exact hz, fun q h => hA q (Nat.le_trans G.2.2.1 (by rw [hU] at h; exact h))⟩⟩
theorem k_runI (K : gC X p s m args c cc nL own) (G : gG X σ s H locs) (hz : H.size = xN X + xhi X) (hA : ∀ q, s.heap.size ≤ q → xA X q) (hM : Met l y (Cond.code y bytes maxL none :: gBig) rm (kPc X σ (.ref (xN X + t) :: As)) (kQv X Y σ') mc ms (xA X)) (hrc : rm.cells = mc) (hrs : rm.slots = ms) (hini : Cond.initialized y.cls ∈ gBig) (hl : Cond.methodLink own idx y ∈ gBig) (him : Cond.instanceMethod y ∈ gBig) (hco : Cond.code y bytes maxL none ∈ gBig) (hnm : y.name = "<init>")
    (hd : y.cls ≠ "java/lang/invoke/MethodHandle" ∧ y.cls ≠ "java/lang/invoke/VarHandle" ∧ (parseMethodDescriptor y.desc).map (fun d => d.parameters.length) = some n) (hR : rm.frames + 1 ≤ R.frames ∧ 8 + (maxL + 11) + rm.locals ≤ R.locals) (hn : As.length = n) (hsz : ls.size = nL) (hst : st = As.reverse ++ .ref (xN X + t) :: rest) (hr8 : (rest.map fun v => v.category).sum ≤ 8) (hdg : decode cc pc = .ok (.invokespecial idx, 3)) (hf : cells + mc ≤ R.cells ∧ slots + ms ≤ R.slots) :
    va_Run p l e R s m args below meth c H locs cells slots mc ms (F0 m pc ls st) rest (kQv X Y σ' (Value.ref (xN X + t) :: As).toArray) (xA X) := by
  have hts := K.1.2.2.2.2
  exact va_runI (As := As) (rest := rest) K.1 hM (cwI n hts (goodIn_big (List.forall_mem_cons.mpr ⟨hco, fun _ h => h⟩)) rfl hrc hrs (hts _ hini) (hts _ hl) (hts _ him) hnm hd hR) (k_pre K G hz hA) rfl hn hsz hst (lv_room hr8) hdg hf
theorem k_runIN {host : String} (K : gC X p s m args c cc nL own) (G : gG X σ s H locs) (hz : H.size = xN X + xhi X) (hA : ∀ q, s.heap.size ≤ q → xA X q) (hM : Met l y (Cond.code y bytes maxL none :: gBig) rm (kPc X σ (.ref (xN X + t) :: As)) (kQv X Y σ') mc ms (xA X)) (hrc : rm.cells = mc) (hrs : rm.slots = ms) (hini : Cond.initialized y.cls ∈ gBig) (hl : (own, idx, y, host) ∈ gNM) (him : Cond.instanceMethod y ∈ gBig) (hco : Cond.code y bytes maxL none ∈ gBig) (hnm : y.name = "<init>")
    (hd : y.cls ≠ "java/lang/invoke/MethodHandle" ∧ y.cls ≠ "java/lang/invoke/VarHandle" ∧ (parseMethodDescriptor y.desc).map (fun d => d.parameters.length) = some n) (hR : rm.frames + 1 ≤ R.frames ∧ 8 + (maxL + 11) + rm.locals ≤ R.locals) (hn : As.length = n) (hsz : ls.size = nL) (hst : st = As.reverse ++ .ref (xN X + t) :: rest) (hr8 : (rest.map fun v => v.category).sum ≤ 8) (hdg : decode cc pc = .ok (.invokespecial idx, 3)) (hf : cells + mc ≤ R.cells ∧ slots + ms ≤ R.slots) :
    va_Run p l e R s m args below meth c H locs cells slots mc ms (F0 m pc ls st) rest (kQv X Y σ' (Value.ref (xN X + t) :: As).toArray) (xA X) := by
  have hts := K.1.2.2.2.2
  exact va_runIN (As := As) (rest := rest) K.1 hM ⟨va_cnB n hts (goodIn_big (List.forall_mem_cons.mpr ⟨hco, fun _ h => h⟩)) rfl hrc hrs (K.2.2.2.1 _ hl) (hts _ hini) hd hR, hnm, hts _ him⟩ (k_pre K G hz hA) rfl hn hsz hst (lv_room hr8) hdg hf
/-- an array of references takes a desk -/
theorem k_aast {i : Int32} {j : Nat} (K : gC X p s m args c cc nL own) (G : gG X σ s H locs) (ht : gkd t = 12 ∧ xlo X ≤ t ∧ t < xhi X) (hv : gkd (t + (1 + 15 * j)) = 0 ∧ xlo X ≤ t + (1 + 15 * j) ∧ t + (1 + 15 * j) < xhi X) (hi : ¬ (i < 0 ∨ gln t ≤ i.toNatClampNeg)) (hij : i.toNatClampNeg = j) (hdg : decode cc pc = .ok (.aastore, 1))
    (kk : ∀ (H1 : Heap) (locs1 : List Loc), gG (xset X t j) σ s H1 locs1 → H1.size = H.size → W p l e R s m args below meth c H1 locs1 cells slots Q (F0 m (pc + 1) ls rest)) : W p l e R s m args below meth c H locs cells slots Q (F0 m pc ls (.ref (xN X + (t + (1 + 15 * j))) :: .int i :: .ref (xN X + t) :: rest)) := by
  have hg : ∀ k, gE (xset X t j) σ k = if k = t then .inl (xQ X, gln t, .inr (.inr (.inr (.inr (va_up (fun j => if xst X t j = true then some (xN X + (t + (1 + 15 * j))) else none) i.toNatClampNeg (some (xN X + (t + (1 + 15 * j)))))))))  else gE X σ k := by
    intro k
    by_cases hkt : k = t
    · subst hkt
      rw [if_pos rfl, gE_12 ht.1]
      have e9 : (fun j_1 => if xst (xset X k j) k j_1 = true then some (xN (xset X k j) + (k + (1 + 15 * j_1))) else none) = va_up (fun j => if xst X k j = true then some (xN X + (k + (1 + 15 * j))) else none) i.toNatClampNeg (some (xN X + (k + (1 + 15 * j)))) := by
        funext q
        show (if (if k = k ∧ q = j then true else xst X k q) = true then some (xN X + (k + (1 + 15 * q))) else none) = if q = i.toNatClampNeg then _ else _
        rw [hij]
        by_cases hq : q = j
        · subst hq
          simp
        · rw [if_neg (show ¬ (k = k ∧ q = j) from fun h => hq h.2), if_neg hq]
      rw [e9]
      rfl
    · rw [if_neg hkt]
      refine gE_eqX (X := X) (Y := xset X t j) rfl rfl rfl rfl (fun i _ => ?_)
      show (if k = t ∧ i = j then true else xst X k i) = xst X k i
      rw [if_neg (fun h => hkt h.1)]
  obtain ⟨hP, hD, hS⟩ := G
  have ha := (gws_at (σ := σ) ht.2.1 ht.2.2).trans (congrArg (fun q => some (xN X + t, q)) (gE_12 ht.1))
  have hvv := (gws_at (σ := σ) hv.2.1 hv.2.2).trans (congrArg (fun q => some (xN X + (t + (1 + 15 * j)), q)) (gE_0 hv.1))
  have hlt : i.toNatClampNeg < gln t := g_lt hi
  have h0 : ¬ i < 0 := fun q => hi (Or.inl q)
  have hK := K.2.1
  obtain ⟨r', hr', cellV, g1, g2, g3, -⟩ := hP _ _ hvv
  have hcls := (hK.1 0 _ rfl).2
  obtain ⟨kA, comp, k1, k2, k3, -⟩ := (hK.2 2 _ rfl).2
  have hcomp : comp = (xD X).1 0 := Option.some.inj (k3.symm.trans hcls.1)
  subst hcomp
  obtain ⟨kC, hkC, -⟩ := hcls.2
  refine W.aast K.1.1 K.1.2.1 (hP _ _ ha) (fun q h => by cases h) (fun h => by cases h) k1 k2 rfl hkC ⟨h0, by show _ < (arrV _ _ _).slots.size; rw [arrV_size]; exact hlt⟩ g1 (fun q h => by rw [g3] at h; cases h) (by rw [g2]; exact hkC) (by rw [g2]; exact va_assign hcls) rfl rfl hdg fun H1 e z oq => ?_
  have hat : va_at (xD X) vwCl (xN X + t, .inl (xQ X, gln t, .inr (.inr (.inr (.inr (va_up (fun j => if xst X t j = true then some (xN X + (t + (1 + 15 * j))) else none) i.toNatClampNeg (some (xN X + (t + (1 + 15 * j)))))))))) H1 := by
    show H1[xN X + t]? = some (vp_cell _ _)
    rw [e]
    rw [vp_cell_q, vp_cell_q, arrV_store]
    congr 2
    funext q
    by_cases hq : q = i.toNatClampNeg
    · subst hq
      simp [updV, va_up, va_rf]
    · simp [updV, va_up, hq]
  have hP1 := hP.set hD ha hat oq
  have hD1 : va_D (xA X) ((gws X σ).set ((xw X).length + (t - xlo X)) (xN X + t, .inl (xQ X, gln t, .inr (.inr (.inr (.inr (va_up (fun j => if xst X t j = true then some (xN X + (t + (1 + 15 * j))) else none) i.toNatClampNeg (some (xN X + (t + (1 + 15 * j))))))))))) := hD.set ha
  rw [gws_setX (Y := xset X t j) (σ' := σ) ht.2.1 ht.2.2 rfl rfl rfl rfl hg] at hP1 hD1
  exact kk H1 _ ⟨hP1, hD1, hS.put z oq (hD.2 _ _ ha)⟩ z
end KROWS
def gl5 (t n : Nat) : Prop := gkd t = 5 ∧ gkd (t + 1) = 10 ∧ gln (t + 1) = n
def gl1 (t : Nat) : Prop := gkd t = 1 ∧ (gl5 (t + 1) 4 ∧ gl5 (t + 3) 4)
def gl2 (t : Nat) : Prop := gkd t = 2 ∧ (gl5 (t + 1) 12)
def gl4 (t : Nat) : Prop := gkd t = 4 ∧ (gl5 (t + 1) 12 ∧ gl5 (t + 3) 12 ∧ gl5 (t + 5) 36)
def gl6 (t : Nat) : Prop := gkd t = 6 ∧ (gl5 (t + 1) 12 ∧ gl5 (t + 3) 384 ∧ gl5 (t + 5) 384)
def gl0 (t : Nat) : Prop := gkd t = 0 ∧ (gl6 (t + 1) ∧ gl4 (t + 8))
def gl3 (t : Nat) : Prop := gkd t = 3 ∧ ((gkd (t + 1) = 12 ∧ gln (t + 1) = 5) ∧ (∀ j, j < 5 → gl0 ((t + 1) + (1 + 15 * j))))
def gl7 (t : Nat) : Prop := gkd t = 7 ∧ (gl5 (t + 1) 60 ∧ gl1 (t + 3))
def gl8 (t : Nat) : Prop := gkd t = 8 ∧ (gl0 (t + 1) ∧ gl0 (t + 16) ∧ gl3 (t + 31) ∧ gl2 (t + 108) ∧ gl7 (t + 111) ∧ gl1 (t + 119))
theorem gok_5 {X : gX} {t n : Nat} (h : gl5 t n) (h1 : xlo X ≤ t) (h2 : t + 2 ≤ xhi X) (hs : ∀ k j, t ≤ k → k < t + 2 → xst X k j = true) : gok5 X t := ⟨⟨h.1, h1, by omega⟩, hs t 0 (by omega) (by omega), h.2.1, by omega, by omega⟩
theorem gok_1 {X : gX} {t : Nat} (h : gl1 t) (h1 : xlo X ≤ t) (h2 : t + 5 ≤ xhi X) (hs : ∀ k j, t ≤ k → k < t + 5 → xst X k j = true) : gok1 X t := ⟨⟨h.1, h1, by omega⟩, ⟨hs t 0 (by omega) (by omega), hs t 1 (by omega) (by omega)⟩, ⟨gok_5 h.2.1 (by omega) (by omega) (fun a b h3 h4 => hs a b (by omega) (by omega)), gok_5 h.2.2 (by omega) (by omega) (fun a b h3 h4 => hs a b (by omega) (by omega))⟩⟩
theorem gok_2 {X : gX} {t : Nat} (h : gl2 t) (h1 : xlo X ≤ t) (h2 : t + 3 ≤ xhi X) (hs : ∀ k j, t ≤ k → k < t + 3 → xst X k j = true) : gok2 X t := ⟨⟨h.1, h1, by omega⟩, hs t 0 (by omega) (by omega), gok_5 h.2 (by omega) (by omega) (fun a b h3 h4 => hs a b (by omega) (by omega))⟩
theorem gok_4 {X : gX} {t : Nat} (h : gl4 t) (h1 : xlo X ≤ t) (h2 : t + 7 ≤ xhi X) (hs : ∀ k j, t ≤ k → k < t + 7 → xst X k j = true) : gok4 X t := ⟨⟨h.1, h1, by omega⟩, ⟨hs t 0 (by omega) (by omega), hs t 1 (by omega) (by omega), hs t 2 (by omega) (by omega)⟩, ⟨gok_5 h.2.1 (by omega) (by omega) (fun a b h3 h4 => hs a b (by omega) (by omega)), gok_5 h.2.2.1 (by omega) (by omega) (fun a b h3 h4 => hs a b (by omega) (by omega)), gok_5 h.2.2.2 (by omega) (by omega) (fun a b h3 h4 => hs a b (by omega) (by omega))⟩⟩
theorem gok_6 {X : gX} {t : Nat} (h : gl6 t) (h1 : xlo X ≤ t) (h2 : t + 7 ≤ xhi X) (hs : ∀ k j, t ≤ k → k < t + 7 → xst X k j = true) : gok6 X t := ⟨⟨h.1, h1, by omega⟩, ⟨hs t 0 (by omega) (by omega), hs t 1 (by omega) (by omega), hs t 2 (by omega) (by omega)⟩, ⟨gok_5 h.2.1 (by omega) (by omega) (fun a b h3 h4 => hs a b (by omega) (by omega)), gok_5 h.2.2.1 (by omega) (by omega) (fun a b h3 h4 => hs a b (by omega) (by omega)), gok_5 h.2.2.2 (by omega) (by omega) (fun a b h3 h4 => hs a b (by omega) (by omega))⟩⟩
theorem gok_0 {X : gX} {t : Nat} (h : gl0 t) (h1 : xlo X ≤ t) (h2 : t + 15 ≤ xhi X) (hs : ∀ k j, t ≤ k → k < t + 15 → xst X k j = true) : gok0 X t := ⟨⟨h.1, h1, by omega⟩, ⟨hs t 0 (by omega) (by omega), hs t 1 (by omega) (by omega)⟩, ⟨gok_6 h.2.1 (by omega) (by omega) (fun a b h3 h4 => hs a b (by omega) (by omega)), gok_4 h.2.2 (by omega) (by omega) (fun a b h3 h4 => hs a b (by omega) (by omega))⟩⟩
theorem gok_3 {X : gX} {t : Nat} (h : gl3 t) (h1 : xlo X ≤ t) (h2 : t + 77 ≤ xhi X) (hs : ∀ k j, t ≤ k → k < t + 77 → xst X k j = true) : gok3 X t := ⟨⟨h.1, h1, by omega⟩, hs t 0 (by omega) (by omega), ⟨⟨h.2.1.1, by omega, by omega⟩, (fun j _ => hs _ j (by omega) (by omega)), fun j hj => gok_0 (h.2.2 j (by rw [h.2.1.2] at hj; exact hj)) (by omega) (by rw [h.2.1.2] at hj; omega) (fun a b h3 h4 => hs a b (by omega) (by rw [h.2.1.2] at hj; omega))⟩⟩
theorem gok_7 {X : gX} {t : Nat} (h : gl7 t) (h1 : xlo X ≤ t) (h2 : t + 8 ≤ xhi X) (hs : ∀ k j, t ≤ k → k < t + 8 → xst X k j = true) : gok7 X t := ⟨⟨h.1, h1, by omega⟩, ⟨hs t 0 (by omega) (by omega), hs t 1 (by omega) (by omega)⟩, ⟨gok_5 h.2.1 (by omega) (by omega) (fun a b h3 h4 => hs a b (by omega) (by omega)), gok_1 h.2.2 (by omega) (by omega) (fun a b h3 h4 => hs a b (by omega) (by omega))⟩⟩
theorem gok_8 {X : gX} {t : Nat} (h : gl8 t) (h1 : xlo X ≤ t) (h2 : t + 124 ≤ xhi X) (hs : ∀ k j, t ≤ k → k < t + 124 → xst X k j = true) : gok8 X t := ⟨⟨h.1, h1, by omega⟩, ⟨hs t 0 (by omega) (by omega), hs t 1 (by omega) (by omega), hs t 2 (by omega) (by omega), hs t 3 (by omega) (by omega), hs t 4 (by omega) (by omega), hs t 5 (by omega) (by omega)⟩, ⟨gok_0 h.2.1 (by omega) (by omega) (fun a b h3 h4 => hs a b (by omega) (by omega)), gok_0 h.2.2.1 (by omega) (by omega) (fun a b h3 h4 => hs a b (by omega) (by omega)), gok_3 h.2.2.2.1 (by omega) (by omega) (fun a b h3 h4 => hs a b (by omega) (by omega)), gok_2 h.2.2.2.2.1 (by omega) (by omega) (fun a b h3 h4 => hs a b (by omega) (by omega)), gok_7 h.2.2.2.2.2.1 (by omega) (by omega) (fun a b h3 h4 => hs a b (by omega) (by omega)), gok_1 h.2.2.2.2.2.2 (by omega) (by omega) (fun a b h3 h4 => hs a b (by omega) (by omega))⟩⟩
